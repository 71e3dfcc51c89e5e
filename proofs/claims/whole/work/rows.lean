section
/-- a private method of a class that the tables say can be made, by its rows of tables_1 -/
def lw_okq (q : MethodName × Nat) : Prop := (q.1.cls ≠ "java/lang/invoke/MethodHandle" ∧ q.1.cls ≠ "java/lang/invoke/VarHandle") ∧ Cond.instantiable q.1.cls q.2 ∈ tables_1 ∧ Cond.privateMethod q.1 ∈ tables_1 ∧ Cond.instanceMethod q.1 ∈ tables_1
theorem lw_p0 : lw_okq (⟨"CourtHand$LawReader", "readRule", "()V"⟩, 5) := ⟨⟨by decide +kernel, by decide +kernel⟩, List.mem_of_getElem? (i := 146) (by decide +kernel), List.mem_of_getElem? (i := 308) (by decide +kernel), List.mem_of_getElem? (i := 309) (by decide +kernel)⟩
theorem lw_p1 : lw_okq (⟨"CourtHand$LawReader", "sign", "()I"⟩, 5) := ⟨⟨by decide +kernel, by decide +kernel⟩, List.mem_of_getElem? (i := 146) (by decide +kernel), List.mem_of_getElem? (i := 312) (by decide +kernel), List.mem_of_getElem? (i := 313) (by decide +kernel)⟩
theorem lw_p2 : lw_okq (⟨"CourtHand$LawReader", "fail", "(I)V"⟩, 5) := ⟨⟨by decide +kernel, by decide +kernel⟩, List.mem_of_getElem? (i := 146) (by decide +kernel), List.mem_of_getElem? (i := 320) (by decide +kernel), List.mem_of_getElem? (i := 321) (by decide +kernel)⟩
theorem lw_p3 : lw_okq (⟨"CourtHand$LawReader", "readSum", "(I)V"⟩, 5) := ⟨⟨by decide +kernel, by decide +kernel⟩, List.mem_of_getElem? (i := 146) (by decide +kernel), List.mem_of_getElem? (i := 327) (by decide +kernel), List.mem_of_getElem? (i := 328) (by decide +kernel)⟩
theorem lw_p4 : lw_okq (⟨"CourtHand$LawReader", "readProduct", "(I)V"⟩, 5) := ⟨⟨by decide +kernel, by decide +kernel⟩, List.mem_of_getElem? (i := 146) (by decide +kernel), List.mem_of_getElem? (i := 331) (by decide +kernel), List.mem_of_getElem? (i := 332) (by decide +kernel)⟩
theorem lw_p5 : lw_okq (⟨"CourtHand$LawReader", "readFactor", "(I)V"⟩, 5) := ⟨⟨by decide +kernel, by decide +kernel⟩, List.mem_of_getElem? (i := 146) (by decide +kernel), List.mem_of_getElem? (i := 335) (by decide +kernel), List.mem_of_getElem? (i := 336) (by decide +kernel)⟩
theorem lw_p6 : lw_okq (⟨"CourtHand$LawReader", "opens", "(I)Z"⟩, 5) := ⟨⟨by decide +kernel, by decide +kernel⟩, List.mem_of_getElem? (i := 146) (by decide +kernel), List.mem_of_getElem? (i := 426) (by decide +kernel), List.mem_of_getElem? (i := 427) (by decide +kernel)⟩
theorem lw_p7 : lw_okq (⟨"CourtHand$LawReader", "pass", "(I)V"⟩, 5) := ⟨⟨by decide +kernel, by decide +kernel⟩, List.mem_of_getElem? (i := 146) (by decide +kernel), List.mem_of_getElem? (i := 430) (by decide +kernel), List.mem_of_getElem? (i := 431) (by decide +kernel)⟩
theorem lw_p8 : lw_okq (⟨"CourtHand$LawReader", "readNumber", "()V"⟩, 5) := ⟨⟨by decide +kernel, by decide +kernel⟩, List.mem_of_getElem? (i := 146) (by decide +kernel), List.mem_of_getElem? (i := 437) (by decide +kernel), List.mem_of_getElem? (i := 438) (by decide +kernel)⟩
theorem lw_p9 : lw_okq (⟨"CourtHand$LawReader", "isSign", "(II)Z"⟩, 5) := ⟨⟨by decide +kernel, by decide +kernel⟩, List.mem_of_getElem? (i := 146) (by decide +kernel), List.mem_of_getElem? (i := 445) (by decide +kernel), List.mem_of_getElem? (i := 446) (by decide +kernel)⟩
theorem lw_p10 : lw_okq (⟨"CourtHand$LawReader", "readCondition", "(I)V"⟩, 5) := ⟨⟨by decide +kernel, by decide +kernel⟩, List.mem_of_getElem? (i := 146) (by decide +kernel), List.mem_of_getElem? (i := 449) (by decide +kernel), List.mem_of_getElem? (i := 450) (by decide +kernel)⟩
theorem lw_p11 : lw_okq (⟨"CourtHand$LawReader", "readPart", "(I)V"⟩, 5) := ⟨⟨by decide +kernel, by decide +kernel⟩, List.mem_of_getElem? (i := 146) (by decide +kernel), List.mem_of_getElem? (i := 453) (by decide +kernel), List.mem_of_getElem? (i := 454) (by decide +kernel)⟩
theorem lw_p12 : lw_okq (⟨"CourtHand$LawReader", "readTest", "(I)V"⟩, 5) := ⟨⟨by decide +kernel, by decide +kernel⟩, List.mem_of_getElem? (i := 146) (by decide +kernel), List.mem_of_getElem? (i := 457) (by decide +kernel), List.mem_of_getElem? (i := 458) (by decide +kernel)⟩
theorem lw_p13 : lw_okq (⟨"CourtHand$Order", "openRound", "(I)I"⟩, 7) := ⟨⟨by decide +kernel, by decide +kernel⟩, List.mem_of_getElem? (i := 116) (by decide +kernel), List.mem_of_getElem? (i := 491) (by decide +kernel), List.mem_of_getElem? (i := 492) (by decide +kernel)⟩
theorem lw_p14 : lw_okq (⟨"CourtHand$Order", "shutRound", "(II)I"⟩, 7) := ⟨⟨by decide +kernel, by decide +kernel⟩, List.mem_of_getElem? (i := 116) (by decide +kernel), List.mem_of_getElem? (i := 496) (by decide +kernel), List.mem_of_getElem? (i := 497) (by decide +kernel)⟩
theorem lw_p15 : lw_okq (⟨"CourtHand$Order", "repeat", "(III)I"⟩, 7) := ⟨⟨by decide +kernel, by decide +kernel⟩, List.mem_of_getElem? (i := 116) (by decide +kernel), List.mem_of_getElem? (i := 500) (by decide +kernel), List.mem_of_getElem? (i := 501) (by decide +kernel)⟩
def lw_privs_1 : List (MethodName × Nat) := [(⟨"CourtHand$LawReader", "readRule", "()V"⟩, 5), (⟨"CourtHand$LawReader", "sign", "()I"⟩, 5), (⟨"CourtHand$LawReader", "fail", "(I)V"⟩, 5), (⟨"CourtHand$LawReader", "readSum", "(I)V"⟩, 5), (⟨"CourtHand$LawReader", "readProduct", "(I)V"⟩, 5), (⟨"CourtHand$LawReader", "readFactor", "(I)V"⟩, 5), (⟨"CourtHand$LawReader", "opens", "(I)Z"⟩, 5), (⟨"CourtHand$LawReader", "pass", "(I)V"⟩, 5), (⟨"CourtHand$LawReader", "readNumber", "()V"⟩, 5), (⟨"CourtHand$LawReader", "isSign", "(II)Z"⟩, 5), (⟨"CourtHand$LawReader", "readCondition", "(I)V"⟩, 5), (⟨"CourtHand$LawReader", "readPart", "(I)V"⟩, 5), (⟨"CourtHand$LawReader", "readTest", "(I)V"⟩, 5), (⟨"CourtHand$Order", "openRound", "(I)I"⟩, 7), (⟨"CourtHand$Order", "shutRound", "(II)I"⟩, 7), (⟨"CourtHand$Order", "repeat", "(III)I"⟩, 7)]
theorem lw_r1 : ∀ q ∈ lw_privs_1, lw_okq q := List.forall_mem_cons.mpr ⟨lw_p0, List.forall_mem_cons.mpr ⟨lw_p1, List.forall_mem_cons.mpr ⟨lw_p2, List.forall_mem_cons.mpr ⟨lw_p3, List.forall_mem_cons.mpr ⟨lw_p4, List.forall_mem_cons.mpr ⟨lw_p5, List.forall_mem_cons.mpr ⟨lw_p6, List.forall_mem_cons.mpr ⟨lw_p7, List.forall_mem_cons.mpr ⟨lw_p8, List.forall_mem_cons.mpr ⟨lw_p9, List.forall_mem_cons.mpr ⟨lw_p10, List.forall_mem_cons.mpr ⟨lw_p11, List.forall_mem_cons.mpr ⟨lw_p12, List.forall_mem_cons.mpr ⟨lw_p13, List.forall_mem_cons.mpr ⟨lw_p14, List.forall_mem_cons.mpr ⟨lw_p15, fun _ h => absurd h List.not_mem_nil⟩⟩⟩⟩⟩⟩⟩⟩⟩⟩⟩⟩⟩⟩⟩⟩
theorem lw_p16 : lw_okq (⟨"CourtHand$Order", "putLetter", "(III)I"⟩, 7) := ⟨⟨by decide +kernel, by decide +kernel⟩, List.mem_of_getElem? (i := 116) (by decide +kernel), List.mem_of_getElem? (i := 504) (by decide +kernel), List.mem_of_getElem? (i := 505) (by decide +kernel)⟩
theorem lw_p17 : lw_okq (⟨"CourtHand$Court", "passMoon", "(LCourtHand$Law;)V"⟩, 12) := ⟨⟨by decide +kernel, by decide +kernel⟩, List.mem_of_getElem? (i := 46) (by decide +kernel), List.mem_of_getElem? (i := 566) (by decide +kernel), List.mem_of_getElem? (i := 567) (by decide +kernel)⟩
theorem lw_p18 : lw_okq (⟨"CourtHand$Court", "isAhead", "(II)Z"⟩, 12) := ⟨⟨by decide +kernel, by decide +kernel⟩, List.mem_of_getElem? (i := 46) (by decide +kernel), List.mem_of_getElem? (i := 585) (by decide +kernel), List.mem_of_getElem? (i := 586) (by decide +kernel)⟩
theorem lw_p19 : lw_okq (⟨"CourtHand$Court", "takeTurn", "(ILCourtHand$Law;)V"⟩, 12) := ⟨⟨by decide +kernel, by decide +kernel⟩, List.mem_of_getElem? (i := 46) (by decide +kernel), List.mem_of_getElem? (i := 589) (by decide +kernel), List.mem_of_getElem? (i := 590) (by decide +kernel)⟩
theorem lw_p20 : lw_okq (⟨"CourtHand$Law", "run", "(I)I"⟩, 8) := ⟨⟨by decide +kernel, by decide +kernel⟩, List.mem_of_getElem? (i := 152) (by decide +kernel), List.mem_of_getElem? (i := 609) (by decide +kernel), List.mem_of_getElem? (i := 610) (by decide +kernel)⟩
theorem lw_p21 : lw_okq (⟨"CourtHand$Court", "practise", "(IILCourtHand$Law;)V"⟩, 12) := ⟨⟨by decide +kernel, by decide +kernel⟩, List.mem_of_getElem? (i := 46) (by decide +kernel), List.mem_of_getElem? (i := 620) (by decide +kernel), List.mem_of_getElem? (i := 621) (by decide +kernel)⟩
theorem lw_p22 : lw_okq (⟨"CourtHand$Court", "draw", "()I"⟩, 12) := ⟨⟨by decide +kernel, by decide +kernel⟩, List.mem_of_getElem? (i := 46) (by decide +kernel), List.mem_of_getElem? (i := 629) (by decide +kernel), List.mem_of_getElem? (i := 630) (by decide +kernel)⟩
theorem lw_p23 : lw_okq (⟨"CourtHand$Court", "mend", "(II)V"⟩, 12) := ⟨⟨by decide +kernel, by decide +kernel⟩, List.mem_of_getElem? (i := 46) (by decide +kernel), List.mem_of_getElem? (i := 634) (by decide +kernel), List.mem_of_getElem? (i := 635) (by decide +kernel)⟩
theorem lw_p24 : lw_okq (⟨"CourtHand", "canBeTried", "(I)Z"⟩, 11) := ⟨⟨by decide +kernel, by decide +kernel⟩, List.mem_of_getElem? (i := 21) (by decide +kernel), List.mem_of_getElem? (i := 643) (by decide +kernel), List.mem_of_getElem? (i := 644) (by decide +kernel)⟩
theorem lw_p25 : lw_okq (⟨"CourtHand", "triedOfOne", "(II)I"⟩, 11) := ⟨⟨by decide +kernel, by decide +kernel⟩, List.mem_of_getElem? (i := 21) (by decide +kernel), List.mem_of_getElem? (i := 651) (by decide +kernel), List.mem_of_getElem? (i := 652) (by decide +kernel)⟩
theorem lw_p26 : lw_okq (⟨"CourtHand", "formsRead", "(IZ)I"⟩, 11) := ⟨⟨by decide +kernel, by decide +kernel⟩, List.mem_of_getElem? (i := 21) (by decide +kernel), List.mem_of_getElem? (i := 661) (by decide +kernel), List.mem_of_getElem? (i := 662) (by decide +kernel)⟩
theorem lw_p27 : lw_okq (⟨"CourtHand", "inkLastsFor", "(I)I"⟩, 11) := ⟨⟨by decide +kernel, by decide +kernel⟩, List.mem_of_getElem? (i := 21) (by decide +kernel), List.mem_of_getElem? (i := 696) (by decide +kernel), List.mem_of_getElem? (i := 697) (by decide +kernel)⟩
theorem lw_p28 : lw_okq (⟨"CourtHand", "writtenLetter", "(III)I"⟩, 11) := ⟨⟨by decide +kernel, by decide +kernel⟩, List.mem_of_getElem? (i := 21) (by decide +kernel), List.mem_of_getElem? (i := 701) (by decide +kernel), List.mem_of_getElem? (i := 702) (by decide +kernel)⟩
theorem lw_p29 : lw_okq (⟨"CourtHand", "copyAlong", "(I)I"⟩, 11) := ⟨⟨by decide +kernel, by decide +kernel⟩, List.mem_of_getElem? (i := 21) (by decide +kernel), List.mem_of_getElem? (i := 710) (by decide +kernel), List.mem_of_getElem? (i := 711) (by decide +kernel)⟩
theorem lw_p30 : lw_okq (⟨"CourtHand", "placesAsTheyWere", "(I)I"⟩, 11) := ⟨⟨by decide +kernel, by decide +kernel⟩, List.mem_of_getElem? (i := 21) (by decide +kernel), List.mem_of_getElem? (i := 715) (by decide +kernel), List.mem_of_getElem? (i := 716) (by decide +kernel)⟩
theorem lw_p31 : lw_okq (⟨"CourtHand", "fewestDots", "(II)I"⟩, 11) := ⟨⟨by decide +kernel, by decide +kernel⟩, List.mem_of_getElem? (i := 21) (by decide +kernel), List.mem_of_getElem? (i := 723) (by decide +kernel), List.mem_of_getElem? (i := 724) (by decide +kernel)⟩
def lw_privs_2 : List (MethodName × Nat) := [(⟨"CourtHand$Order", "putLetter", "(III)I"⟩, 7), (⟨"CourtHand$Court", "passMoon", "(LCourtHand$Law;)V"⟩, 12), (⟨"CourtHand$Court", "isAhead", "(II)Z"⟩, 12), (⟨"CourtHand$Court", "takeTurn", "(ILCourtHand$Law;)V"⟩, 12), (⟨"CourtHand$Law", "run", "(I)I"⟩, 8), (⟨"CourtHand$Court", "practise", "(IILCourtHand$Law;)V"⟩, 12), (⟨"CourtHand$Court", "draw", "()I"⟩, 12), (⟨"CourtHand$Court", "mend", "(II)V"⟩, 12), (⟨"CourtHand", "canBeTried", "(I)Z"⟩, 11), (⟨"CourtHand", "triedOfOne", "(II)I"⟩, 11), (⟨"CourtHand", "formsRead", "(IZ)I"⟩, 11), (⟨"CourtHand", "inkLastsFor", "(I)I"⟩, 11), (⟨"CourtHand", "writtenLetter", "(III)I"⟩, 11), (⟨"CourtHand", "copyAlong", "(I)I"⟩, 11), (⟨"CourtHand", "placesAsTheyWere", "(I)I"⟩, 11), (⟨"CourtHand", "fewestDots", "(II)I"⟩, 11)]
theorem lw_r2 : ∀ q ∈ lw_privs_2, lw_okq q := List.forall_mem_cons.mpr ⟨lw_p16, List.forall_mem_cons.mpr ⟨lw_p17, List.forall_mem_cons.mpr ⟨lw_p18, List.forall_mem_cons.mpr ⟨lw_p19, List.forall_mem_cons.mpr ⟨lw_p20, List.forall_mem_cons.mpr ⟨lw_p21, List.forall_mem_cons.mpr ⟨lw_p22, List.forall_mem_cons.mpr ⟨lw_p23, List.forall_mem_cons.mpr ⟨lw_p24, List.forall_mem_cons.mpr ⟨lw_p25, List.forall_mem_cons.mpr ⟨lw_p26, List.forall_mem_cons.mpr ⟨lw_p27, List.forall_mem_cons.mpr ⟨lw_p28, List.forall_mem_cons.mpr ⟨lw_p29, List.forall_mem_cons.mpr ⟨lw_p30, List.forall_mem_cons.mpr ⟨lw_p31, fun _ h => absurd h List.not_mem_nil⟩⟩⟩⟩⟩⟩⟩⟩⟩⟩⟩⟩⟩⟩⟩⟩
theorem lw_p32 : lw_okq (⟨"CourtHand", "leastDots", "(III)I"⟩, 11) := ⟨⟨by decide +kernel, by decide +kernel⟩, List.mem_of_getElem? (i := 21) (by decide +kernel), List.mem_of_getElem? (i := 734) (by decide +kernel), List.mem_of_getElem? (i := 735) (by decide +kernel)⟩
theorem lw_p33 : lw_okq (⟨"CourtHand", "nearestHand", "(II)I"⟩, 11) := ⟨⟨by decide +kernel, by decide +kernel⟩, List.mem_of_getElem? (i := 21) (by decide +kernel), List.mem_of_getElem? (i := 747) (by decide +kernel), List.mem_of_getElem? (i := 748) (by decide +kernel)⟩
theorem lw_p34 : lw_okq (⟨"CourtHand", "farFromSheet", "(II)I"⟩, 11) := ⟨⟨by decide +kernel, by decide +kernel⟩, List.mem_of_getElem? (i := 21) (by decide +kernel), List.mem_of_getElem? (i := 752) (by decide +kernel), List.mem_of_getElem? (i := 753) (by decide +kernel)⟩
theorem lw_p35 : lw_okq (⟨"CourtHand", "markNear", "(I)V"⟩, 11) := ⟨⟨by decide +kernel, by decide +kernel⟩, List.mem_of_getElem? (i := 21) (by decide +kernel), List.mem_of_getElem? (i := 769) (by decide +kernel), List.mem_of_getElem? (i := 770) (by decide +kernel)⟩
theorem lw_p36 : lw_okq (⟨"CourtHand", "groups", "()I"⟩, 11) := ⟨⟨by decide +kernel, by decide +kernel⟩, List.mem_of_getElem? (i := 21) (by decide +kernel), List.mem_of_getElem? (i := 773) (by decide +kernel), List.mem_of_getElem? (i := 774) (by decide +kernel)⟩
theorem lw_p37 : lw_okq (⟨"CourtHand", "groupOf", "(I)I"⟩, 11) := ⟨⟨by decide +kernel, by decide +kernel⟩, List.mem_of_getElem? (i := 21) (by decide +kernel), List.mem_of_getElem? (i := 777) (by decide +kernel), List.mem_of_getElem? (i := 778) (by decide +kernel)⟩
theorem lw_p38 : lw_okq (⟨"CourtHandModel", "isTold", "(I)Z"⟩, 46) := ⟨⟨by decide +kernel, by decide +kernel⟩, List.mem_of_getElem? (i := 864) (by decide +kernel), List.mem_of_getElem? (i := 1031) (by decide +kernel), List.mem_of_getElem? (i := 1032) (by decide +kernel)⟩
theorem lw_p39 : lw_okq (⟨"CourtHandModel", "isLetter", "(I)Z"⟩, 46) := ⟨⟨by decide +kernel, by decide +kernel⟩, List.mem_of_getElem? (i := 864) (by decide +kernel), List.mem_of_getElem? (i := 1035) (by decide +kernel), List.mem_of_getElem? (i := 1036) (by decide +kernel)⟩
theorem lw_p40 : lw_okq (⟨"CourtHandModel", "types", "(I)V"⟩, 46) := ⟨⟨by decide +kernel, by decide +kernel⟩, List.mem_of_getElem? (i := 864) (by decide +kernel), List.mem_of_getElem? (i := 1043) (by decide +kernel), List.mem_of_getElem? (i := 1044) (by decide +kernel)⟩
theorem lw_p41 : lw_okq (⟨"CourtHandModel", "beginsText", "(I)V"⟩, 46) := ⟨⟨by decide +kernel, by decide +kernel⟩, List.mem_of_getElem? (i := 864) (by decide +kernel), List.mem_of_getElem? (i := 1051) (by decide +kernel), List.mem_of_getElem? (i := 1052) (by decide +kernel)⟩
theorem lw_p42 : lw_okq (⟨"CourtHandModel", "readsRule", "()Z"⟩, 46) := ⟨⟨by decide +kernel, by decide +kernel⟩, List.mem_of_getElem? (i := 864) (by decide +kernel), List.mem_of_getElem? (i := 1055) (by decide +kernel), List.mem_of_getElem? (i := 1056) (by decide +kernel)⟩
theorem lw_p43 : lw_okq (⟨"CourtHandModel", "here", "()I"⟩, 46) := ⟨⟨by decide +kernel, by decide +kernel⟩, List.mem_of_getElem? (i := 864) (by decide +kernel), List.mem_of_getElem? (i := 1059) (by decide +kernel), List.mem_of_getElem? (i := 1060) (by decide +kernel)⟩
theorem lw_p44 : lw_okq (⟨"CourtHandModel", "wrongAt", "(II)Z"⟩, 46) := ⟨⟨by decide +kernel, by decide +kernel⟩, List.mem_of_getElem? (i := 864) (by decide +kernel), List.mem_of_getElem? (i := 1063) (by decide +kernel), List.mem_of_getElem? (i := 1064) (by decide +kernel)⟩
theorem lw_p45 : lw_okq (⟨"CourtHandModel", "readsSum", "()Z"⟩, 46) := ⟨⟨by decide +kernel, by decide +kernel⟩, List.mem_of_getElem? (i := 864) (by decide +kernel), List.mem_of_getElem? (i := 1067) (by decide +kernel), List.mem_of_getElem? (i := 1068) (by decide +kernel)⟩
theorem lw_p46 : lw_okq (⟨"CourtHandModel", "readsFactor", "()Z"⟩, 46) := ⟨⟨by decide +kernel, by decide +kernel⟩, List.mem_of_getElem? (i := 864) (by decide +kernel), List.mem_of_getElem? (i := 1071) (by decide +kernel), List.mem_of_getElem? (i := 1072) (by decide +kernel)⟩
theorem lw_p47 : lw_okq (⟨"CourtHandModel", "opens", "(I)Z"⟩, 46) := ⟨⟨by decide +kernel, by decide +kernel⟩, List.mem_of_getElem? (i := 864) (by decide +kernel), List.mem_of_getElem? (i := 1075) (by decide +kernel), List.mem_of_getElem? (i := 1076) (by decide +kernel)⟩
def lw_privs_3 : List (MethodName × Nat) := [(⟨"CourtHand", "leastDots", "(III)I"⟩, 11), (⟨"CourtHand", "nearestHand", "(II)I"⟩, 11), (⟨"CourtHand", "farFromSheet", "(II)I"⟩, 11), (⟨"CourtHand", "markNear", "(I)V"⟩, 11), (⟨"CourtHand", "groups", "()I"⟩, 11), (⟨"CourtHand", "groupOf", "(I)I"⟩, 11), (⟨"CourtHandModel", "isTold", "(I)Z"⟩, 46), (⟨"CourtHandModel", "isLetter", "(I)Z"⟩, 46), (⟨"CourtHandModel", "types", "(I)V"⟩, 46), (⟨"CourtHandModel", "beginsText", "(I)V"⟩, 46), (⟨"CourtHandModel", "readsRule", "()Z"⟩, 46), (⟨"CourtHandModel", "here", "()I"⟩, 46), (⟨"CourtHandModel", "wrongAt", "(II)Z"⟩, 46), (⟨"CourtHandModel", "readsSum", "()Z"⟩, 46), (⟨"CourtHandModel", "readsFactor", "()Z"⟩, 46), (⟨"CourtHandModel", "opens", "(I)Z"⟩, 46)]
theorem lw_r3 : ∀ q ∈ lw_privs_3, lw_okq q := List.forall_mem_cons.mpr ⟨lw_p32, List.forall_mem_cons.mpr ⟨lw_p33, List.forall_mem_cons.mpr ⟨lw_p34, List.forall_mem_cons.mpr ⟨lw_p35, List.forall_mem_cons.mpr ⟨lw_p36, List.forall_mem_cons.mpr ⟨lw_p37, List.forall_mem_cons.mpr ⟨lw_p38, List.forall_mem_cons.mpr ⟨lw_p39, List.forall_mem_cons.mpr ⟨lw_p40, List.forall_mem_cons.mpr ⟨lw_p41, List.forall_mem_cons.mpr ⟨lw_p42, List.forall_mem_cons.mpr ⟨lw_p43, List.forall_mem_cons.mpr ⟨lw_p44, List.forall_mem_cons.mpr ⟨lw_p45, List.forall_mem_cons.mpr ⟨lw_p46, List.forall_mem_cons.mpr ⟨lw_p47, fun _ h => absurd h List.not_mem_nil⟩⟩⟩⟩⟩⟩⟩⟩⟩⟩⟩⟩⟩⟩⟩⟩
theorem lw_p48 : lw_okq (⟨"CourtHandModel", "isDigit", "()Z"⟩, 46) := ⟨⟨by decide +kernel, by decide +kernel⟩, List.mem_of_getElem? (i := 864) (by decide +kernel), List.mem_of_getElem? (i := 1080) (by decide +kernel), List.mem_of_getElem? (i := 1081) (by decide +kernel)⟩
theorem lw_p49 : lw_okq (⟨"CourtHandModel", "readsNumber", "()Z"⟩, 46) := ⟨⟨by decide +kernel, by decide +kernel⟩, List.mem_of_getElem? (i := 864) (by decide +kernel), List.mem_of_getElem? (i := 1084) (by decide +kernel), List.mem_of_getElem? (i := 1085) (by decide +kernel)⟩
theorem lw_p50 : lw_okq (⟨"CourtHandModel", "notes", "(II)V"⟩, 46) := ⟨⟨by decide +kernel, by decide +kernel⟩, List.mem_of_getElem? (i := 864) (by decide +kernel), List.mem_of_getElem? (i := 1088) (by decide +kernel), List.mem_of_getElem? (i := 1089) (by decide +kernel)⟩
theorem lw_p51 : lw_okq (⟨"CourtHandModel", "closesSums", "(Z)V"⟩, 46) := ⟨⟨by decide +kernel, by decide +kernel⟩, List.mem_of_getElem? (i := 864) (by decide +kernel), List.mem_of_getElem? (i := 1098) (by decide +kernel), List.mem_of_getElem? (i := 1099) (by decide +kernel)⟩
theorem lw_p52 : lw_okq (⟨"CourtHandModel", "waitTop", "()I"⟩, 46) := ⟨⟨by decide +kernel, by decide +kernel⟩, List.mem_of_getElem? (i := 864) (by decide +kernel), List.mem_of_getElem? (i := 1102) (by decide +kernel), List.mem_of_getElem? (i := 1103) (by decide +kernel)⟩
theorem lw_p53 : lw_okq (⟨"CourtHandModel", "hasOpenSum", "(I)Z"⟩, 46) := ⟨⟨by decide +kernel, by decide +kernel⟩, List.mem_of_getElem? (i := 864) (by decide +kernel), List.mem_of_getElem? (i := 1106) (by decide +kernel), List.mem_of_getElem? (i := 1107) (by decide +kernel)⟩
theorem lw_p54 : lw_okq (⟨"CourtHandModel", "readsCondition", "()Z"⟩, 46) := ⟨⟨by decide +kernel, by decide +kernel⟩, List.mem_of_getElem? (i := 864) (by decide +kernel), List.mem_of_getElem? (i := 1110) (by decide +kernel), List.mem_of_getElem? (i := 1111) (by decide +kernel)⟩
theorem lw_p55 : lw_okq (⟨"CourtHandModel", "readsCompared", "()Z"⟩, 46) := ⟨⟨by decide +kernel, by decide +kernel⟩, List.mem_of_getElem? (i := 864) (by decide +kernel), List.mem_of_getElem? (i := 1114) (by decide +kernel), List.mem_of_getElem? (i := 1115) (by decide +kernel)⟩
theorem lw_p56 : lw_okq (⟨"CourtHandModel", "endsPiece", "()V"⟩, 46) := ⟨⟨by decide +kernel, by decide +kernel⟩, List.mem_of_getElem? (i := 864) (by decide +kernel), List.mem_of_getElem? (i := 1118) (by decide +kernel), List.mem_of_getElem? (i := 1119) (by decide +kernel)⟩
theorem lw_p57 : lw_okq (⟨"CourtHandModel", "lands", "(Z)V"⟩, 46) := ⟨⟨by decide +kernel, by decide +kernel⟩, List.mem_of_getElem? (i := 864) (by decide +kernel), List.mem_of_getElem? (i := 1122) (by decide +kernel), List.mem_of_getElem? (i := 1123) (by decide +kernel)⟩
theorem lw_p58 : lw_okq (⟨"CourtHandModel", "jumps", "(I)V"⟩, 46) := ⟨⟨by decide +kernel, by decide +kernel⟩, List.mem_of_getElem? (i := 864) (by decide +kernel), List.mem_of_getElem? (i := 1126) (by decide +kernel), List.mem_of_getElem? (i := 1127) (by decide +kernel)⟩
theorem lw_p59 : lw_okq (⟨"CourtHandModel", "takes", "(I)Z"⟩, 46) := ⟨⟨by decide +kernel, by decide +kernel⟩, List.mem_of_getElem? (i := 864) (by decide +kernel), List.mem_of_getElem? (i := 1130) (by decide +kernel), List.mem_of_getElem? (i := 1131) (by decide +kernel)⟩
theorem lw_p60 : lw_okq (⟨"CourtHandModel", "readsItem", "()Z"⟩, 46) := ⟨⟨by decide +kernel, by decide +kernel⟩, List.mem_of_getElem? (i := 864) (by decide +kernel), List.mem_of_getElem? (i := 1138) (by decide +kernel), List.mem_of_getElem? (i := 1139) (by decide +kernel)⟩
theorem lw_p61 : lw_okq (⟨"CourtHandModel", "readsTimes", "()I"⟩, 46) := ⟨⟨by decide +kernel, by decide +kernel⟩, List.mem_of_getElem? (i := 864) (by decide +kernel), List.mem_of_getElem? (i := 1142) (by decide +kernel), List.mem_of_getElem? (i := 1143) (by decide +kernel)⟩
theorem lw_p62 : lw_okq (⟨"CourtHandModel", "octet", "(I)I"⟩, 46) := ⟨⟨by decide +kernel, by decide +kernel⟩, List.mem_of_getElem? (i := 864) (by decide +kernel), List.mem_of_getElem? (i := 1146) (by decide +kernel), List.mem_of_getElem? (i := 1147) (by decide +kernel)⟩
theorem lw_p63 : lw_okq (⟨"CourtHandModel", "repeats", "(III)Z"⟩, 46) := ⟨⟨by decide +kernel, by decide +kernel⟩, List.mem_of_getElem? (i := 864) (by decide +kernel), List.mem_of_getElem? (i := 1150) (by decide +kernel), List.mem_of_getElem? (i := 1151) (by decide +kernel)⟩
def lw_privs_4 : List (MethodName × Nat) := [(⟨"CourtHandModel", "isDigit", "()Z"⟩, 46), (⟨"CourtHandModel", "readsNumber", "()Z"⟩, 46), (⟨"CourtHandModel", "notes", "(II)V"⟩, 46), (⟨"CourtHandModel", "closesSums", "(Z)V"⟩, 46), (⟨"CourtHandModel", "waitTop", "()I"⟩, 46), (⟨"CourtHandModel", "hasOpenSum", "(I)Z"⟩, 46), (⟨"CourtHandModel", "readsCondition", "()Z"⟩, 46), (⟨"CourtHandModel", "readsCompared", "()Z"⟩, 46), (⟨"CourtHandModel", "endsPiece", "()V"⟩, 46), (⟨"CourtHandModel", "lands", "(Z)V"⟩, 46), (⟨"CourtHandModel", "jumps", "(I)V"⟩, 46), (⟨"CourtHandModel", "takes", "(I)Z"⟩, 46), (⟨"CourtHandModel", "readsItem", "()Z"⟩, 46), (⟨"CourtHandModel", "readsTimes", "()I"⟩, 46), (⟨"CourtHandModel", "octet", "(I)I"⟩, 46), (⟨"CourtHandModel", "repeats", "(III)Z"⟩, 46)]
theorem lw_r4 : ∀ q ∈ lw_privs_4, lw_okq q := List.forall_mem_cons.mpr ⟨lw_p48, List.forall_mem_cons.mpr ⟨lw_p49, List.forall_mem_cons.mpr ⟨lw_p50, List.forall_mem_cons.mpr ⟨lw_p51, List.forall_mem_cons.mpr ⟨lw_p52, List.forall_mem_cons.mpr ⟨lw_p53, List.forall_mem_cons.mpr ⟨lw_p54, List.forall_mem_cons.mpr ⟨lw_p55, List.forall_mem_cons.mpr ⟨lw_p56, List.forall_mem_cons.mpr ⟨lw_p57, List.forall_mem_cons.mpr ⟨lw_p58, List.forall_mem_cons.mpr ⟨lw_p59, List.forall_mem_cons.mpr ⟨lw_p60, List.forall_mem_cons.mpr ⟨lw_p61, List.forall_mem_cons.mpr ⟨lw_p62, List.forall_mem_cons.mpr ⟨lw_p63, fun _ h => absurd h List.not_mem_nil⟩⟩⟩⟩⟩⟩⟩⟩⟩⟩⟩⟩⟩⟩⟩⟩
theorem lw_p64 : lw_okq (⟨"CourtHandModel", "readsBlot", "()Z"⟩, 46) := ⟨⟨by decide +kernel, by decide +kernel⟩, List.mem_of_getElem? (i := 864) (by decide +kernel), List.mem_of_getElem? (i := 1161) (by decide +kernel), List.mem_of_getElem? (i := 1162) (by decide +kernel)⟩
theorem lw_p65 : lw_okq (⟨"CourtHandModel", "formNow", "(II)I"⟩, 46) := ⟨⟨by decide +kernel, by decide +kernel⟩, List.mem_of_getElem? (i := 864) (by decide +kernel), List.mem_of_getElem? (i := 1165) (by decide +kernel), List.mem_of_getElem? (i := 1166) (by decide +kernel)⟩
theorem lw_p66 : lw_okq (⟨"CourtHandModel", "moonsGo", "(I)V"⟩, 46) := ⟨⟨by decide +kernel, by decide +kernel⟩, List.mem_of_getElem? (i := 864) (by decide +kernel), List.mem_of_getElem? (i := 1191) (by decide +kernel), List.mem_of_getElem? (i := 1192) (by decide +kernel)⟩
theorem lw_p67 : lw_okq (⟨"CourtHandModel", "moonGoes", "()V"⟩, 46) := ⟨⟨by decide +kernel, by decide +kernel⟩, List.mem_of_getElem? (i := 864) (by decide +kernel), List.mem_of_getElem? (i := 1195) (by decide +kernel), List.mem_of_getElem? (i := 1196) (by decide +kernel)⟩
theorem lw_p68 : lw_okq (⟨"CourtHandModel", "rankOf", "(I)I"⟩, 46) := ⟨⟨by decide +kernel, by decide +kernel⟩, List.mem_of_getElem? (i := 864) (by decide +kernel), List.mem_of_getElem? (i := 1199) (by decide +kernel), List.mem_of_getElem? (i := 1200) (by decide +kernel)⟩
theorem lw_p69 : lw_okq (⟨"CourtHandModel", "isAhead", "(II)Z"⟩, 46) := ⟨⟨by decide +kernel, by decide +kernel⟩, List.mem_of_getElem? (i := 864) (by decide +kernel), List.mem_of_getElem? (i := 1203) (by decide +kernel), List.mem_of_getElem? (i := 1204) (by decide +kernel)⟩
theorem lw_p70 : lw_okq (⟨"CourtHandModel", "faultsOf", "(I)I"⟩, 46) := ⟨⟨by decide +kernel, by decide +kernel⟩, List.mem_of_getElem? (i := 864) (by decide +kernel), List.mem_of_getElem? (i := 1207) (by decide +kernel), List.mem_of_getElem? (i := 1208) (by decide +kernel)⟩
theorem lw_p71 : lw_okq (⟨"CourtHandModel", "feels", "(IIII)V"⟩, 46) := ⟨⟨by decide +kernel, by decide +kernel⟩, List.mem_of_getElem? (i := 864) (by decide +kernel), List.mem_of_getElem? (i := 1214) (by decide +kernel), List.mem_of_getElem? (i := 1215) (by decide +kernel)⟩
theorem lw_p72 : lw_okq (⟨"CourtHandModel", "byLaw", "(II)I"⟩, 46) := ⟨⟨by decide +kernel, by decide +kernel⟩, List.mem_of_getElem? (i := 864) (by decide +kernel), List.mem_of_getElem? (i := 1218) (by decide +kernel), List.mem_of_getElem? (i := 1219) (by decide +kernel)⟩
theorem lw_p73 : lw_okq (⟨"CourtHandModel", "comesTo", "(II)I"⟩, 46) := ⟨⟨by decide +kernel, by decide +kernel⟩, List.mem_of_getElem? (i := 864) (by decide +kernel), List.mem_of_getElem? (i := 1222) (by decide +kernel), List.mem_of_getElem? (i := 1223) (by decide +kernel)⟩
theorem lw_p74 : lw_okq (⟨"CourtHandModel", "practises", "(II)V"⟩, 46) := ⟨⟨by decide +kernel, by decide +kernel⟩, List.mem_of_getElem? (i := 864) (by decide +kernel), List.mem_of_getElem? (i := 1232) (by decide +kernel), List.mem_of_getElem? (i := 1233) (by decide +kernel)⟩
theorem lw_p75 : lw_okq (⟨"CourtHandModel", "holdsAny", "(I)Z"⟩, 46) := ⟨⟨by decide +kernel, by decide +kernel⟩, List.mem_of_getElem? (i := 864) (by decide +kernel), List.mem_of_getElem? (i := 1236) (by decide +kernel), List.mem_of_getElem? (i := 1237) (by decide +kernel)⟩
theorem lw_p76 : lw_okq (⟨"CourtHandModel", "draws", "()I"⟩, 46) := ⟨⟨by decide +kernel, by decide +kernel⟩, List.mem_of_getElem? (i := 864) (by decide +kernel), List.mem_of_getElem? (i := 1240) (by decide +kernel), List.mem_of_getElem? (i := 1241) (by decide +kernel)⟩
theorem lw_p77 : lw_okq (⟨"CourtHandModel", "firstInRank", "()I"⟩, 46) := ⟨⟨by decide +kernel, by decide +kernel⟩, List.mem_of_getElem? (i := 864) (by decide +kernel), List.mem_of_getElem? (i := 1249) (by decide +kernel), List.mem_of_getElem? (i := 1250) (by decide +kernel)⟩
theorem lw_p78 : lw_okq (⟨"CourtHandModel", "readsAs", "(I)I"⟩, 46) := ⟨⟨by decide +kernel, by decide +kernel⟩, List.mem_of_getElem? (i := 864) (by decide +kernel), List.mem_of_getElem? (i := 1257) (by decide +kernel), List.mem_of_getElem? (i := 1258) (by decide +kernel)⟩
theorem lw_p79 : lw_okq (⟨"CourtHandModel", "mayBe", "(III)V"⟩, 46) := ⟨⟨by decide +kernel, by decide +kernel⟩, List.mem_of_getElem? (i := 864) (by decide +kernel), List.mem_of_getElem? (i := 1290) (by decide +kernel), List.mem_of_getElem? (i := 1291) (by decide +kernel)⟩
def lw_privs_5 : List (MethodName × Nat) := [(⟨"CourtHandModel", "readsBlot", "()Z"⟩, 46), (⟨"CourtHandModel", "formNow", "(II)I"⟩, 46), (⟨"CourtHandModel", "moonsGo", "(I)V"⟩, 46), (⟨"CourtHandModel", "moonGoes", "()V"⟩, 46), (⟨"CourtHandModel", "rankOf", "(I)I"⟩, 46), (⟨"CourtHandModel", "isAhead", "(II)Z"⟩, 46), (⟨"CourtHandModel", "faultsOf", "(I)I"⟩, 46), (⟨"CourtHandModel", "feels", "(IIII)V"⟩, 46), (⟨"CourtHandModel", "byLaw", "(II)I"⟩, 46), (⟨"CourtHandModel", "comesTo", "(II)I"⟩, 46), (⟨"CourtHandModel", "practises", "(II)V"⟩, 46), (⟨"CourtHandModel", "holdsAny", "(I)Z"⟩, 46), (⟨"CourtHandModel", "draws", "()I"⟩, 46), (⟨"CourtHandModel", "firstInRank", "()I"⟩, 46), (⟨"CourtHandModel", "readsAs", "(I)I"⟩, 46), (⟨"CourtHandModel", "mayBe", "(III)V"⟩, 46)]
theorem lw_r5 : ∀ q ∈ lw_privs_5, lw_okq q := List.forall_mem_cons.mpr ⟨lw_p64, List.forall_mem_cons.mpr ⟨lw_p65, List.forall_mem_cons.mpr ⟨lw_p66, List.forall_mem_cons.mpr ⟨lw_p67, List.forall_mem_cons.mpr ⟨lw_p68, List.forall_mem_cons.mpr ⟨lw_p69, List.forall_mem_cons.mpr ⟨lw_p70, List.forall_mem_cons.mpr ⟨lw_p71, List.forall_mem_cons.mpr ⟨lw_p72, List.forall_mem_cons.mpr ⟨lw_p73, List.forall_mem_cons.mpr ⟨lw_p74, List.forall_mem_cons.mpr ⟨lw_p75, List.forall_mem_cons.mpr ⟨lw_p76, List.forall_mem_cons.mpr ⟨lw_p77, List.forall_mem_cons.mpr ⟨lw_p78, List.forall_mem_cons.mpr ⟨lw_p79, fun _ h => absurd h List.not_mem_nil⟩⟩⟩⟩⟩⟩⟩⟩⟩⟩⟩⟩⟩⟩⟩⟩
theorem lw_p80 : lw_okq (⟨"CourtHandModel", "modelSet", "()I"⟩, 46) := ⟨⟨by decide +kernel, by decide +kernel⟩, List.mem_of_getElem? (i := 864) (by decide +kernel), List.mem_of_getElem? (i := 1298) (by decide +kernel), List.mem_of_getElem? (i := 1299) (by decide +kernel)⟩
theorem lw_p81 : lw_okq (⟨"CourtHandModel", "toldSet", "()I"⟩, 46) := ⟨⟨by decide +kernel, by decide +kernel⟩, List.mem_of_getElem? (i := 864) (by decide +kernel), List.mem_of_getElem? (i := 1302) (by decide +kernel), List.mem_of_getElem? (i := 1303) (by decide +kernel)⟩
theorem lw_p82 : lw_okq (⟨"CourtHandModel", "readsSheet", "(I)Z"⟩, 46) := ⟨⟨by decide +kernel, by decide +kernel⟩, List.mem_of_getElem? (i := 864) (by decide +kernel), List.mem_of_getElem? (i := 1306) (by decide +kernel), List.mem_of_getElem? (i := 1307) (by decide +kernel)⟩
theorem lw_p83 : lw_okq (⟨"CourtHandModel", "apartInAll", "(II)I"⟩, 46) := ⟨⟨by decide +kernel, by decide +kernel⟩, List.mem_of_getElem? (i := 864) (by decide +kernel), List.mem_of_getElem? (i := 1314) (by decide +kernel), List.mem_of_getElem? (i := 1315) (by decide +kernel)⟩
theorem lw_p84 : lw_okq (⟨"CourtHandModel", "groupOf", "(II)I"⟩, 46) := ⟨⟨by decide +kernel, by decide +kernel⟩, List.mem_of_getElem? (i := 864) (by decide +kernel), List.mem_of_getElem? (i := 1322) (by decide +kernel), List.mem_of_getElem? (i := 1323) (by decide +kernel)⟩
theorem lw_p85 : lw_okq (⟨"CourtHandModel", "leastIn", "(I)I"⟩, 46) := ⟨⟨by decide +kernel, by decide +kernel⟩, List.mem_of_getElem? (i := 864) (by decide +kernel), List.mem_of_getElem? (i := 1383) (by decide +kernel), List.mem_of_getElem? (i := 1384) (by decide +kernel)⟩
def lw_privs_6 : List (MethodName × Nat) := [(⟨"CourtHandModel", "modelSet", "()I"⟩, 46), (⟨"CourtHandModel", "toldSet", "()I"⟩, 46), (⟨"CourtHandModel", "readsSheet", "(I)Z"⟩, 46), (⟨"CourtHandModel", "apartInAll", "(II)I"⟩, 46), (⟨"CourtHandModel", "groupOf", "(II)I"⟩, 46), (⟨"CourtHandModel", "leastIn", "(I)I"⟩, 46)]
theorem lw_r6 : ∀ q ∈ lw_privs_6, lw_okq q := List.forall_mem_cons.mpr ⟨lw_p80, List.forall_mem_cons.mpr ⟨lw_p81, List.forall_mem_cons.mpr ⟨lw_p82, List.forall_mem_cons.mpr ⟨lw_p83, List.forall_mem_cons.mpr ⟨lw_p84, List.forall_mem_cons.mpr ⟨lw_p85, fun _ h => absurd h List.not_mem_nil⟩⟩⟩⟩⟩⟩
def lw_privs : List (MethodName × Nat) := lw_privs_1 ++ (lw_privs_2 ++ (lw_privs_3 ++ (lw_privs_4 ++ (lw_privs_5 ++ (lw_privs_6)))))
def lw_tbl : List Cond := k2_sels lw_privs ++ tables_1
theorem lw_privs_ok : ∀ q ∈ lw_privs, lw_okq q := by
  show ∀ q ∈ lw_privs_1 ++ (lw_privs_2 ++ (lw_privs_3 ++ (lw_privs_4 ++ (lw_privs_5 ++ (lw_privs_6))))), lw_okq q
  exact List.forall_mem_append.mpr ⟨lw_r1, List.forall_mem_append.mpr ⟨lw_r2, List.forall_mem_append.mpr ⟨lw_r3, List.forall_mem_append.mpr ⟨lw_r4, List.forall_mem_append.mpr ⟨lw_r5, lw_r6⟩⟩⟩⟩⟩
end
section
abbrev mj_I : Type := Nat × ByteArray × Nat × Option FieldType × MethodName × Nat × Nat × List Nat
abbrev mj_M : Type := Nat → Nat → Int32
abbrev mj_r0 : mj_I := (8, prog_2_method_2_code, 9, (some .int), ⟨"CourtHand$Blots", "doLines", "(LCourtHand$Tape;ILCourtHand$Court;)I"⟩, 3, 100, [607, 606, 606, 104])
abbrev mj_r1 : mj_I := (8, prog_2_method_3_code, 7, (some .int), ⟨"CourtHand$Blots", "faultAhead", "(LCourtHand$Tape;IIILCourtHand$Court;)I"⟩, 5, 100, [610, 609, 609, 104])
abbrev mj_r2 : mj_I := (8, prog_2_method_4_code, 5, (some .int), ⟨"CourtHand$Blots", "lineEnd", "(LCourtHand$Tape;II)I"⟩, 3, 100, [617, 616, 616, 104])
abbrev mj_r3 : mj_I := (8, prog_2_method_5_code, 6, (some .int), ⟨"CourtHand$Blots", "blotted", "(ILCourtHand$Tape;II)I"⟩, 4, 100, [624, 623, 623, 104])
abbrev mj_r4 : mj_I := (0, prog_3_method_2_code, 2, none, ⟨"CourtHand$Court", "copyFrom", "(LCourtHand$Court;)V"⟩, 1, 0, [603, 601, 602, 89])
abbrev mj_r5 : mj_I := (0, prog_3_method_3_code, 2, (some .boolean), ⟨"CourtHand$Court", "has", "(I)Z"⟩, 1, 0, [356, 354, 355, 89])
abbrev mj_r6 : mj_I := (0, prog_3_method_4_code, 4, none, ⟨"CourtHand$Court", "tell", "(III)V"⟩, 3, 0, [342, 340, 341, 89])
abbrev mj_r7 : mj_I := (0, prog_3_method_5_code, 4, none, ⟨"CourtHand$Court", "setForm", "(III)V"⟩, 3, 0, [364, 362, 363, 89])
abbrev mj_r8 : mj_I := (0, prog_3_method_6_code, 4, (some .int), ⟨"CourtHand$Court", "formAt", "(II)I"⟩, 2, 0, [621, 619, 620, 89])
abbrev mj_r9 : mj_I := (0, prog_3_method_7_code, 5, (some .int), ⟨"CourtHand$Court", "faultsOf", "(I)I"⟩, 1, 0, [662, 660, 661, 89])
abbrev mj_r10 : mj_I := (0, prog_3_method_8_code, 5, (some .int), ⟨"CourtHand$Court", "handsApart", "(II)I"⟩, 2, 0, [848, 846, 847, 89])
abbrev mj_r11 : mj_I := (0, prog_3_method_9_code, 3, none, ⟨"CourtHand$Court", "rankAll", "()V"⟩, 0, 0, [658, 656, 657, 89])
abbrev mj_r12 : mj_I := (0, prog_3_method_10_code, 3, (some .boolean), ⟨"CourtHand$Court", "isAhead", "(II)Z"⟩, 2, 0, [673, 672, 18, 89])
abbrev mj_r13 : mj_I := (0, prog_3_method_11_code, 2, (some .int), ⟨"CourtHand$Court", "firstInRank", "()I"⟩, 0, 0, [735, 733, 734, 89])
abbrev mj_r14 : mj_I := (0, prog_3_method_12_code, 4, none, ⟨"CourtHand$Court", "passMoons", "(ILCourtHand$Law;)V"⟩, 2, 0, [650, 648, 649, 89])
abbrev mj_r15 : mj_I := (0, prog_3_method_13_code, 3, none, ⟨"CourtHand$Court", "passMoon", "(LCourtHand$Law;)V"⟩, 1, 0, [654, 653, 17, 89])
abbrev mj_r16 : mj_I := (0, prog_3_method_14_code, 4, none, ⟨"CourtHand$Court", "takeTurn", "(ILCourtHand$Law;)V"⟩, 2, 0, [677, 676, 19, 89])
abbrev mj_r17 : mj_I := (0, prog_3_method_15_code, 10, none, ⟨"CourtHand$Court", "practise", "(IILCourtHand$Law;)V"⟩, 3, 0, [708, 707, 21, 89])
abbrev mj_r18 : mj_I := (0, prog_3_method_16_code, 5, none, ⟨"CourtHand$Court", "mend", "(II)V"⟩, 2, 0, [722, 721, 23, 89])
abbrev mj_r19 : mj_I := (0, prog_3_method_17_code, 1, (some .int), ⟨"CourtHand$Court", "draw", "()I"⟩, 0, 0, [717, 716, 22, 89])
abbrev mj_r20 : mj_I := (9, prog_4_method_2_code, 1, (some .boolean), ⟨"CourtHand$Grids", "fits", "(I)Z"⟩, 1, 100, [329, 328, 328, 96])
abbrev mj_r21 : mj_I := (9, prog_4_method_3_code, 2, (some .int), ⟨"CourtHand$Grids", "gap", "(II)I"⟩, 2, 100, [775, 774, 774, 96])
abbrev mj_r22 : mj_I := (9, prog_4_method_4_code, 1, (some .int), ⟨"CourtHand$Grids", "toLeft", "(I)I"⟩, 1, 100, [628, 627, 627, 96])
abbrev mj_r23 : mj_I := (9, prog_4_method_5_code, 1, (some .int), ⟨"CourtHand$Grids", "toRight", "(I)I"⟩, 1, 100, [632, 631, 631, 96])
abbrev mj_r24 : mj_I := (9, prog_4_method_6_code, 1, (some .int), ⟨"CourtHand$Grids", "toTop", "(I)I"⟩, 1, 100, [892, 891, 891, 96])
abbrev mj_r25 : mj_I := (9, prog_4_method_7_code, 1, (some .int), ⟨"CourtHand$Grids", "toBottom", "(I)I"⟩, 1, 100, [895, 894, 894, 96])
abbrev mj_r26 : mj_I := (9, prog_4_method_8_code, 1, (some .int), ⟨"CourtHand$Grids", "mirrored", "(I)I"⟩, 1, 100, [636, 635, 635, 96])
abbrev mj_r27 : mj_I := (9, prog_4_method_9_code, 5, (some .int), ⟨"CourtHand$Grids", "turned", "(I)I"⟩, 1, 100, [906, 905, 905, 96])
abbrev mj_r28 : mj_I := (9, prog_4_method_10_code, 4, (some .int), ⟨"CourtHand$Grids", "likeness", "(II)I"⟩, 2, 100, [917, 916, 916, 96])
abbrev mj_r29 : mj_I := (9, prog_4_method_11_code, 7, (some .int), ⟨"CourtHand$Grids", "lowestPart", "(IZ)I"⟩, 2, 100, [887, 886, 886, 96])
abbrev mj_r30 : mj_I := (9, prog_4_method_12_code, 5, (some .int), ⟨"CourtHand$Grids", "loops", "(I)I"⟩, 1, 100, [884, 883, 883, 96])
abbrev mj_r31 : mj_I := (9, prog_4_method_13_code, 4, (some .int), ⟨"CourtHand$Grids", "strokes", "(I)I"⟩, 1, 100, [899, 898, 898, 96])
abbrev mj_r32 : mj_I := (9, prog_4_method_14_code, 8, (some .int), ⟨"CourtHand$Grids", "cross", "(I)I"⟩, 1, 100, [902, 901, 901, 96])
abbrev mj_r33 : mj_I := (9, prog_4_method_15_code, 6, (some .int), ⟨"CourtHand$Grids", "penLifts", "(I)I"⟩, 1, 100, [909, 908, 908, 96])
abbrev mj_r34 : mj_I := (1, prog_5_method_2_code, 5, none, ⟨"CourtHand$Law", "meet", "(IIII)V"⟩, 4, 1, [681, 679, 680, 94])
abbrev mj_r35 : mj_I := (1, prog_5_method_3_code, 3, none, ⟨"CourtHand$Law", "see", "(II)V"⟩, 2, 1, [685, 683, 684, 94])
abbrev mj_r36 : mj_I := (1, prog_5_method_4_code, 4, none, ⟨"CourtHand$Law", "lookAt", "(III)V"⟩, 3, 1, [689, 687, 688, 94])
abbrev mj_r37 : mj_I := (1, prog_5_method_5_code, 4, (some .int), ⟨"CourtHand$Law", "worth", "(II)I"⟩, 2, 1, [693, 691, 692, 94])
abbrev mj_r38 : mj_I := (1, prog_5_method_6_code, 2, (some .boolean), ⟨"CourtHand$Law", "forbids", "()Z"⟩, 0, 1, [713, 711, 712, 94])
abbrev mj_r39 : mj_I := (1, prog_5_method_7_code, 7, (some .int), ⟨"CourtHand$Law", "run", "(I)I"⟩, 1, 1, [697, 696, 20, 94])
abbrev mj_r40 : mj_I := (1, prog_5_method_8_code, 3, (some .int), ⟨"CourtHand$Law", "reckon", "(III)I"⟩, 3, 100, [700, 699, 699, 94])
abbrev mj_r41 : mj_I := (1, prog_5_method_9_code, 1, none, ⟨"CourtHand$Law", "begin", "()V"⟩, 0, 1, [392, 390, 391, 94])
abbrev mj_r42 : mj_I := (1, prog_5_method_10_code, 2, none, ⟨"CourtHand$Law", "put", "(I)V"⟩, 1, 1, [529, 527, 528, 94])
abbrev mj_r43 : mj_I := (1, prog_5_method_11_code, 2, (some .int), ⟨"CourtHand$Law", "putLeap", "(I)I"⟩, 1, 1, [549, 547, 548, 94])
abbrev mj_r44 : mj_I := (1, prog_5_method_12_code, 2, none, ⟨"CourtHand$Law", "endLeap", "(I)V"⟩, 1, 1, [554, 552, 553, 94])
abbrev mj_r45 : mj_I := (1, prog_5_method_13_code, 4, none, ⟨"CourtHand$Law", "addRule", "(III)V"⟩, 3, 1, [558, 556, 557, 94])
abbrev mj_r46 : mj_I := (2, prog_6_method_2_code, 3, (some (.object "CourtHand$Law")), ⟨"CourtHand$LawReader", "handOver", "(LCourtHand$Law;)LCourtHand$Law;"⟩, 1, 2, [562, 560, 561, 93])
abbrev mj_r47 : mj_I := (2, prog_6_method_3_code, 3, (some .int), ⟨"CourtHand$LawReader", "readLaw", "(I)I"⟩, 1, 2, [388, 386, 387, 93])
abbrev mj_r48 : mj_I := (2, prog_6_method_4_code, 1, (some .int), ⟨"CourtHand$LawReader", "sign", "()I"⟩, 0, 2, [400, 399, 1, 93])
abbrev mj_r49 : mj_I := (2, prog_6_method_5_code, 4, (some .boolean), ⟨"CourtHand$LawReader", "isSign", "(II)Z"⟩, 2, 2, [533, 532, 9, 93])
abbrev mj_r50 : mj_I := (2, prog_6_method_6_code, 2, none, ⟨"CourtHand$LawReader", "fail", "(I)V"⟩, 1, 2, [408, 407, 2, 93])
abbrev mj_r51 : mj_I := (2, prog_6_method_7_code, 2, none, ⟨"CourtHand$LawReader", "pass", "(I)V"⟩, 1, 2, [518, 517, 7, 93])
abbrev mj_r52 : mj_I := (2, prog_6_method_8_code, 2, (some .boolean), ⟨"CourtHand$LawReader", "opens", "(I)Z"⟩, 1, 2, [514, 513, 6, 93])
abbrev mj_r53 : mj_I := (2, prog_6_method_9_code, 4, none, ⟨"CourtHand$LawReader", "readRule", "()V"⟩, 0, 2, [396, 395, 0, 93])
abbrev mj_r54 : mj_I := (2, prog_6_method_10_code, 4, none, ⟨"CourtHand$LawReader", "readCondition", "(I)V"⟩, 1, 2, [537, 536, 10, 93])
abbrev mj_r55 : mj_I := (2, prog_6_method_11_code, 4, none, ⟨"CourtHand$LawReader", "readPart", "(I)V"⟩, 1, 2, [541, 540, 11, 93])
abbrev mj_r56 : mj_I := (2, prog_6_method_12_code, 4, none, ⟨"CourtHand$LawReader", "readTest", "(I)V"⟩, 1, 2, [545, 544, 12, 93])
abbrev mj_r57 : mj_I := (2, prog_6_method_13_code, 4, none, ⟨"CourtHand$LawReader", "readSum", "(I)V"⟩, 1, 2, [415, 414, 3, 93])
abbrev mj_r58 : mj_I := (2, prog_6_method_14_code, 4, none, ⟨"CourtHand$LawReader", "readProduct", "(I)V"⟩, 1, 2, [419, 418, 4, 93])
abbrev mj_r59 : mj_I := (2, prog_6_method_15_code, 4, none, ⟨"CourtHand$LawReader", "readFactor", "(I)V"⟩, 1, 2, [423, 422, 5, 93])
abbrev mj_r60 : mj_I := (2, prog_6_method_16_code, 3, none, ⟨"CourtHand$LawReader", "readNumber", "()V"⟩, 0, 2, [525, 524, 8, 93])
abbrev mj_r61 : mj_I := (2, prog_6_method_17_code, 1, (some .boolean), ⟨"CourtHand$LawReader", "isDigit", "(I)Z"⟩, 1, 100, [521, 520, 520, 93])
abbrev mj_r62 : mj_I := (3, prog_7_method_2_code, 2, (some .boolean), ⟨"CourtHand$Models", "has", "(I)Z"⟩, 1, 3, [360, 358, 359, 88])
abbrev mj_r63 : mj_I := (3, prog_7_method_3_code, 3, none, ⟨"CourtHand$Models", "tell", "(II)V"⟩, 2, 3, [334, 332, 333, 88])
abbrev mj_r64 : mj_I := (3, prog_7_method_4_code, 6, (some .int), ⟨"CourtHand$Models", "nearest", "(I)I"⟩, 1, 3, [754, 752, 753, 88])
abbrev mj_r65 : mj_I := (3, prog_7_method_5_code, 5, (some .int), ⟨"CourtHand$Models", "behind", "(II)I"⟩, 2, 3, [815, 813, 814, 88])
abbrev mj_r66 : mj_I := (3, prog_7_method_6_code, 5, (some .int), ⟨"CourtHand$Models", "leastApart", "(I)I"⟩, 1, 3, [927, 925, 926, 88])
abbrev mj_r67 : mj_I := (4, prog_8_method_2_code, 8, (some .int), ⟨"CourtHand$Order", "readOrder", "(LCourtHand$Tape;I)I"⟩, 2, 4, [571, 569, 570, 92])
abbrev mj_r68 : mj_I := (4, prog_8_method_3_code, 2, (some .int), ⟨"CourtHand$Order", "openRound", "(I)I"⟩, 1, 4, [579, 578, 13, 92])
abbrev mj_r69 : mj_I := (4, prog_8_method_4_code, 3, (some .int), ⟨"CourtHand$Order", "shutRound", "(II)I"⟩, 2, 4, [584, 583, 14, 92])
abbrev mj_r70 : mj_I := (4, prog_8_method_5_code, 4, (some .int), ⟨"CourtHand$Order", "putLetter", "(III)I"⟩, 3, 4, [592, 591, 16, 92])
abbrev mj_r71 : mj_I := (4, prog_8_method_6_code, 7, (some .int), ⟨"CourtHand$Order", "repeat", "(III)I"⟩, 3, 4, [588, 587, 15, 92])
abbrev mj_r72 : mj_I := (4, prog_8_method_7_code, 4, (some .int), ⟨"CourtHand$Order", "timesAt", "(LCourtHand$Tape;II)I"⟩, 3, 100, [575, 574, 574, 92])
abbrev mj_r73 : mj_I := (5, prog_9_method_2_code, 1, (some .boolean), ⟨"CourtHand$Tape", "hasRoom", "()Z"⟩, 0, 5, [372, 370, 371, 91])
abbrev mj_r74 : mj_I := (5, prog_9_method_3_code, 3, none, ⟨"CourtHand$Tape", "addInt", "(I)V"⟩, 1, 5, [376, 374, 375, 91])
abbrev mj_r75 : mj_I := (5, prog_9_method_4_code, 4, (some .boolean), ⟨"CourtHand$Tape", "has", "(III)Z"⟩, 3, 5, [384, 382, 383, 91])
abbrev mj_r76 : mj_I := (5, prog_9_method_5_code, 2, (some .int), ⟨"CourtHand$Tape", "byteAt", "(I)I"⟩, 1, 5, [404, 402, 403, 91])
abbrev mj_r77 : mj_I := (5, prog_9_method_6_code, 4, (some .int), ⟨"CourtHand$Tape", "intAt", "(I)I"⟩, 1, 5, [830, 828, 829, 91])
abbrev mj_r78 : mj_I := (6, prog_1_method_2_code, 3, (some .boolean), ⟨"CourtHand", "model", "(II)Z"⟩, 2, 6, [326, 324, 325, 87])
abbrev mj_r79 : mj_I := (6, prog_1_method_3_code, 4, (some .boolean), ⟨"CourtHand", "courtier", "(III)Z"⟩, 3, 6, [338, 336, 337, 87])
abbrev mj_r80 : mj_I := (6, prog_1_method_4_code, 4, (some .boolean), ⟨"CourtHand", "form", "(III)Z"⟩, 3, 6, [352, 350, 351, 87])
abbrev mj_r81 : mj_I := (6, prog_1_method_5_code, 6, (some .int), ⟨"CourtHand", "feed", "(IIIII)I"⟩, 5, 6, [368, 366, 367, 87])
abbrev mj_r82 : mj_I := (6, prog_1_method_6_code, 3, (some .int), ⟨"CourtHand", "law", "(I)I"⟩, 1, 6, [380, 378, 379, 87])
abbrev mj_r83 : mj_I := (6, prog_1_method_7_code, 3, (some .int), ⟨"CourtHand", "order", "(I)I"⟩, 1, 6, [567, 565, 566, 87])
abbrev mj_r84 : mj_I := (6, prog_1_method_8_code, 3, (some .int), ⟨"CourtHand", "blots", "(I)I"⟩, 1, 6, [599, 597, 598, 87])
abbrev mj_r85 : mj_I := (6, prog_1_method_9_code, 2, (some .int), ⟨"CourtHand", "moons", "(I)I"⟩, 1, 6, [646, 644, 645, 87])
abbrev mj_r86 : mj_I := (6, prog_1_method_10_code, 3, (some .int), ⟨"CourtHand", "tried", "(II)I"⟩, 2, 6, [727, 725, 726, 87])
abbrev mj_r87 : mj_I := (6, prog_1_method_11_code, 2, (some .boolean), ⟨"CourtHand", "canBeTried", "(I)Z"⟩, 1, 6, [731, 730, 24, 87])
abbrev mj_r88 : mj_I := (6, prog_1_method_12_code, 3, (some .int), ⟨"CourtHand", "triedOfOne", "(II)I"⟩, 2, 6, [739, 738, 25, 87])
abbrev mj_r89 : mj_I := (6, prog_1_method_13_code, 3, (some .int), ⟨"CourtHand", "courtierIs", "(II)I"⟩, 2, 6, [745, 743, 744, 87])
abbrev mj_r90 : mj_I := (6, prog_1_method_14_code, 5, (some .int), ⟨"CourtHand", "formsRead", "(IZ)I"⟩, 2, 6, [749, 748, 26, 87])
abbrev mj_r91 : mj_I := (6, prog_1_method_15_code, 3, (some .int), ⟨"CourtHand", "formOf", "(II)I"⟩, 2, 6, [760, 758, 759, 87])
abbrev mj_r92 : mj_I := (6, prog_1_method_16_code, 2, (some .int), ⟨"CourtHand", "modelOf", "(I)I"⟩, 1, 6, [764, 762, 763, 87])
abbrev mj_r93 : mj_I := (6, prog_1_method_17_code, 2, (some .int), ⟨"CourtHand", "read", "(I)I"⟩, 1, 6, [768, 766, 767, 87])
abbrev mj_r94 : mj_I := (6, prog_1_method_18_code, 3, (some .int), ⟨"CourtHand", "apart", "(II)I"⟩, 2, 6, [772, 770, 771, 87])
abbrev mj_r95 : mj_I := (6, prog_1_method_19_code, 6, (some .int), ⟨"CourtHand", "written", "(II)I"⟩, 2, 6, [780, 778, 779, 87])
abbrev mj_r96 : mj_I := (6, prog_1_method_20_code, 6, (some .int), ⟨"CourtHand", "writtenLetter", "(III)I"⟩, 3, 6, [789, 788, 28, 87])
abbrev mj_r97 : mj_I := (6, prog_1_method_21_code, 5, (some .int), ⟨"CourtHand", "inkLastsFor", "(I)I"⟩, 1, 6, [784, 783, 27, 87])
abbrev mj_r98 : mj_I := (6, prog_1_method_22_code, 5, (some .int), ⟨"CourtHand", "copied", "(II)I"⟩, 2, 6, [793, 791, 792, 87])
abbrev mj_r99 : mj_I := (6, prog_1_method_23_code, 9, (some .int), ⟨"CourtHand", "copyAlong", "(I)I"⟩, 1, 6, [798, 797, 29, 87])
abbrev mj_r100 : mj_I := (6, prog_1_method_24_code, 4, (some .int), ⟨"CourtHand", "placesAsTheyWere", "(I)I"⟩, 1, 6, [803, 802, 30, 87])
abbrev mj_r101 : mj_I := (6, prog_1_method_25_code, 5, (some .int), ⟨"CourtHand", "another", "(III)I"⟩, 3, 6, [807, 805, 806, 87])
abbrev mj_r102 : mj_I := (6, prog_1_method_26_code, 6, (some .int), ⟨"CourtHand", "fewestDots", "(II)I"⟩, 2, 6, [811, 810, 31, 87])
abbrev mj_r103 : mj_I := (6, prog_1_method_27_code, 10, (some .int), ⟨"CourtHand", "leastDots", "(III)I"⟩, 3, 6, [822, 821, 32, 87])
abbrev mj_r104 : mj_I := (6, prog_1_method_28_code, 6, (some .int), ⟨"CourtHand", "whose", "(II)I"⟩, 2, 6, [826, 824, 825, 87])
abbrev mj_r105 : mj_I := (6, prog_1_method_29_code, 8, (some .int), ⟨"CourtHand", "nearestHand", "(II)I"⟩, 2, 6, [835, 834, 33, 87])
abbrev mj_r106 : mj_I := (6, prog_1_method_30_code, 6, (some .int), ⟨"CourtHand", "farFromSheet", "(II)I"⟩, 2, 6, [840, 839, 34, 87])
abbrev mj_r107 : mj_I := (6, prog_1_method_31_code, 3, (some .int), ⟨"CourtHand", "forge", "(II)I"⟩, 2, 6, [844, 842, 843, 87])
abbrev mj_r108 : mj_I := (6, prog_1_method_32_code, 3, (some .int), ⟨"CourtHand", "alike", "(II)I"⟩, 2, 6, [853, 851, 852, 87])
abbrev mj_r109 : mj_I := (6, prog_1_method_33_code, 4, none, ⟨"CourtHand", "markNear", "(I)V"⟩, 1, 6, [857, 856, 35, 87])
abbrev mj_r110 : mj_I := (6, prog_1_method_34_code, 4, (some .int), ⟨"CourtHand", "groups", "()I"⟩, 0, 6, [861, 860, 36, 87])
abbrev mj_r111 : mj_I := (6, prog_1_method_35_code, 5, (some .int), ⟨"CourtHand", "groupOf", "(I)I"⟩, 1, 6, [865, 864, 37, 87])
abbrev mj_r112 : mj_I := (6, prog_1_method_36_code, 7, (some .int), ⟨"CourtHand", "rises", "(II)I"⟩, 2, 6, [869, 867, 868, 87])
abbrev mj_r113 : mj_I := (6, prog_1_method_37_code, 1, (some .int), ⟨"CourtHand", "commands", "()I"⟩, 0, 6, [873, 871, 872, 87])
abbrev mj_r114 : mj_I := (6, prog_1_method_38_code, 9, (some .int), ⟨"CourtHand", "clear", "(II)I"⟩, 2, 6, [877, 875, 876, 87])
abbrev mj_r115 : mj_I := (6, prog_1_method_39_code, 3, (some .int), ⟨"CourtHand", "shape", "(II)I"⟩, 2, 6, [881, 879, 880, 87])
abbrev mj_r116 : mj_I := (6, prog_1_method_40_code, 3, (some .int), ⟨"CourtHand", "like", "(II)I"⟩, 2, 6, [914, 912, 913, 87])
abbrev mj_r117 : mj_I := (6, prog_1_method_41_code, 7, (some .int), ⟨"CourtHand", "toldApart", "(II)I"⟩, 2, 6, [923, 921, 922, 87])
abbrev mj_r118 : mj_I := (6, prog_1_method_42_code, 2, (some .boolean), ⟨"CourtHand", "seed", "(I)Z"⟩, 1, 6, [931, 929, 930, 87])
abbrev mj_r119 : mj_I := (6, prog_1_method_43_code, 1, (some .int), ⟨"CourtHand", "keep", "()I"⟩, 0, 6, [936, 934, 935, 87])
abbrev mj_r120 : mj_I := (6, prog_1_method_44_code, 1, (some .boolean), ⟨"CourtHand", "undo", "()Z"⟩, 0, 6, [940, 938, 939, 87])
abbrev mj_r121 : mj_I := (6, prog_1_method_45_code, 4, (some .int), ⟨"CourtHand", "check", "(I)I"⟩, 1, 6, [944, 942, 943, 87])
abbrev mj_r122 : mj_I := (6, prog_1_method_46_code, 2, (some .int), ⟨"CourtHand", "count", "(I)I"⟩, 1, 6, [948, 946, 947, 87])
abbrev mj_r123 : mj_I := (6, prog_1_method_47_code, 2, (some .int), ⟨"CourtHand", "fault", "(II)I"⟩, 2, 100, [411, 410, 410, 87])
abbrev mj_r124 : mj_I := (7, prog_11_method_2_code, 3, (some .boolean), ⟨"CourtHandModel", "in", "(III)Z"⟩, 3, 100, [1100, 1099, 1099, 95])
abbrev mj_r125 : mj_I := (7, prog_11_method_3_code, 2, (some .int), ⟨"CourtHandModel", "min", "(II)I"⟩, 2, 100, [1316, 1315, 1315, 95])
abbrev mj_r126 : mj_I := (7, prog_11_method_4_code, 2, (some .int), ⟨"CourtHandModel", "max", "(II)I"⟩, 2, 100, [1450, 1449, 1449, 95])
abbrev mj_r127 : mj_I := (7, prog_11_method_5_code, 2, (some .boolean), ⟨"CourtHandModel", "has", "(II)Z"⟩, 2, 100, [1265, 1264, 1264, 95])
abbrev mj_r128 : mj_I := (7, prog_11_method_6_code, 3, (some .int), ⟨"CourtHandModel", "bits", "(I)I"⟩, 1, 100, [1298, 1297, 1297, 95])
abbrev mj_r129 : mj_I := (7, prog_11_method_7_code, 3, none, ⟨"CourtHandModel", "copies", "([I[I)V"⟩, 2, 100, [1245, 1244, 1244, 95])
abbrev mj_r130 : mj_I := (7, prog_11_method_8_code, 1, (some .boolean), ⟨"CourtHandModel", "isGrid", "(I)Z"⟩, 1, 100, [1103, 1102, 1102, 95])
abbrev mj_r131 : mj_I := (7, prog_11_method_9_code, 2, (some .boolean), ⟨"CourtHandModel", "isLetter", "(I)Z"⟩, 1, 7, [1123, 1122, 39, 95])
abbrev mj_r132 : mj_I := (7, prog_11_method_10_code, 2, (some .boolean), ⟨"CourtHandModel", "isTold", "(I)Z"⟩, 1, 7, [1119, 1118, 38, 95])
abbrev mj_r133 : mj_I := (7, prog_11_method_11_code, 3, (some .int), ⟨"CourtHandModel", "modelSet", "()I"⟩, 0, 7, [1386, 1385, 80, 95])
abbrev mj_r134 : mj_I := (7, prog_11_method_12_code, 3, (some .int), ⟨"CourtHandModel", "toldSet", "()I"⟩, 0, 7, [1390, 1389, 81, 95])
abbrev mj_r135 : mj_I := (7, prog_11_method_13_code, 2, (some .int), ⟨"CourtHandModel", "own", "(II)I"⟩, 2, 100, [1111, 1110, 1110, 95])
abbrev mj_r136 : mj_I := (7, prog_11_method_14_code, 3, (some .int), ⟨"CourtHandModel", "formNow", "(II)I"⟩, 2, 7, [1253, 1252, 65, 95])
abbrev mj_r137 : mj_I := (7, prog_11_method_15_code, 4, (some .int), ⟨"CourtHandModel", "faultsOf", "(I)I"⟩, 1, 7, [1295, 1294, 70, 95])
abbrev mj_r138 : mj_I := (7, prog_11_method_16_code, 5, (some .boolean), ⟨"CourtHandModel", "isAhead", "(II)Z"⟩, 2, 7, [1291, 1290, 69, 95])
abbrev mj_r139 : mj_I := (7, prog_11_method_17_code, 4, (some .int), ⟨"CourtHandModel", "rankOf", "(I)I"⟩, 1, 7, [1287, 1286, 68, 95])
abbrev mj_r140 : mj_I := (7, prog_11_method_18_code, 6, (some .int), ⟨"CourtHandModel", "readsAs", "(I)I"⟩, 1, 7, [1345, 1344, 78, 95])
abbrev mj_r141 : mj_I := (7, prog_11_method_19_code, 3, (some .boolean), ⟨"CourtHandModel", "model", "(II)Z"⟩, 2, 7, [1097, 1095, 1096, 95])
abbrev mj_r142 : mj_I := (7, prog_11_method_20_code, 5, (some .boolean), ⟨"CourtHandModel", "courtier", "(III)Z"⟩, 3, 7, [1108, 1106, 1107, 95])
abbrev mj_r143 : mj_I := (7, prog_11_method_21_code, 4, (some .boolean), ⟨"CourtHandModel", "form", "(III)Z"⟩, 3, 7, [1115, 1113, 1114, 95])
abbrev mj_r144 : mj_I := (7, prog_11_method_22_code, 3, none, ⟨"CourtHandModel", "types", "(I)V"⟩, 1, 7, [1131, 1130, 40, 95])
abbrev mj_r145 : mj_I := (7, prog_11_method_23_code, 6, (some .int), ⟨"CourtHandModel", "feed", "(IIIII)I"⟩, 5, 7, [1127, 1125, 1126, 95])
abbrev mj_r146 : mj_I := (7, prog_11_method_24_code, 2, (some .int), ⟨"CourtHandModel", "octet", "(I)I"⟩, 1, 7, [1234, 1233, 62, 95])
abbrev mj_r147 : mj_I := (7, prog_11_method_25_code, 1, (some .int), ⟨"CourtHandModel", "here", "()I"⟩, 0, 7, [1147, 1146, 43, 95])
abbrev mj_r148 : mj_I := (7, prog_11_method_26_code, 1, (some .boolean), ⟨"CourtHandModel", "isDigit", "()Z"⟩, 0, 7, [1168, 1167, 48, 95])
abbrev mj_r149 : mj_I := (7, prog_11_method_27_code, 3, (some .boolean), ⟨"CourtHandModel", "wrongAt", "(II)Z"⟩, 2, 7, [1151, 1150, 44, 95])
abbrev mj_r150 : mj_I := (7, prog_11_method_28_code, 2, (some .boolean), ⟨"CourtHandModel", "takes", "(I)Z"⟩, 1, 7, [1218, 1217, 59, 95])
abbrev mj_r151 : mj_I := (7, prog_11_method_29_code, 2, (some .boolean), ⟨"CourtHandModel", "readsNumber", "()Z"⟩, 0, 7, [1172, 1171, 49, 95])
abbrev mj_r152 : mj_I := (7, prog_11_method_30_code, 3, none, ⟨"CourtHandModel", "notes", "(II)V"⟩, 2, 7, [1176, 1175, 50, 95])
abbrev mj_r153 : mj_I := (7, prog_11_method_31_code, 2, (some .boolean), ⟨"CourtHandModel", "opens", "(I)Z"⟩, 1, 7, [1163, 1162, 47, 95])
abbrev mj_r154 : mj_I := (7, prog_11_method_32_code, 1, (some .int), ⟨"CourtHandModel", "waitTop", "()I"⟩, 0, 7, [1190, 1189, 52, 95])
abbrev mj_r155 : mj_I := (7, prog_11_method_33_code, 1, (some .int), ⟨"CourtHandModel", "factOf", "(I)I"⟩, 1, 100, [1179, 1178, 1178, 95])
abbrev mj_r156 : mj_I := (7, prog_11_method_34_code, 1, (some .int), ⟨"CourtHandModel", "sumSign", "(I)I"⟩, 1, 100, [1182, 1181, 1181, 95])
abbrev mj_r157 : mj_I := (7, prog_11_method_35_code, 2, none, ⟨"CourtHandModel", "closesSums", "(Z)V"⟩, 1, 7, [1186, 1185, 51, 95])
abbrev mj_r158 : mj_I := (7, prog_11_method_36_code, 2, (some .boolean), ⟨"CourtHandModel", "readsFactor", "()Z"⟩, 0, 7, [1159, 1158, 46, 95])
abbrev mj_r159 : mj_I := (7, prog_11_method_37_code, 3, (some .boolean), ⟨"CourtHandModel", "hasOpenSum", "(I)Z"⟩, 1, 7, [1194, 1193, 53, 95])
abbrev mj_r160 : mj_I := (7, prog_11_method_38_code, 3, (some .boolean), ⟨"CourtHandModel", "readsSum", "()Z"⟩, 0, 7, [1155, 1154, 45, 95])
abbrev mj_r161 : mj_I := (7, prog_11_method_39_code, 1, none, ⟨"CourtHandModel", "endsPiece", "()V"⟩, 0, 7, [1206, 1205, 56, 95])
abbrev mj_r162 : mj_I := (7, prog_11_method_40_code, 3, none, ⟨"CourtHandModel", "lands", "(Z)V"⟩, 1, 7, [1210, 1209, 57, 95])
abbrev mj_r163 : mj_I := (7, prog_11_method_41_code, 2, none, ⟨"CourtHandModel", "jumps", "(I)V"⟩, 1, 7, [1214, 1213, 58, 95])
abbrev mj_r164 : mj_I := (7, prog_11_method_42_code, 2, (some .boolean), ⟨"CourtHandModel", "readsCompared", "()Z"⟩, 0, 7, [1202, 1201, 55, 95])
abbrev mj_r165 : mj_I := (7, prog_11_method_43_code, 1, (some .boolean), ⟨"CourtHandModel", "readsCondition", "()Z"⟩, 0, 7, [1198, 1197, 54, 95])
abbrev mj_r166 : mj_I := (7, prog_11_method_44_code, 2, (some .boolean), ⟨"CourtHandModel", "readsRule", "()Z"⟩, 0, 7, [1143, 1142, 42, 95])
abbrev mj_r167 : mj_I := (7, prog_11_method_45_code, 2, none, ⟨"CourtHandModel", "beginsText", "(I)V"⟩, 1, 7, [1139, 1138, 41, 95])
abbrev mj_r168 : mj_I := (7, prog_11_method_46_code, 4, (some .int), ⟨"CourtHandModel", "law", "(I)I"⟩, 1, 7, [1135, 1133, 1134, 95])
abbrev mj_r169 : mj_I := (7, prog_11_method_47_code, 3, (some .int), ⟨"CourtHandModel", "reckon", "(III)I"⟩, 3, 100, [1313, 1312, 1312, 95])
abbrev mj_r170 : mj_I := (7, prog_11_method_48_code, 8, (some .int), ⟨"CourtHandModel", "comesTo", "(II)I"⟩, 2, 7, [1310, 1309, 73, 95])
abbrev mj_r171 : mj_I := (7, prog_11_method_49_code, 5, (some .int), ⟨"CourtHandModel", "byLaw", "(II)I"⟩, 2, 7, [1306, 1305, 72, 95])
abbrev mj_r172 : mj_I := (7, prog_11_method_50_code, 3, (some .boolean), ⟨"CourtHandModel", "holdsAny", "(I)Z"⟩, 1, 7, [1324, 1323, 75, 95])
abbrev mj_r173 : mj_I := (7, prog_11_method_51_code, 1, (some .int), ⟨"CourtHandModel", "readsTimes", "()I"⟩, 0, 7, [1230, 1229, 61, 95])
abbrev mj_r174 : mj_I := (7, prog_11_method_52_code, 6, (some .boolean), ⟨"CourtHandModel", "repeats", "(III)Z"⟩, 3, 7, [1238, 1237, 63, 95])
abbrev mj_r175 : mj_I := (7, prog_11_method_53_code, 4, (some .boolean), ⟨"CourtHandModel", "readsItem", "()Z"⟩, 0, 7, [1226, 1225, 60, 95])
abbrev mj_r176 : mj_I := (7, prog_11_method_54_code, 4, (some .int), ⟨"CourtHandModel", "order", "(I)I"⟩, 1, 7, [1222, 1220, 1221, 95])
abbrev mj_r177 : mj_I := (7, prog_11_method_55_code, 2, (some .int), ⟨"CourtHandModel", "dot", "(II)I"⟩, 2, 100, [1271, 1270, 1270, 95])
abbrev mj_r178 : mj_I := (7, prog_11_method_56_code, 3, (some .int), ⟨"CourtHandModel", "mirroredOf", "(I)I"⟩, 1, 100, [1268, 1267, 1267, 95])
abbrev mj_r179 : mj_I := (7, prog_11_method_57_code, 3, (some .int), ⟨"CourtHandModel", "turnedOf", "(I)I"⟩, 1, 100, [1453, 1452, 1452, 95])
abbrev mj_r180 : mj_I := (7, prog_11_method_58_code, 4, (some .int), ⟨"CourtHandModel", "movedOf", "(II)I"⟩, 2, 100, [1262, 1261, 1261, 95])
abbrev mj_r181 : mj_I := (7, prog_11_method_59_code, 2, (some .int), ⟨"CourtHandModel", "blotted", "(II)I"⟩, 2, 100, [1259, 1258, 1258, 95])
abbrev mj_r182 : mj_I := (7, prog_11_method_60_code, 1, (some .boolean), ⟨"CourtHandModel", "isSign", "(I)Z"⟩, 1, 100, [1256, 1255, 1255, 95])
abbrev mj_r183 : mj_I := (7, prog_11_method_61_code, 4, (some .boolean), ⟨"CourtHandModel", "readsBlot", "()Z"⟩, 0, 7, [1249, 1248, 64, 95])
abbrev mj_r184 : mj_I := (7, prog_11_method_62_code, 3, (some .int), ⟨"CourtHandModel", "blots", "(I)I"⟩, 1, 7, [1242, 1240, 1241, 95])
abbrev mj_r185 : mj_I := (7, prog_11_method_63_code, 1, (some .int), ⟨"CourtHandModel", "draws", "()I"⟩, 0, 7, [1328, 1327, 76, 95])
abbrev mj_r186 : mj_I := (7, prog_11_method_64_code, 5, none, ⟨"CourtHandModel", "feels", "(IIII)V"⟩, 4, 7, [1302, 1301, 71, 95])
abbrev mj_r187 : mj_I := (7, prog_11_method_65_code, 10, none, ⟨"CourtHandModel", "practises", "(II)V"⟩, 2, 7, [1320, 1319, 74, 95])
abbrev mj_r188 : mj_I := (7, prog_11_method_66_code, 3, none, ⟨"CourtHandModel", "moonGoes", "()V"⟩, 0, 7, [1283, 1282, 67, 95])
abbrev mj_r189 : mj_I := (7, prog_11_method_67_code, 3, none, ⟨"CourtHandModel", "moonsGo", "(I)V"⟩, 1, 7, [1279, 1278, 66, 95])
abbrev mj_r190 : mj_I := (7, prog_11_method_68_code, 2, (some .int), ⟨"CourtHandModel", "moons", "(I)I"⟩, 1, 7, [1275, 1273, 1274, 95])
abbrev mj_r191 : mj_I := (7, prog_11_method_69_code, 2, (some .int), ⟨"CourtHandModel", "firstInRank", "()I"⟩, 0, 7, [1337, 1336, 77, 95])
abbrev mj_r192 : mj_I := (7, prog_11_method_70_code, 4, (some .int), ⟨"CourtHandModel", "tried", "(II)I"⟩, 2, 7, [1333, 1331, 1332, 95])
abbrev mj_r193 : mj_I := (7, prog_11_method_71_code, 7, (some .int), ⟨"CourtHandModel", "courtierIs", "(II)I"⟩, 2, 7, [1341, 1339, 1340, 95])
abbrev mj_r194 : mj_I := (7, prog_11_method_72_code, 3, (some .int), ⟨"CourtHandModel", "formOf", "(II)I"⟩, 2, 7, [1350, 1348, 1349, 95])
abbrev mj_r195 : mj_I := (7, prog_11_method_73_code, 2, (some .int), ⟨"CourtHandModel", "modelOf", "(I)I"⟩, 1, 7, [1354, 1352, 1353, 95])
abbrev mj_r196 : mj_I := (7, prog_11_method_74_code, 2, (some .int), ⟨"CourtHandModel", "read", "(I)I"⟩, 1, 7, [1358, 1356, 1357, 95])
abbrev mj_r197 : mj_I := (7, prog_11_method_75_code, 3, (some .int), ⟨"CourtHandModel", "apart", "(II)I"⟩, 2, 7, [1362, 1360, 1361, 95])
abbrev mj_r198 : mj_I := (7, prog_11_method_76_code, 12, (some .int), ⟨"CourtHandModel", "written", "(II)I"⟩, 2, 7, [1366, 1364, 1365, 95])
abbrev mj_r199 : mj_I := (7, prog_11_method_77_code, 8, (some .int), ⟨"CourtHandModel", "copied", "(II)I"⟩, 2, 7, [1370, 1368, 1369, 95])
abbrev mj_r200 : mj_I := (7, prog_11_method_78_code, 5, none, ⟨"CourtHandModel", "mayBe", "(III)V"⟩, 3, 7, [1378, 1377, 79, 95])
abbrev mj_r201 : mj_I := (7, prog_11_method_79_code, 7, (some .int), ⟨"CourtHandModel", "another", "(III)I"⟩, 3, 7, [1374, 1372, 1373, 95])
abbrev mj_r202 : mj_I := (7, prog_11_method_80_code, 5, (some .boolean), ⟨"CourtHandModel", "readsSheet", "(I)Z"⟩, 1, 7, [1394, 1393, 82, 95])
abbrev mj_r203 : mj_I := (7, prog_11_method_81_code, 9, (some .int), ⟨"CourtHandModel", "whose", "(II)I"⟩, 2, 7, [1382, 1380, 1381, 95])
abbrev mj_r204 : mj_I := (7, prog_11_method_82_code, 5, (some .int), ⟨"CourtHandModel", "apartInAll", "(II)I"⟩, 2, 7, [1402, 1401, 83, 95])
abbrev mj_r205 : mj_I := (7, prog_11_method_83_code, 3, (some .int), ⟨"CourtHandModel", "forge", "(II)I"⟩, 2, 7, [1398, 1396, 1397, 95])
abbrev mj_r206 : mj_I := (7, prog_11_method_84_code, 7, (some .int), ⟨"CourtHandModel", "groupOf", "(II)I"⟩, 2, 7, [1410, 1409, 84, 95])
abbrev mj_r207 : mj_I := (7, prog_11_method_85_code, 6, (some .int), ⟨"CourtHandModel", "alike", "(II)I"⟩, 2, 7, [1406, 1404, 1405, 95])
abbrev mj_r208 : mj_I := (7, prog_11_method_86_code, 6, (some .int), ⟨"CourtHandModel", "rises", "(II)I"⟩, 2, 7, [1414, 1412, 1413, 95])
abbrev mj_r209 : mj_I := (7, prog_11_method_87_code, 1, (some .int), ⟨"CourtHandModel", "commands", "()I"⟩, 0, 7, [1418, 1416, 1417, 95])
abbrev mj_r210 : mj_I := (7, prog_11_method_88_code, 9, (some .int), ⟨"CourtHandModel", "clear", "(II)I"⟩, 2, 7, [1422, 1420, 1421, 95])
abbrev mj_r211 : mj_I := (7, prog_11_method_89_code, 6, (some .int), ⟨"CourtHandModel", "partOf", "(IIZ)I"⟩, 3, 100, [1432, 1431, 1431, 95])
abbrev mj_r212 : mj_I := (7, prog_11_method_90_code, 8, (some .boolean), ⟨"CourtHandModel", "touches", "(IIZ)Z"⟩, 3, 100, [1435, 1434, 1434, 95])
abbrev mj_r213 : mj_I := (7, prog_11_method_91_code, 2, (some .boolean), ⟨"CourtHandModel", "isAtEdge", "(I)Z"⟩, 1, 100, [1438, 1437, 1437, 95])
abbrev mj_r214 : mj_I := (7, prog_11_method_92_code, 5, (some .int), ⟨"CourtHandModel", "loopsOf", "(I)I"⟩, 1, 100, [1429, 1428, 1428, 95])
abbrev mj_r215 : mj_I := (7, prog_11_method_93_code, 4, (some .int), ⟨"CourtHandModel", "strokesOf", "(I)I"⟩, 1, 100, [1441, 1440, 1440, 95])
abbrev mj_r216 : mj_I := (7, prog_11_method_94_code, 3, (some .boolean), ⟨"CourtHandModel", "isBlack", "(III)Z"⟩, 3, 100, [1447, 1446, 1446, 95])
abbrev mj_r217 : mj_I := (7, prog_11_method_95_code, 6, (some .int), ⟨"CourtHandModel", "crossOf", "(I)I"⟩, 1, 100, [1444, 1443, 1443, 95])
abbrev mj_r218 : mj_I := (7, prog_11_method_96_code, 4, (some .int), ⟨"CourtHandModel", "neighbours", "(II)I"⟩, 2, 100, [1459, 1458, 1458, 95])
abbrev mj_r219 : mj_I := (7, prog_11_method_97_code, 7, (some .int), ⟨"CourtHandModel", "penOf", "(I)I"⟩, 1, 100, [1456, 1455, 1455, 95])
abbrev mj_r220 : mj_I := (7, prog_11_method_98_code, 3, (some .int), ⟨"CourtHandModel", "shape", "(II)I"⟩, 2, 7, [1426, 1424, 1425, 95])
abbrev mj_r221 : mj_I := (7, prog_11_method_99_code, 5, (some .int), ⟨"CourtHandModel", "like", "(II)I"⟩, 2, 7, [1463, 1461, 1462, 95])
abbrev mj_r222 : mj_I := (7, prog_11_method_100_code, 5, (some .int), ⟨"CourtHandModel", "leastIn", "(I)I"⟩, 1, 7, [1471, 1470, 85, 95])
abbrev mj_r223 : mj_I := (7, prog_11_method_101_code, 6, (some .int), ⟨"CourtHandModel", "toldApart", "(II)I"⟩, 2, 7, [1467, 1465, 1466, 95])
abbrev mj_r224 : mj_I := (7, prog_11_method_102_code, 2, (some .boolean), ⟨"CourtHandModel", "seed", "(I)Z"⟩, 1, 7, [1475, 1473, 1474, 95])
abbrev mj_r225 : mj_I := (7, prog_11_method_103_code, 1, (some .int), ⟨"CourtHandModel", "keep", "()I"⟩, 0, 7, [1480, 1478, 1479, 95])
abbrev mj_r226 : mj_I := (7, prog_11_method_104_code, 1, (some .boolean), ⟨"CourtHandModel", "undo", "()Z"⟩, 0, 7, [1484, 1482, 1483, 95])
abbrev mj_r227 : mj_I := (7, prog_11_method_105_code, 3, (some .int), ⟨"CourtHandModel", "check", "(I)I"⟩, 1, 7, [1488, 1486, 1487, 95])
abbrev mj_r228 : mj_I := (7, prog_11_method_106_code, 2, (some .int), ⟨"CourtHandModel", "count", "(I)I"⟩, 1, 7, [1492, 1490, 1491, 95])
abbrev mj_r229 : mj_I := (11, prog_13_method_49_code, 1, (some .int), ⟨"java/lang/Integer", "bitCount", "(I)I"⟩, 1, 100, [665, 664, 664, 105])
abbrev mj_r230 : mj_I := (12, prog_14_method_65_code, 2, (some .int), ⟨"java/lang/Math", "max", "(II)I"⟩, 2, 100, [455, 454, 454, 99])
abbrev mj_r231 : mj_I := (12, prog_14_method_69_code, 2, (some .int), ⟨"java/lang/Math", "min", "(II)I"⟩, 2, 100, [458, 457, 457, 99])
abbrev mj_r232 : mj_I := (13, prog_19_method_30_code, 3, none, ⟨"java/util/Arrays", "rangeCheck", "(III)V"⟩, 3, 100, [348, 347, 347, 90])
abbrev mj_r233 : mj_I := (13, prog_19_method_104_code, 5, none, ⟨"java/util/Arrays", "fill", "([IIII)V"⟩, 4, 100, [345, 344, 344, 90])
abbrev mj_r234 : mj_I := (10, code, 4, (some .boolean), ⟨"CourtHandLaw", "law", "([I)Z"⟩, 1, 100, [0, 0, 0, 0])
abbrev mj_r235 : mj_I := (14, prog_15_method_54_code, 1, (some .int), ⟨"java/lang/String", "length", "()I"⟩, 0, 14, [442, 440, 441, 97])
abbrev mj_r236 : mj_I := (14, prog_15_method_79_code, 2, (some .int), ⟨"java/lang/String", "indexOf", "(I)I"⟩, 1, 14, [428, 426, 427, 97])
abbrev mj_r237 : mj_I := (14, prog_15_method_80_code, 3, (some .int), ⟨"java/lang/String", "indexOf", "(II)I"⟩, 2, 14, [432, 430, 431, 97])
abbrev mj_r238 : mj_I := (14, prog_15_method_152_code, 1, (some .byte), ⟨"java/lang/String", "coder", "()B"⟩, 0, 14, [446, 444, 445, 97])
abbrev mj_r239 : mj_I := (14, prog_15_method_154_code, 1, (some .boolean), ⟨"java/lang/String", "isLatin1", "()Z"⟩, 0, 14, [436, 434, 435, 97])
abbrev mj_r240 : mj_I := (15, prog_16_method_4_code, 1, (some .boolean), ⟨"java/lang/StringLatin1", "canEncode", "(I)Z"⟩, 1, 100, [452, 451, 451, 98])
abbrev mj_r241 : mj_I := (15, prog_16_method_22_code, 4, (some .int), ⟨"java/lang/StringLatin1", "indexOf", "([BIII)I"⟩, 4, 100, [449, 448, 448, 98])
abbrev mj_r242 : mj_I := (15, prog_16_method_23_code, 6, (some .int), ⟨"java/lang/StringLatin1", "indexOfChar", "([BIII)I"⟩, 4, 100, [461, 460, 460, 98])
def mj_tab : List mj_I := [mj_r0, mj_r1, mj_r2, mj_r3, mj_r4, mj_r5, mj_r6, mj_r7, mj_r8, mj_r9, mj_r10, mj_r11, mj_r12, mj_r13, mj_r14, mj_r15, mj_r16, mj_r17, mj_r18, mj_r19, mj_r20, mj_r21, mj_r22, mj_r23, mj_r24, mj_r25, mj_r26, mj_r27, mj_r28, mj_r29, mj_r30, mj_r31, mj_r32, mj_r33, mj_r34, mj_r35, mj_r36, mj_r37, mj_r38, mj_r39, mj_r40, mj_r41, mj_r42, mj_r43, mj_r44, mj_r45, mj_r46, mj_r47, mj_r48, mj_r49, mj_r50, mj_r51, mj_r52, mj_r53, mj_r54, mj_r55, mj_r56, mj_r57, mj_r58, mj_r59, mj_r60, mj_r61, mj_r62, mj_r63, mj_r64, mj_r65, mj_r66, mj_r67, mj_r68, mj_r69, mj_r70, mj_r71, mj_r72, mj_r73, mj_r74, mj_r75, mj_r76, mj_r77, mj_r78, mj_r79, mj_r80, mj_r81, mj_r82, mj_r83, mj_r84, mj_r85, mj_r86, mj_r87, mj_r88, mj_r89, mj_r90, mj_r91, mj_r92, mj_r93, mj_r94, mj_r95, mj_r96, mj_r97, mj_r98, mj_r99, mj_r100, mj_r101, mj_r102, mj_r103, mj_r104, mj_r105, mj_r106, mj_r107, mj_r108, mj_r109, mj_r110, mj_r111, mj_r112, mj_r113, mj_r114, mj_r115, mj_r116, mj_r117, mj_r118, mj_r119, mj_r120, mj_r121, mj_r122, mj_r123, mj_r124, mj_r125, mj_r126, mj_r127, mj_r128, mj_r129, mj_r130, mj_r131, mj_r132, mj_r133, mj_r134, mj_r135, mj_r136, mj_r137, mj_r138, mj_r139, mj_r140, mj_r141, mj_r142, mj_r143, mj_r144, mj_r145, mj_r146, mj_r147, mj_r148, mj_r149, mj_r150, mj_r151, mj_r152, mj_r153, mj_r154, mj_r155, mj_r156, mj_r157, mj_r158, mj_r159, mj_r160, mj_r161, mj_r162, mj_r163, mj_r164, mj_r165, mj_r166, mj_r167, mj_r168, mj_r169, mj_r170, mj_r171, mj_r172, mj_r173, mj_r174, mj_r175, mj_r176, mj_r177, mj_r178, mj_r179, mj_r180, mj_r181, mj_r182, mj_r183, mj_r184, mj_r185, mj_r186, mj_r187, mj_r188, mj_r189, mj_r190, mj_r191, mj_r192, mj_r193, mj_r194, mj_r195, mj_r196, mj_r197, mj_r198, mj_r199, mj_r200, mj_r201, mj_r202, mj_r203, mj_r204, mj_r205, mj_r206, mj_r207, mj_r208, mj_r209, mj_r210, mj_r211, mj_r212, mj_r213, mj_r214, mj_r215, mj_r216, mj_r217, mj_r218, mj_r219, mj_r220, mj_r221, mj_r222, mj_r223, mj_r224, mj_r225, mj_r226, mj_r227, mj_r228, mj_r229, mj_r230, mj_r231, mj_r232, mj_r233, mj_r234, mj_r235, mj_r236, mj_r237, mj_r238, mj_r239, mj_r240, mj_r241, mj_r242]
def mj_cn : Nat → String := fun k => ["CourtHand$Court", "CourtHand$Law", "CourtHand$LawReader", "CourtHand$Models", "CourtHand$Order", "CourtHand$Tape", "CourtHand", "CourtHandModel", "CourtHand$Blots", "CourtHand$Grids", "CourtHandLaw", "java/lang/Integer", "java/lang/Math", "java/util/Arrays", "java/lang/String", "java/lang/StringLatin1"].getD k ""
def mj_fTab : List (Nat × Nat × Nat × Nat × Nat × Nat) := [(3, 9, 3, 0, 1, 120), (0, 56, 3, 0, 1, 121), (6, 178, 3, 0, 1, 122), (3, 15, 3, 1, 0, 123), (6, 224, 3, 1, 0, 124), (0, 31, 0, 0, 1, 140), (8, 46, 0, 0, 1, 141), (0, 9, 0, 1, 1, 142), (6, 165, 0, 1, 1, 143), (0, 15, 0, 2, 1, 144), (6, 162, 0, 2, 1, 145), (0, 18, 0, 3, 1, 146), (0, 21, 0, 4, 1, 147), (0, 24, 0, 5, 1, 148), (6, 159, 0, 5, 1, 149), (0, 47, 0, 6, 0, 150), (6, 227, 0, 6, 0, 151), (0, 50, 0, 7, 0, 152), (6, 278, 0, 7, 0, 153), (0, 27, 0, 8, 0, 154), (6, 275, 0, 8, 0, 155), (6, 133, 0, 9, 0, 156), (0, 91, 0, 9, 0, 157), (6, 139, 0, 10, 0, 158), (0, 94, 0, 10, 0, 159), (6, 142, 0, 11, 0, 160), (0, 97, 0, 11, 0, 161), (5, 11, 5, 0, 1, 193), (5, 15, 5, 1, 0, 194), (6, 100, 5, 1, 0, 195), (4, 9, 4, 0, 1, 207), (6, 188, 4, 0, 1, 208), (4, 15, 4, 1, 1, 209), (4, 18, 4, 2, 1, 210), (4, 21, 4, 3, 1, 211), (4, 61, 4, 4, 0, 212), (6, 187, 4, 4, 0, 213), (4, 24, 4, 5, 0, 214), (4, 28, 4, 6, 0, 215), (1, 11, 1, 0, 1, 243), (1, 15, 1, 1, 1, 244), (1, 18, 1, 2, 1, 245), (1, 21, 1, 3, 1, 246), (1, 24, 1, 4, 1, 247), (1, 27, 1, 5, 1, 248), (1, 47, 1, 6, 0, 249), (2, 62, 1, 6, 0, 250), (2, 38, 1, 7, 0, 251), (1, 30, 1, 7, 0, 252), (6, 281, 1, 7, 0, 253), (2, 18, 2, 0, 1, 271), (2, 12, 2, 1, 2, 272), (2, 22, 2, 2, 0, 273), (2, 26, 2, 3, 0, 274), (2, 29, 2, 4, 0, 275), (6, 10, 6, 0, 1, 289), (6, 21, 6, 1, 1, 290), (6, 25, 6, 2, 1, 291), (6, 28, 6, 3, 1, 292), (6, 34, 6, 4, 1, 293), (6, 41, 6, 5, 1, 294), (6, 50, 6, 6, 1, 295), (6, 54, 6, 7, 1, 296), (6, 58, 6, 8, 1, 297), (6, 64, 6, 9, 2, 298), (6, 68, 6, 10, 3, 299), (7, 7, 7, 0, 1, 955), (7, 13, 7, 1, 1, 956), (7, 16, 7, 2, 1, 957), (7, 19, 7, 3, 1, 958), (7, 22, 7, 4, 1, 959), (7, 123, 7, 5, 0, 960), (7, 131, 7, 6, 0, 961), (7, 134, 7, 7, 0, 962), (7, 141, 7, 8, 0, 963), (7, 147, 7, 9, 0, 964), (7, 158, 7, 10, 0, 965), (7, 154, 7, 11, 0, 966), (7, 161, 7, 12, 0, 967), (7, 208, 7, 13, 0, 968), (7, 223, 7, 14, 0, 969), (7, 26, 7, 15, 1, 970), (7, 29, 7, 16, 1, 971), (7, 32, 7, 17, 1, 972), (7, 35, 7, 18, 1, 973), (7, 38, 7, 19, 1, 974), (7, 41, 7, 20, 1, 975), (7, 44, 7, 21, 1, 976), (7, 47, 7, 22, 1, 977), (7, 50, 7, 23, 1, 978), (7, 53, 7, 24, 1, 979), (7, 56, 7, 25, 1, 980), (7, 59, 7, 26, 1, 981), (7, 62, 7, 27, 1, 982), (7, 65, 7, 28, 1, 983), (7, 68, 7, 29, 1, 984), (7, 71, 7, 30, 1, 985), (7, 74, 7, 31, 1, 986), (7, 251, 7, 32, 0, 987), (7, 236, 7, 33, 0, 988), (7, 239, 7, 34, 0, 989), (7, 266, 7, 35, 0, 990), (7, 77, 7, 36, 1, 991), (7, 299, 7, 37, 0, 992), (7, 302, 7, 38, 0, 993), (7, 293, 7, 39, 0, 994), (7, 80, 7, 40, 1, 995), (7, 329, 7, 41, 0, 996), (7, 326, 7, 42, 0, 997), (7, 83, 7, 43, 1, 998), (7, 86, 7, 44, 1, 999), (7, 390, 7, 45, 3, 1000), (14, 15, 14, 0, 5, 1493), (14, 9, 14, 1, 4, 1494)]
def mj_cTab : List (Nat × Nat × Nat × Nat × Nat) := [(10, 13, 0, 78, 323), (6, 72, 1, 20, 327), (6, 78, 0, 63, 331), (10, 18, 0, 79, 335), (6, 82, 0, 6, 339), (0, 53, 1, 233, 343), (13, 13, 1, 232, 346), (10, 23, 0, 80, 349), (6, 85, 0, 5, 353), (6, 88, 0, 62, 357), (6, 89, 0, 7, 361), (10, 27, 0, 81, 365), (6, 92, 0, 73, 369), (6, 96, 0, 74, 373), (10, 32, 0, 82, 377), (6, 104, 0, 75, 381), (6, 107, 0, 47, 385), (2, 32, 0, 41, 389), (2, 35, 0, 53, 393), (2, 51, 0, 48, 397), (2, 45, 0, 76, 401), (2, 59, 0, 50, 405), (2, 55, 2, 123, 409), (2, 65, 0, 57, 412), (2, 98, 0, 58, 416), (2, 101, 0, 59, 420), (2, 106, 0, 236, 425), (14, 633, 0, 237, 429), (14, 492, 0, 239, 433), (14, 505, 0, 235, 439), (14, 335, 0, 238, 443), (14, 637, 1, 241, 447), (15, 88, 1, 240, 450), (15, 92, 1, 230, 453), (15, 38, 1, 231, 456), (15, 95, 1, 242, 459), (2, 94, 0, 52, 511), (2, 41, 0, 51, 515), (2, 111, 1, 61, 519), (2, 114, 0, 60, 522), (2, 68, 0, 42, 526), (2, 81, 0, 49, 530), (2, 71, 0, 54, 534), (2, 78, 0, 55, 538), (2, 91, 0, 56, 542), (2, 85, 0, 43, 546), (1, 54, 0, 42, 550), (2, 88, 0, 44, 551), (2, 74, 0, 45, 555), (6, 111, 0, 46, 559), (10, 37, 0, 83, 564), (6, 115, 0, 67, 568), (4, 31, 0, 76, 572), (4, 37, 1, 72, 573), (4, 41, 0, 68, 576), (4, 52, 2, 123, 580), (4, 44, 0, 69, 581), (4, 64, 0, 71, 585), (4, 48, 0, 70, 589), (4, 55, 3, 0, 593), (10, 41, 0, 84, 596), (6, 119, 0, 4, 600), (0, 41, 3, 0, 604), (6, 123, 1, 0, 605), (8, 11, 1, 1, 608), (8, 15, 0, 76, 611), (8, 25, 2, 123, 612), (8, 42, 0, 5, 613), (8, 50, 0, 62, 614), (8, 21, 1, 2, 615), (8, 29, 0, 8, 618), (8, 34, 1, 3, 622), (8, 56, 1, 22, 626), (8, 59, 1, 23, 630), (8, 62, 1, 26, 634), (8, 38, 0, 7, 642), (10, 45, 0, 85, 643), (6, 129, 0, 14, 647), (0, 100, 0, 15, 651), (0, 88, 0, 11, 655), (0, 80, 0, 9, 659), (0, 61, 1, 229, 663), (0, 83, 0, 5, 669), (0, 84, 0, 12, 670), (0, 104, 0, 16, 674), (0, 113, 0, 34, 678), (0, 119, 0, 35, 682), (0, 123, 0, 36, 686), (0, 127, 0, 37, 690), (1, 34, 0, 39, 694), (1, 50, 1, 40, 698), (1, 38, 1, 231, 701), (1, 44, 1, 230, 702), (0, 108, 1, 231, 703), (0, 67, 0, 62, 704), (0, 130, 0, 17, 705), (0, 71, 0, 8, 709), (0, 134, 0, 38, 710), (0, 138, 0, 19, 714), (0, 142, 0, 18, 719), (0, 145, 0, 7, 723), (10, 49, 0, 86, 724), (6, 136, 0, 87, 728), (6, 145, 0, 13, 732), (6, 149, 0, 88, 736), (6, 153, 0, 9, 740), (6, 156, 0, 11, 741), (10, 54, 0, 89, 742), (6, 168, 0, 90, 746), (6, 172, 0, 8, 750), (6, 175, 0, 64, 751), (3, 22, 1, 229, 756), (10, 58, 0, 91, 757), (10, 62, 0, 92, 761), (10, 66, 0, 93, 765), (10, 70, 0, 94, 769), (6, 181, 1, 21, 773), (9, 12, 1, 229, 776), (10, 74, 0, 95, 777), (6, 184, 0, 97, 781), (6, 195, 1, 229, 785), (6, 191, 0, 96, 786), (10, 78, 0, 98, 790), (6, 200, 0, 76, 794), (6, 203, 0, 99, 795), (6, 209, 3, 0, 799), (6, 206, 0, 100, 800), (10, 82, 0, 101, 804), (6, 215, 0, 102, 808), (6, 218, 0, 65, 812), (3, 28, 0, 62, 816), (3, 32, 1, 21, 817), (3, 36, 1, 231, 818), (6, 221, 0, 103, 819), (10, 87, 0, 104, 823), (6, 228, 0, 77, 827), (5, 19, 0, 76, 831), (6, 231, 0, 105, 832), (6, 235, 0, 106, 837), (10, 91, 0, 107, 841), (6, 238, 0, 10, 845), (0, 75, 1, 21, 849), (10, 95, 0, 108, 850), (6, 241, 0, 109, 854), (6, 244, 0, 110, 858), (6, 247, 0, 111, 862), (10, 99, 0, 112, 866), (10, 103, 0, 113, 870), (10, 108, 0, 114, 874), (10, 112, 0, 115, 878), (6, 250, 1, 30, 882), (9, 43, 1, 29, 885), (9, 31, 1, 22, 888), (9, 34, 1, 23, 889), (9, 37, 1, 24, 890), (9, 40, 1, 25, 893), (6, 253, 1, 31, 897), (6, 256, 1, 32, 900), (6, 259, 1, 26, 903), (6, 262, 1, 27, 904), (6, 265, 1, 33, 907), (9, 48, 1, 230, 910), (10, 116, 0, 116, 911), (6, 268, 1, 28, 915), (9, 25, 1, 26, 918), (9, 28, 1, 27, 919), (10, 120, 0, 117, 920), (6, 271, 0, 66, 924), (10, 124, 0, 118, 928), (10, 129, 0, 119, 933), (10, 133, 0, 120, 937), (10, 138, 0, 121, 941), (10, 142, 0, 122, 945), (10, 17, 0, 141, 1094), (7, 90, 1, 124, 1098), (7, 120, 1, 130, 1101), (10, 22, 0, 142, 1105), (7, 101, 1, 135, 1109), (10, 26, 0, 143, 1112), (7, 98, 0, 132, 1116), (7, 94, 0, 131, 1120), (10, 31, 0, 145, 1124), (7, 127, 0, 144, 1128), (10, 36, 0, 168, 1132), (7, 214, 0, 167, 1136), (7, 217, 0, 166, 1140), (7, 137, 0, 147, 1144), (7, 144, 0, 149, 1148), (7, 193, 0, 160, 1152), (7, 180, 0, 158, 1156), (7, 171, 0, 153, 1160), (7, 150, 0, 148, 1165), (7, 174, 0, 151, 1169), (7, 167, 0, 152, 1173), (7, 177, 1, 155, 1177), (7, 183, 1, 156, 1180), (7, 186, 0, 157, 1183), (7, 164, 0, 154, 1187), (7, 190, 0, 159, 1191), (7, 211, 0, 165, 1195), (7, 199, 0, 164, 1199), (7, 196, 0, 161, 1203), (7, 202, 0, 162, 1207), (7, 205, 0, 163, 1211), (7, 220, 0, 150, 1215), (10, 40, 0, 176, 1219), (7, 248, 0, 175, 1223), (7, 242, 0, 173, 1227), (7, 233, 0, 146, 1231), (7, 245, 0, 174, 1235), (10, 44, 0, 184, 1239), (7, 275, 1, 129, 1243), (7, 279, 0, 183, 1246), (7, 105, 0, 136, 1250), (7, 269, 1, 182, 1254), (7, 272, 1, 181, 1257), (7, 260, 1, 180, 1260), (7, 254, 1, 127, 1263), (7, 263, 1, 178, 1266), (7, 257, 1, 177, 1269), (10, 48, 0, 190, 1272), (7, 317, 0, 189, 1276), (7, 314, 0, 188, 1280), (7, 305, 0, 139, 1284), (7, 115, 0, 138, 1288), (7, 112, 0, 137, 1292), (7, 108, 1, 128, 1296), (7, 283, 0, 186, 1299), (7, 290, 0, 171, 1303), (7, 230, 0, 170, 1307), (7, 226, 1, 169, 1311), (7, 308, 1, 125, 1314), (7, 311, 0, 187, 1317), (7, 287, 0, 172, 1321), (7, 296, 0, 185, 1325), (10, 53, 0, 192, 1330), (7, 320, 0, 191, 1334), (10, 57, 0, 193, 1338), (7, 323, 0, 140, 1342), (10, 61, 0, 194, 1347), (10, 65, 0, 195, 1351), (10, 69, 0, 196, 1355), (10, 73, 0, 197, 1359), (10, 77, 0, 198, 1363), (10, 81, 0, 199, 1367), (10, 86, 0, 201, 1371), (7, 332, 0, 200, 1375), (10, 90, 0, 203, 1379), (7, 336, 0, 133, 1383), (7, 339, 0, 134, 1387), (7, 342, 0, 202, 1391), (10, 94, 0, 205, 1395), (7, 345, 0, 204, 1399), (10, 98, 0, 207, 1403), (7, 348, 0, 206, 1407), (10, 102, 0, 208, 1411), (10, 107, 0, 209, 1415), (10, 111, 0, 210, 1419), (10, 115, 0, 220, 1423), (7, 371, 1, 214, 1427), (7, 355, 1, 211, 1430), (7, 351, 1, 212, 1433), (7, 359, 1, 213, 1436), (7, 374, 1, 215, 1439), (7, 377, 1, 217, 1442), (7, 362, 1, 216, 1445), (7, 365, 1, 126, 1448), (7, 380, 1, 179, 1451), (7, 383, 1, 219, 1454), (7, 368, 1, 218, 1457), (10, 119, 0, 221, 1460), (10, 123, 0, 223, 1464), (7, 386, 0, 222, 1468), (10, 128, 0, 224, 1472), (10, 132, 0, 225, 1477), (10, 137, 0, 226, 1481), (10, 141, 0, 227, 1485), (10, 145, 0, 228, 1489)]
def mj_kTab : List (Nat × Nat × Int32 × Nat) := [(9, 11, 33554431, 330), (8, 55, 33554431, 625), (9, 18, (-1082402), 629), (9, 19, (-17318417), 633), (9, 20, 1082401, 637), (9, 21, 2164802, 638), (9, 22, 4329604, 639), (9, 23, 8659208, 640), (9, 24, 17318416, 641), (11, 265, 1431655765, 666), (11, 266, 858993459, 667), (11, 267, 252645135, 668), (0, 148, 65535, 718), (3, 21, 2147483647, 755), (6, 234, 2147483647, 836), (9, 47, 33080895, 896), (6, 274, 65535, 932), (7, 89, 33554431, 1104), (7, 157, 1048576, 1164), (7, 282, 65536, 1329), (7, 119, 1000000, 1346), (7, 389, 65535, 1476)]
def mj_fT (k j : Nat) : Option (Nat × Nat × Nat) := (mj_fTab.find? (fun e => e.1 == k && e.2.1 == j)).map (fun e => (e.2.2.1, e.2.2.2.1, e.2.2.2.2.1))
def mj_cT (k j : Nat) : Option (Nat × Nat) := (mj_cTab.find? (fun e => e.1 == k && e.2.1 == j)).map (fun e => (e.2.2.1, e.2.2.2.1))
def mj_kT (k j : Nat) : Option Int32 := (mj_kTab.find? (fun e => e.1 == k && e.2.1 == j)).map (fun e => e.2.2.1)
def mj_oclL : List Nat := [6, 3, 100, 0, 100, 100, 100, 100, 100, 0, 100, 100, 100, 100, 100, 0, 100, 100, 100, 100, 100, 5, 100, 4, 100, 100, 100, 100, 2, 1, 100, 100, 100, 100, 100, 100, 100, 100, 1, 100, 100, 100, 100, 100, 100, 7, 100, 100, 100, 100, 100, 100, 100, 100, 100, 100, 100, 100, 100, 100, 100, 100, 100, 100, 100, 100, 100, 100, 100, 100, 100, 100, 100, 14, 100]
def mj_ialL : List Nat := [0, 0, 8, 0, 10, 10, 80, 10, 10, 0, 10, 10, 80, 10, 10, 0, 10, 10, 80, 10, 10, 0, 260, 0, 60, 60, 2, 2, 0, 0, 480, 32, 9, 16, 16, 16, 10, 60, 0, 480, 32, 9, 16, 16, 16, 0, 112, 112, 112, 8, 0, 260, 260, 16, 16, 16, 16, 260, 16, 16, 16, 16, 260, 9, 60, 60, 2, 2, 10, 60, 8, 10]
def mj_ocl (a : Nat) : Nat := mj_oclL.getD a 100
def mj_ial (a : Nat) : Nat := mj_ialL.getD a 0
def mj_bal (a : Nat) : Nat := if a = 50 then 260 else 0
def mj_bln (a : Nat) : Nat := if a = 74 then 9 else mj_bal a
def mj_sTab : List (Nat × Nat × Nat) := [(14, 38, 437)]
def mj_sT (k j : Nat) : Bool := (mj_sTab.find? (fun e => e.1 == k && e.2.1 == j)).isSome
def mj_nf (c : Nat) : Nat := ([12, 8, 5, 2, 7, 2, 11, 46] : List Nat).getD c 0
def mj_rfL : List (List Nat) := [[1, 3, 9, 15, 21, 23, 28, 36, 37, 0, 0], [2, 0], [], [1, 4, 5, 6, 7, 8, 0, 0, 0, 0, 0, 0], [], [], [], [], [], [1, 10, 11, 12, 13, 14, 0, 0, 0, 0, 0, 0], [], [], [], [], [], [1, 16, 17, 18, 19, 20, 0, 0, 0, 0, 0, 0], [], [], [], [], [], [22, 0], [], [24, 25, 26, 27, 0, 0, 0], [], [], [], [], [21, 0, 0, 0, 0], [30, 31, 32, 33, 34, 35, 0, 0], [], [], [], [], [], [], [], [], [39, 40, 41, 42, 43, 44, 0, 0], [], [], [], [], [], [], [46, 47, 48, 49, 50, 0, 0, 0, 0, 0, 0, 0, 0, 0, 0, 51, 52, 53, 54, 55, 56, 57, 58, 59, 60, 61, 62, 63, 64, 65, 66, 67, 0, 0, 0, 0, 68, 0, 0, 0, 69, 0, 0, 70, 71, 0], [], [], [], [], [], [], [], [], [], [], [], [], [], [], [], [], [], [], [], [], [], [], [], [], [], []]
def mj_rf (a j : Nat) : Nat := (mj_rfL.getD a []).getD j 0
def mj_fkL : List (List Nat) := [[1, 1, 1, 1, 1, 1, 0, 0, 0, 0, 0, 0], [1, 1, 1, 1, 1, 1, 0, 0], [1, 2, 0, 0, 0], [1, 0], [1, 1, 1, 1, 0, 0, 0], [1, 0], [1, 1, 1, 1, 1, 1, 1, 1, 1, 2, 3], [1, 1, 1, 1, 1, 0, 0, 0, 0, 0, 0, 0, 0, 0, 0, 1, 1, 1, 1, 1, 1, 1, 1, 1, 1, 1, 1, 1, 1, 1, 1, 1, 0, 0, 0, 0, 1, 0, 0, 0, 1, 0, 0, 1, 1, 3]]
def mj_fk (c j : Nat) : Nat := (mj_fkL.getD c []).getD j 0
def mj_row (M : mj_M) (i : Nat) (f : Nat → Int32) : mj_M := fun j => if j = i then f else M j
def mj_st (M : mj_M) (i k : Nat) (x : Int32) : mj_M := mj_row M i (upd (M i) k x)
def mj_lw (x : Int32) : Nat := if x = 0 then 29 else 38
def mj_in (i : Int32) (n : Nat) : Prop := ¬ (i < 0 ∨ n ≤ i.toNatClampNeg)
def mj_inB (i : Int32) (n : Nat) : Bool := !(decide (i < 0) || decide (n ≤ i.toNatClampNeg))
def mj_fv (M : mj_M) (a j kd : Nat) : Value := if kd = 1 then .ref (mj_rf a j) else if kd = 2 then .ref (mj_lw (M a j)) else if kd = 4 then .ref 74 else if kd = 5 then .int 0 else .int (M a j)
def mj_sl (i : Instr) : Nat := match i with
  | .bipush _ => 2
  | .ldc _ => 2
  | .iload _ => 2
  | .istore _ => 2
  | .aload _ => 2
  | .sipush _ => 3
  | .ldc_w _ => 3
  | .getfield _ => 3
  | .putfield _ => 3
  | .goto _ => 3
  | .if_icmp _ _ => 3
  | .ifCond _ _ => 3
  | .iinc _ _ => 3
  | .invokevirtual _ => 3
  | .invokestatic _ => 3
  | .getstatic _ => 3
  | .tableswitch _ _ _ _ => 0
  | .lookupswitch _ _ => 0
  | _ => 1
def mj_at (id pc : Nat) : Option Instr := match mj_tab[id]? with
  | none => none
  | some me => match decode me.2.1 pc with
    | .ok (i, n) => if mj_sl i = 0 ∨ mj_sl i = n then some i else none
    | .error _ => none
def mj_own (id : Nat) : Nat := match mj_tab[id]? with
  | none => 100
  | some me => me.1
def mj_cmp (c : Jvm.ClassFile.Cond) (x y : Int32) : Bool := match c with
  | .eq => decide (x = y)
  | .ne => decide (¬ x = y)
  | .lt => decide (x < y)
  | .ge => decide (y ≤ x)
  | .gt => decide (y < x)
  | .le => decide (x ≤ y)
abbrev mj_O : Type := (Nat × List Value × List Value × mj_M) ⊕ (Option Value ⊕ (Nat × List Value × List Value))
def mj_nx (pc : Nat) (L st : List Value) (M : mj_M) : Option mj_O := some (.inl (pc, L, st, M))
def mj_go (pc : Nat) (off : Int) (L st : List Value) (M : mj_M) : Option mj_O := if 0 ≤ (pc : Int) + off then some (.inl (((pc : Int) + off).toNat, L, st, M)) else none
def mj_br (c : Bool) (pc : Nat) (off : Int) (L st : List Value) (M : mj_M) : Option mj_O := match c with
  | true => mj_go pc off L st M
  | false => if 0 ≤ (pc : Int) + off then mj_nx (pc + 3) L st M else none
def mj_ldi (j n pc : Nat) (L st : List Value) (M : mj_M) : Option mj_O := match L[j]? with
  | some (.int x) => mj_nx (pc + n) L (.int x :: st) M
  | _ => none
def mj_lda (j n pc : Nat) (L st : List Value) (M : mj_M) : Option mj_O := match L[j]? with
  | some (.ref x) => mj_nx (pc + n) L (.ref x :: st) M
  | _ => none
def mj_sti (j n pc : Nat) (L st : List Value) (M : mj_M) : Option mj_O := match st with
  | .int x :: st' => if j < L.length then mj_nx (pc + n) (L.set j (.int x)) st' M else none
  | _ => none
def mj_sta (j n pc : Nat) (L st : List Value) (M : mj_M) : Option mj_O := match st with
  | .ref x :: st' => if j < L.length then mj_nx (pc + n) (L.set j (.ref x)) st' M else none
  | _ => none
def mj_bin (f : Int32 → Int32 → Int32) (pc : Nat) (L st : List Value) (M : mj_M) : Option mj_O := match st with
  | .int y :: .int x :: st' => mj_nx (pc + 1) L (.int (f x y) :: st') M
  | _ => none
def mj_dv (f : Int32 → Int32 → Int32) (pc : Nat) (L st : List Value) (M : mj_M) : Option mj_O := match st with
  | .int y :: .int x :: st' => if y = 0 then none else mj_nx (pc + 1) L (.int (f x y) :: st') M
  | _ => none
def mj_un (f : Int32 → Int32) (pc : Nat) (L st : List Value) (M : mj_M) : Option mj_O := match st with
  | .int x :: st' => mj_nx (pc + 1) L (.int (f x) :: st') M
  | _ => none
def mj_dup (pc : Nat) (L st : List Value) (M : mj_M) : Option mj_O := match st with
  | .int x :: st' => mj_nx (pc + 1) L (.int x :: .int x :: st') M
  | .ref x :: st' => mj_nx (pc + 1) L (.ref x :: .ref x :: st') M
  | _ => none
def mj_dup2 (pc : Nat) (L st : List Value) (M : mj_M) : Option mj_O := match st with
  | .int x :: .int y :: st' => mj_nx (pc + 1) L (.int x :: .int y :: .int x :: .int y :: st') M
  | .int x :: .ref y :: st' => mj_nx (pc + 1) L (.int x :: .ref y :: .int x :: .ref y :: st') M
  | _ => none
def mj_icmp (c : Jvm.ClassFile.Cond) (off : Int) (pc : Nat) (L st : List Value) (M : mj_M) : Option mj_O := match st with
  | .int y :: .int x :: st' => mj_br (mj_cmp c x y) pc off L st' M
  | _ => none
def mj_ifc (c : Jvm.ClassFile.Cond) (off : Int) (pc : Nat) (L st : List Value) (M : mj_M) : Option mj_O := match st with
  | .int x :: st' => mj_br (mj_cmp c x 0) pc off L st' M
  | _ => none
def mj_tsw (dflt lo hi : Int) (offs : Array Int) (pc : Nat) (L st : List Value) (M : mj_M) : Option mj_O := match st with
  | .int x :: st' => if x.toInt < lo ∨ hi < x.toInt then mj_go pc dflt L st' M else match offs[(x.toInt - lo).toNat]? with
    | some off => mj_go pc off L st' M
    | none => none
  | _ => none
def mj_lsw (dflt : Int) (ps : Array (Int × Int)) (pc : Nat) (L st : List Value) (M : mj_M) : Option mj_O := match st with
  | .int x :: st' => if (ps.toList.zip (ps.toList.drop 1)).all (fun (a, next) => a.1 < next.1) = true then mj_go pc (Op.lookupswitch.offset ps.toList dflt x.toInt) L st' M else none
  | _ => none
def mj_gf (k j pc : Nat) (L st : List Value) (M : mj_M) : Option mj_O := match mj_fT k j with
  | some (ci, sl, kd) => match st with
    | .ref a :: st' => if mj_ocl a = ci then mj_nx (pc + 3) L (mj_fv M a sl kd :: st') M else none
    | _ => none
  | none => none
def mj_pf (k j pc : Nat) (L st : List Value) (M : mj_M) : Option mj_O := match mj_fT k j with
  | some (ci, sl, kd) => match st with
    | .int x :: .ref a :: st' => if mj_ocl a = ci ∧ (kd = 0 ∨ (kd = 3 ∧ x &&& 1 = x)) then mj_nx (pc + 3) L st' (mj_st M a sl x) else none
    | .ref b :: .ref a :: st' => if mj_ocl a = ci ∧ kd = 2 ∧ (b = 29 ∨ b = 38) then mj_nx (pc + 3) L st' (mj_st M a sl (if b = 29 then 0 else 1)) else none
    | _ => none
  | none => none
def mj_ild (sl pc : Nat) (L st : List Value) (M : mj_M) : Option mj_O := match st with
  | .int i :: .ref a :: st' => if mj_inB i (if a = 72 then sl else mj_ial a) = true then mj_nx (pc + 1) L (.int (M a i.toNatClampNeg) :: st') M else none
  | _ => none
def mj_ist (pc : Nat) (L st : List Value) (M : mj_M) : Option mj_O := match st with
  | .int x :: .int i :: .ref a :: st' => if mj_inB i (mj_ial a) = true then mj_nx (pc + 1) L st' (mj_st M a i.toNatClampNeg x) else none
  | _ => none
def mj_bld (pc : Nat) (L st : List Value) (M : mj_M) : Option mj_O := match st with
  | .int i :: .ref a :: st' => if mj_inB i (mj_bln a) = true then mj_nx (pc + 1) L (.int (M a i.toNatClampNeg) :: st') M else none
  | _ => none
def mj_bst (pc : Nat) (L st : List Value) (M : mj_M) : Option mj_O := match st with
  | .int x :: .int i :: .ref a :: st' => if mj_inB i (mj_bal a) = true then mj_nx (pc + 1) L st' (mj_st M a i.toNatClampNeg x.toInt8.toInt32) else none
  | _ => none
def mj_aln (sl pc : Nat) (L st : List Value) (M : mj_M) : Option mj_O := match st with
  | .ref a :: st' => if a = 72 then mj_nx (pc + 1) L (.int (nI sl) :: st') M else if a = 74 then mj_nx (pc + 1) L (.int (nI 9) :: st') M else if mj_ial a = 0 then none else mj_nx (pc + 1) L (.int (nI (mj_ial a)) :: st') M
  | _ => none
def mj_vcl (id : Nat) (st : List Value) : Option mj_O := match mj_tab[id]? with
  | some me => match st.drop me.2.2.2.2.2.1 with
    | .ref b :: rest => if mj_ocl b = me.2.2.2.2.2.2.1 ∧ rest.length ≤ 8 then some (.inr (.inr (id, .ref b :: (st.take me.2.2.2.2.2.1).reverse, rest))) else none
    | _ => none
  | none => none
def mj_scl (id : Nat) (st : List Value) : Option mj_O := match mj_tab[id]? with
  | some me => if me.2.2.2.2.2.1 ≤ st.length ∧ (st.drop me.2.2.2.2.2.1).length ≤ 8 ∧ me.2.2.2.2.2.2.1 = 100 then some (.inr (.inr (id, (st.take me.2.2.2.2.2.1).reverse, st.drop me.2.2.2.2.2.1))) else none
  | none => none
def mj_acp (d pc : Nat) (L st : List Value) (M : mj_M) : Option mj_O := match st with
  | .int n :: .int dp :: .ref b :: .int sp :: .ref a :: st' =>
    if 1 ≤ d ∧ st'.length ≤ 8 ∧ ¬ sp < 0 ∧ ¬ dp < 0 ∧ ¬ n < 0 ∧ mj_ial a ≠ 0 ∧ mj_ial b ≠ 0 ∧ sp.toNatClampNeg + n.toNatClampNeg ≤ mj_ial a ∧ dp.toNatClampNeg + n.toNatClampNeg ≤ mj_ial b then mj_nx (pc + 3) L st' (mj_row M b (va_cpy (M a) (M b) sp.toNatClampNeg dp.toNatClampNeg n.toNatClampNeg)) else none
  | _ => none
def mj_ivv (k j : Nat) (st : List Value) : Option mj_O := match mj_cT k j with
  | some (kd, id) => if kd = 0 then mj_vcl id st else none
  | none => none
def mj_ivs (d k j pc : Nat) (L st : List Value) (M : mj_M) : Option mj_O := match mj_cT k j with
  | some (kd, id) => if kd = 1 ∨ kd = 2 then mj_scl id st else if kd = 3 then mj_acp d pc L st M else none
  | none => none
def mj_ldc (n k j pc : Nat) (L st : List Value) (M : mj_M) : Option mj_O := match mj_kT k j with
  | some v => mj_nx (pc + n) L (.int v :: st) M
  | none => if k = 2 ∧ j = 104 ∧ n = 2 then mj_nx (pc + n) L (.ref 73 :: st) M else none
def mj_gs (k j pc : Nat) (L st : List Value) (M : mj_M) : Option mj_O := if mj_sT k j = true then mj_nx (pc + 3) L (.int 1 :: st) M else none
def mj_rti (id : Nat) (st : List Value) : Option mj_O := match st with
  | [.int v] => match mj_tab[id]? with
    | some me => if me.2.2.2.1 = some .int ∨ (me.2.2.2.1 = some .boolean ∧ v &&& 1 = v) ∨ (me.2.2.2.1 = some .byte ∧ v.toInt8.toInt32 = v) then some (.inr (.inl (some (.int v)))) else none
    | none => none
  | _ => none
def mj_rta (id : Nat) (st : List Value) : Option mj_O := match st with
  | [.ref v] => match mj_tab[id]? with
    | some me => if me.2.2.2.1 = some (.object "CourtHand$Law") then some (.inr (.inl (some (.ref v)))) else none
    | none => none
  | _ => none
def mj_rtv (id : Nat) (st : List Value) : Option mj_O := match st with
  | [] => match mj_tab[id]? with
    | some me => if me.2.2.2.1 = none then some (.inr (.inl none)) else none
    | none => none
  | _ => none
def mj_stp (sl d id : Nat) (i : Instr) (pc : Nat) (L st : List Value) (M : mj_M) : Option mj_O := match i with
  | .iconst n => mj_nx (pc + 1) L (.int (Int32.ofInt n) :: st) M
  | .bipush n => mj_nx (pc + 2) L (.int (Int8.ofInt n).toInt32 :: st) M
  | .sipush n => mj_nx (pc + 3) L (.int (Int16.ofInt n).toInt32 :: st) M
  | .ldc j => mj_ldc 2 (mj_own id) j pc L st M
  | .ldc_w j => mj_ldc 3 (mj_own id) j pc L st M
  | .iload_n j => mj_ldi j 1 pc L st M
  | .iload j => mj_ldi j 2 pc L st M
  | .aload_n j => mj_lda j 1 pc L st M
  | .aload j => mj_lda j 2 pc L st M
  | .istore_n j => mj_sti j 1 pc L st M
  | .istore j => mj_sti j 2 pc L st M
  | .astore_n j => mj_sta j 1 pc L st M
  | .iinc j n => match L[j]? with
    | some (.int x) => mj_nx (pc + 3) (L.set j (.int (x + Int32.ofInt n))) st M
    | _ => none
  | .dup => mj_dup pc L st M
  | .dup2 => mj_dup2 pc L st M
  | .iadd => mj_bin (fun x y => x + y) pc L st M
  | .isub => mj_bin (fun x y => x - y) pc L st M
  | .imul => mj_bin (fun x y => x * y) pc L st M
  | .iand => mj_bin (fun x y => x &&& y) pc L st M
  | .ior => mj_bin (fun x y => x ||| y) pc L st M
  | .ixor => mj_bin (fun x y => x ^^^ y) pc L st M
  | .ishl => mj_bin (fun x y => x <<< (y &&& 31)) pc L st M
  | .ishr => mj_bin (fun x y => x >>> (y &&& 31)) pc L st M
  | .iushr => mj_bin (fun x y => (x.toUInt32 >>> (y.toUInt32 &&& Int32.toUInt32 31)).toInt32) pc L st M
  | .idiv => mj_dv (fun x y => x / y) pc L st M
  | .irem => mj_dv (fun x y => x - x / y * y) pc L st M
  | .ineg => mj_un (fun x => -x) pc L st M
  | .i2b => mj_un (fun x => x.toInt8.toInt32) pc L st M
  | .i2c => mj_un (fun x => (x.toUInt32 % 65536).toInt32) pc L st M
  | .goto off => mj_go pc off L st M
  | .if_icmp c off => mj_icmp c off pc L st M
  | .ifCond c off => mj_ifc c off pc L st M
  | .tableswitch dflt lo hi offs => mj_tsw dflt lo hi offs pc L st M
  | .lookupswitch dflt ps => mj_lsw dflt ps pc L st M
  | .getfield j => mj_gf (mj_own id) j pc L st M
  | .getstatic j => mj_gs (mj_own id) j pc L st M
  | .putfield j => mj_pf (mj_own id) j pc L st M
  | .iaload => mj_ild sl pc L st M
  | .iastore => mj_ist pc L st M
  | .baload => mj_bld pc L st M
  | .bastore => mj_bst pc L st M
  | .arraylength => mj_aln sl pc L st M
  | .invokevirtual j => mj_ivv (mj_own id) j st
  | .invokestatic j => mj_ivs d (mj_own id) j pc L st M
  | .ireturn => mj_rti id st
  | .areturn => mj_rta id st
  | .return_ => mj_rtv id st
  | _ => none
def mj_ml (id : Nat) : Nat := match mj_tab[id]? with
  | none => 0
  | some me => me.2.2.1
def mj_ent (id : Nat) (as : List Value) : List Value := as ++ List.replicate (mj_ml id - as.length) Value.null
def mj_ex (sl : Nat) : Nat → Nat → Nat → Nat → List Value → List Value → mj_M → Option (Option Value × mj_M)
  | 0, _, _, _, _, _, _ => none
  | n + 1, d, id, pc, L, st, M => match mj_at id pc with
    | none => none
    | some i => match mj_stp sl d id i pc L st M with
      | none => none
      | some (.inl (pc', L', st', M')) => mj_ex sl n d id pc' L' st' M'
      | some (.inr (.inl r)) => some (r, M)
      | some (.inr (.inr (y, as, rest))) => match d with
        | 0 => none
        | d' + 1 => match mj_ex sl n d' y 0 (mj_ent y as) [] M with
          | none => none
          | some (r, M1) => mj_ex sl n (d' + 1) id (pc + 3) L (r.toList ++ rest) M1
end
section
theorem mj_mono {sl : Nat} : ∀ (n d id pc : Nat) (L st : List Value) (M : mj_M) (r : Option Value × mj_M), mj_ex sl n d id pc L st M = some r → mj_ex sl (n + 1) d id pc L st M = some r := by
  intro n
  induction n with
  | zero => intro d id pc L st M r h; rw [mj_ex] at h; cases h
  | succ n ih =>
    intro d id pc L st M r h
    rw [mj_ex] at h ⊢
    cases hi : mj_at id pc with
    | none => rw [hi] at h; cases h
    | some i =>
      rw [hi] at h
      dsimp only at h ⊢
      cases hs : mj_stp sl d id i pc L st M with
      | none => rw [hs] at h; cases h
      | some o =>
        rw [hs] at h
        rcases o with ⟨pc', L', st', M'⟩ | r' | ⟨y, as, rest⟩
        · exact ih _ _ _ _ _ _ _ h
        · exact h
        · dsimp only at h ⊢
          cases d with
          | zero => cases h
          | succ d' =>
            dsimp only at h ⊢
            cases hc : mj_ex sl n d' y 0 (mj_ent y as) [] M with
            | none => rw [hc] at h; cases h
            | some q =>
              rw [hc] at h
              rw [ih _ _ _ _ _ _ _ hc]
              exact ih _ _ _ _ _ _ _ h
theorem mj_mono2 {sl : Nat} {n d id pc : Nat} {L st : List Value} {M : mj_M} {r : Option Value × mj_M} (h : mj_ex sl n d id pc L st M = some r) : ∀ k, mj_ex sl (n + k) d id pc L st M = some r := by
  intro k
  induction k with
  | zero => exact h
  | succ k ih => exact mj_mono _ _ _ _ _ _ _ _ ih
theorem mj_det {sl : Nat} {n k d id pc : Nat} {L st : List Value} {M : mj_M} {r q : Option Value × mj_M} (h : mj_ex sl n d id pc L st M = some r) (h2 : mj_ex sl k d id pc L st M = some q) : r = q := by
  have a := mj_mono2 h k
  have b := mj_mono2 h2 n
  rw [Nat.add_comm k n] at b
  exact Option.some.inj (a.symm.trans b)
noncomputable def mj_F (sl d id pc : Nat) (L st : List Value) (M : mj_M) : Option (Option Value × mj_M) :=
  @dite _ (∃ (n : Nat) (r : Option Value × mj_M), mj_ex sl n d id pc L st M = some r) (Classical.propDecidable _) (fun h => some (Classical.choose (Classical.choose_spec h))) (fun _ => none)
theorem mj_F_iff {sl d id pc : Nat} {L st : List Value} {M : mj_M} {r : Option Value × mj_M} : mj_F sl d id pc L st M = some r ↔ ∃ n, mj_ex sl n d id pc L st M = some r := by
  constructor
  · intro h
    unfold mj_F at h
    split at h
    · next hx =>
      have e := Option.some.inj h
      exact ⟨_, by rw [← e]; exact Classical.choose_spec (Classical.choose_spec hx)⟩
    · cases h
  · rintro ⟨n, h⟩
    unfold mj_F
    have hx : ∃ (n : Nat) (r : Option Value × mj_M), mj_ex sl n d id pc L st M = some r := ⟨n, r, h⟩
    rw [dif_pos hx]
    exact congrArg some (mj_det (Classical.choose_spec (Classical.choose_spec hx)) h)
theorem mj_oext {α : Type} {a b : Option α} (h : ∀ r, a = some r ↔ b = some r) : a = b := by
  cases ha : a with
  | some x => exact ((h x).mp ha).symm
  | none =>
    cases hb : b with
    | none => rfl
    | some y => rw [(h y).mpr hb] at ha; cases ha
section MJ1
variable {sl d id pc : Nat} {L st : List Value} {M : mj_M} {i : Instr}
theorem mj_Fs {pc' : Nat} {L' st' : List Value} {M' : mj_M} (h : mj_at id pc = some i) (hs : mj_stp sl d id i pc L st M = some (.inl (pc', L', st', M'))) : mj_F sl d id pc L st M = mj_F sl d id pc' L' st' M' := by
  have e : ∀ n, mj_ex sl (n + 1) d id pc L st M = mj_ex sl n d id pc' L' st' M' := by
    intro n
    rw [mj_ex, h]
    dsimp only
    rw [hs]
  refine mj_oext (fun r => ?_)
  rw [mj_F_iff, mj_F_iff]
  constructor
  · rintro ⟨n, hn⟩
    cases n with
    | zero => rw [mj_ex] at hn; cases hn
    | succ n => exact ⟨n, by rw [← e]; exact hn⟩
  · rintro ⟨n, hn⟩
    exact ⟨n + 1, by rw [e]; exact hn⟩
theorem mj_Fr {r : Option Value} (h : mj_at id pc = some i) (hs : mj_stp sl d id i pc L st M = some (.inr (.inl r))) : mj_F sl d id pc L st M = some (r, M) := by
  refine mj_F_iff.mpr ⟨1, ?_⟩
  rw [mj_ex, h]
  dsimp only
  rw [hs]
theorem mj_Fn (h : mj_at id pc = some i) (hs : mj_stp sl d id i pc L st M = none) : mj_F sl d id pc L st M = none := by
  refine mj_oext (fun r => ?_)
  rw [mj_F_iff]
  constructor
  · rintro ⟨n, hn⟩
    cases n with
    | zero => rw [mj_ex] at hn; cases hn
    | succ n =>
      rw [mj_ex, h] at hn
      dsimp only at hn
      rw [hs] at hn
      cases hn
  · intro h; cases h
theorem mj_Fc {y : Nat} {as rest : List Value} (h : mj_at id pc = some i) (hs : mj_stp sl (d + 1) id i pc L st M = some (.inr (.inr (y, as, rest)))) :
    mj_F sl (d + 1) id pc L st M = (mj_F sl d y 0 (mj_ent y as) [] M).bind (fun q => mj_F sl (d + 1) id (pc + 3) L (q.1.toList ++ rest) q.2) := by
  refine mj_oext (fun r => ?_)
  rw [mj_F_iff]
  constructor
  · rintro ⟨n, hn⟩
    cases n with
    | zero => rw [mj_ex] at hn; cases hn
    | succ n =>
      rw [mj_ex, h] at hn
      dsimp only at hn
      rw [hs] at hn
      dsimp only at hn
      cases hc : mj_ex sl n d y 0 (mj_ent y as) [] M with
      | none => rw [hc] at hn; cases hn
      | some q =>
        rw [hc] at hn
        rw [mj_F_iff.mpr ⟨n, hc⟩]
        exact mj_F_iff.mpr ⟨n, hn⟩
  · intro hb
    cases hc : mj_F sl d y 0 (mj_ent y as) [] M with
    | none => rw [hc] at hb; cases hb
    | some q =>
      rw [hc] at hb
      obtain ⟨n1, h1⟩ := mj_F_iff.mp hc
      obtain ⟨n2, h2⟩ := mj_F_iff.mp (show mj_F sl (d + 1) id (pc + 3) L (q.1.toList ++ rest) q.2 = some r from hb)
      refine ⟨n1 + n2 + 1, ?_⟩
      rw [mj_ex, h]
      dsimp only
      rw [hs]
      dsimp only
      rw [mj_mono2 h1 n2]
      dsimp only
      have h3 := mj_mono2 h2 n1
      rw [Nat.add_comm n2 n1] at h3
      exact h3
end MJ1
def mj_rk (id : Nat) : Nat := match mj_tab[id]? with
  | none => 9
  | some me => if me.2.2.2.1 = none then 0 else if me.2.2.2.1 = some .int ∨ me.2.2.2.1 = some .boolean ∨ me.2.2.2.1 = some .byte then 1 else 2
def mj_rok (k : Nat) (r : Option Value) : Prop := match r with
  | none => k = 0
  | some (.int _) => k = 1
  | some (.ref _) => k = 2
  | _ => False
theorem mj_stp_ret {sl d id pc : Nat} {L st : List Value} {M : mj_M} {i : Instr} {r : Option Value} (hs : mj_stp sl d id i pc L st M = some (.inr (.inl r))) : mj_rok (mj_rk id) r := by
  have none_of : ∀ (j : Nat), mj_vcl j st ≠ some (.inr (.inl r)) := by
    intro j h
    unfold mj_vcl at h
    repeat' split at h
    all_goals first | cases h | (simp at h)
  have none_of2 : ∀ (j : Nat), mj_scl j st ≠ some (.inr (.inl r)) := by
    intro j h
    unfold mj_scl at h
    repeat' split at h
    all_goals first | cases h | (simp at h)
  cases i
  case getfield j =>
    simp only [mj_stp, mj_gf, mj_nx] at hs
    (repeat' split at hs) <;> first | (cases hs; done) | (simp at hs; done)
  case putfield j =>
    simp only [mj_stp, mj_pf, mj_nx] at hs
    (repeat' split at hs) <;> first | (cases hs; done) | (simp at hs; done)
  case tableswitch =>
    simp only [mj_stp, mj_tsw, mj_go, mj_nx] at hs
    (repeat' split at hs) <;> first | (cases hs; done) | (simp at hs; done)
  case lookupswitch =>
    simp only [mj_stp, mj_lsw, mj_go, mj_nx] at hs
    (repeat' split at hs) <;> first | (cases hs; done) | (simp at hs; done)
  case ireturn =>
    simp only [mj_stp, mj_rti] at hs
    split at hs
    · split at hs
      · next me hm =>
        split at hs
        · next hc =>
          cases hs
          unfold mj_rok mj_rk
          rw [hm]
          dsimp only
          rcases hc with hc | hc | hc
          · rw [hc]; rfl
          · rw [hc.1]; rfl
          · rw [hc.1]; rfl
        · cases hs
      · cases hs
    · cases hs
  case areturn =>
    simp only [mj_stp, mj_rta] at hs
    split at hs
    · split at hs
      · next me hm =>
        split at hs
        · next hc =>
          cases hs
          unfold mj_rok mj_rk
          rw [hm]
          dsimp only
          rw [hc]
          rfl
        · cases hs
      · cases hs
    · cases hs
  case return_ =>
    simp only [mj_stp, mj_rtv] at hs
    split at hs
    · split at hs
      · next me hm =>
        split at hs
        · next hc =>
          cases hs
          unfold mj_rok mj_rk
          rw [hm]
          dsimp only
          rw [hc]
          rfl
        · cases hs
      · cases hs
    · cases hs
  case invokestatic j =>
    simp only [mj_stp, mj_ivs] at hs
    split at hs
    · split at hs
      · exact absurd hs (none_of2 _)
      · split at hs
        · simp only [mj_acp, mj_nx] at hs
          (repeat' split at hs) <;> first | (cases hs; done) | (simp at hs; done)
        · cases hs
    · cases hs
  case invokevirtual j =>
    simp only [mj_stp, mj_ivv] at hs
    split at hs
    · split at hs
      · exact absurd hs (none_of _)
      · cases hs
    · cases hs
  all_goals (simp only [mj_stp, mj_ldc, mj_ldi, mj_lda, mj_sti, mj_sta, mj_dup, mj_dup2, mj_bin, mj_dv, mj_un, mj_go, mj_icmp, mj_ifc, mj_br, mj_ild, mj_ist, mj_bld, mj_bst, mj_aln, mj_gs, mj_nx] at hs)
  all_goals first | (cases hs; done) | (simp at hs; done) | ((repeat' split at hs) <;> first | (cases hs; done) | (simp at hs; done))
theorem mj_ex_ret {sl : Nat} : ∀ (n d id pc : Nat) (L st : List Value) (M : mj_M) (r : Option Value × mj_M), mj_ex sl n d id pc L st M = some r → mj_rok (mj_rk id) r.1 := by
  intro n
  induction n with
  | zero => intro d id pc L st M r h; rw [mj_ex] at h; cases h
  | succ n ih =>
    intro d id pc L st M r h
    rw [mj_ex] at h
    cases hi : mj_at id pc with
    | none => rw [hi] at h; cases h
    | some i =>
      rw [hi] at h
      dsimp only at h
      cases hs : mj_stp sl d id i pc L st M with
      | none => rw [hs] at h; cases h
      | some o =>
        rw [hs] at h
        rcases o with ⟨pc', L', st', M'⟩ | r' | ⟨y, as, rest⟩
        · exact ih _ _ _ _ _ _ _ h
        · cases h
          exact mj_stp_ret hs
        · dsimp only at h
          cases d with
          | zero => cases h
          | succ d' =>
            dsimp only at h
            cases hc : mj_ex sl n d' y 0 (mj_ent y as) [] M with
            | none => rw [hc] at h; cases h
            | some q =>
              rw [hc] at h
              exact ih _ _ _ _ _ _ _ h
def mj_cd (r : Option Value) : Int32 := match r with
  | some (.int v) => v
  | some (.ref a) => nI a
  | _ => 0
noncomputable def mj_E (sl d id pc : Nat) (L st : List Value) (M : mj_M) : Option (Int32 × mj_M) := (mj_F sl d id pc L st M).map (fun q => (mj_cd q.1, q.2))
noncomputable def mj_C (sl d id : Nat) (as : List Value) (M : mj_M) : Option (Int32 × mj_M) := mj_E sl d id 0 (mj_ent id as) [] M
theorem mj_F_int {sl d id pc : Nat} {L st : List Value} {M : mj_M} {q : Option Value × mj_M} (hk : mj_rk id = 1) (h : mj_F sl d id pc L st M = some q) : q.1 = some (.int (mj_cd q.1)) := by
  obtain ⟨n, hn⟩ := mj_F_iff.mp h
  have h1 := mj_ex_ret _ _ _ _ _ _ _ _ hn
  obtain ⟨r, M'⟩ := q
  rw [hk] at h1
  unfold mj_rok at h1
  dsimp only at h1 ⊢
  split at h1
  · cases h1
  · rfl
  · cases h1
  · exact h1.elim
theorem mj_F_void {sl d id pc : Nat} {L st : List Value} {M : mj_M} {q : Option Value × mj_M} (hk : mj_rk id = 0) (h : mj_F sl d id pc L st M = some q) : q.1 = none := by
  obtain ⟨n, hn⟩ := mj_F_iff.mp h
  have h1 := mj_ex_ret _ _ _ _ _ _ _ _ hn
  obtain ⟨r, M'⟩ := q
  rw [hk] at h1
  unfold mj_rok at h1
  dsimp only at h1 ⊢
  split at h1
  · rfl
  · cases h1
  · cases h1
  · exact h1.elim
theorem mj_F_ref {sl d id pc : Nat} {L st : List Value} {M : mj_M} {q : Option Value × mj_M} (hk : mj_rk id = 2) (h : mj_F sl d id pc L st M = some q) : ∃ a, q.1 = some (.ref a) := by
  obtain ⟨n, hn⟩ := mj_F_iff.mp h
  have h1 := mj_ex_ret _ _ _ _ _ _ _ _ hn
  obtain ⟨r, M'⟩ := q
  rw [hk] at h1
  unfold mj_rok at h1
  dsimp only at h1 ⊢
  split at h1
  · cases h1
  · cases h1
  · exact ⟨_, rfl⟩
  · exact h1.elim
end
section
def mj_sg (y : Nat) : Option (Nat × Nat) := (mj_tab[y]?).map (fun me => (me.2.2.2.2.2.1, me.2.2.2.2.2.2.1))
def mj_cs (k j : Nat) : Option (Nat × Nat × Nat × Nat × Nat) := match mj_cT k j with
  | none => none
  | some (kd, y) => match mj_tab[y]? with
    | none => none
    | some me => some (kd, y, me.2.2.2.2.2.1, me.2.2.2.2.2.2.1, mj_rk y)
def mj_rt (id : Nat) : Nat := match mj_tab[id]? with
  | none => 9
  | some me => if me.2.2.2.1 = none then 0 else if me.2.2.2.1 = some .int then 1 else if me.2.2.2.1 = some .boolean then 2 else if me.2.2.2.1 = some (.object "CourtHand$Law") then 3 else if me.2.2.2.1 = some .byte then 4 else 8
theorem mj_cs_spec {k j kd y n ci rk : Nat} (h : mj_cs k j = some (kd, y, n, ci, rk)) : mj_cT k j = some (kd, y) ∧ (∃ me, mj_tab[y]? = some me ∧ me.2.2.2.2.2.1 = n ∧ me.2.2.2.2.2.2.1 = ci) ∧ mj_rk y = rk := by
  unfold mj_cs at h
  split at h
  · cases h
  · next kd' y' hc =>
    split at h
    · cases h
    · next me hm =>
      cases h
      exact ⟨hc, ⟨me, hm, rfl, rfl⟩, rfl⟩
theorem mj_rt_spec {id k : Nat} (h : mj_rt id = k) (hk : k < 9) : ∃ me, mj_tab[id]? = some me ∧ (k = 0 → me.2.2.2.1 = none) ∧ (k = 1 → me.2.2.2.1 = some .int) ∧ (k = 2 → me.2.2.2.1 = some .boolean) ∧ (k = 3 → me.2.2.2.1 = some (.object "CourtHand$Law")) ∧ (k = 4 → me.2.2.2.1 = some .byte) := by
  unfold mj_rt at h
  split at h
  · omega
  · next me hm =>
    refine ⟨me, hm, ?_⟩
    (repeat' split at h) <;> subst h <;> simp_all
def mj_rm (x y : Int32) : Int32 := x - x / y * y
def mj_us (x y : Int32) : Int32 := (x.toUInt32 >>> (y.toUInt32 &&& Int32.toUInt32 31)).toInt32
def mj_cp (M : mj_M) (a b sp dp n : Nat) : mj_M := mj_row M b (va_cpy (M a) (M b) sp dp n)
section MJ2
variable {sl d id pc : Nat} {L st : List Value} {M : mj_M}
theorem mj_Es {i : Instr} {pc' : Nat} {L' st' : List Value} {M' : mj_M} (h : mj_at id pc = some i) (hs : mj_stp sl d id i pc L st M = some (.inl (pc', L', st', M'))) : mj_E sl d id pc L st M = mj_E sl d id pc' L' st' M' := by
  unfold mj_E
  rw [mj_Fs h hs]
theorem mj_Er {i : Instr} {r : Option Value} (h : mj_at id pc = some i) (hs : mj_stp sl d id i pc L st M = some (.inr (.inl r))) : mj_E sl d id pc L st M = some (mj_cd r, M) := by
  unfold mj_E
  rw [mj_Fr h hs]
  rfl
theorem mj_En {i : Instr} (h : mj_at id pc = some i) (hs : mj_stp sl d id i pc L st M = none) : mj_E sl d id pc L st M = none := by
  unfold mj_E
  rw [mj_Fn h hs]
  rfl
theorem mj_En0 (h : mj_at id pc = none) : mj_E sl d id pc L st M = none := by
  unfold mj_E
  rw [show mj_F sl d id pc L st M = none from ?_]
  · rfl
  · refine mj_oext (fun r => ?_)
    rw [mj_F_iff]
    constructor
    · rintro ⟨n, hn⟩
      cases n with
      | zero => rw [mj_ex] at hn; cases hn
      | succ n => rw [mj_ex, h] at hn; cases hn
    · intro h; cases h
theorem mj_Eci {i : Instr} {y : Nat} {as rest : List Value} (h : mj_at id pc = some i) (hk : mj_rk y = 1) (hs : mj_stp sl (d + 1) id i pc L st M = some (.inr (.inr (y, as, rest)))) :
    mj_E sl (d + 1) id pc L st M = (mj_C sl d y as M).bind (fun q => mj_E sl (d + 1) id (pc + 3) L (.int q.1 :: rest) q.2) := by
  unfold mj_C mj_E
  rw [mj_Fc h hs]
  cases hc : mj_F sl d y 0 (mj_ent y as) [] M with
  | none => rfl
  | some q =>
    have e := mj_F_int hk hc
    show Option.map _ (mj_F sl (d + 1) id (pc + 3) L (q.1.toList ++ rest) q.2) = Option.map _ (mj_F sl (d + 1) id (pc + 3) L (.int (mj_cd q.1) :: rest) q.2)
    rw [show q.1.toList ++ rest = .int (mj_cd q.1) :: rest from by rw [e]; rfl]
theorem mj_Ecv {i : Instr} {y : Nat} {as rest : List Value} (h : mj_at id pc = some i) (hk : mj_rk y = 0) (hs : mj_stp sl (d + 1) id i pc L st M = some (.inr (.inr (y, as, rest)))) :
    mj_E sl (d + 1) id pc L st M = (mj_C sl d y as M).bind (fun q => mj_E sl (d + 1) id (pc + 3) L rest q.2) := by
  unfold mj_C mj_E
  rw [mj_Fc h hs]
  cases hc : mj_F sl d y 0 (mj_ent y as) [] M with
  | none => rfl
  | some q =>
    have e := mj_F_void hk hc
    show Option.map _ (mj_F sl (d + 1) id (pc + 3) L (q.1.toList ++ rest) q.2) = Option.map _ (mj_F sl (d + 1) id (pc + 3) L rest q.2)
    rw [show q.1.toList ++ rest = rest from by rw [e]; rfl]
theorem mj_ite {α : Type} {c : Prop} [Decidable c] {a b a' b' : α} (h1 : a = a') (h2 : b = b') : (if c then a else b) = (if c then a' else b') := by rw [h1, h2]
theorem mj_itc {α : Type} {c : Prop} [Decidable c] {a b a' b' : α} (h1 : c → a = a') (h2 : ¬ c → b = b') : (if c then a else b) = (if c then a' else b') := by
  by_cases h : c
  · rw [if_pos h, if_pos h]; exact h1 h
  · rw [if_neg h, if_neg h]; exact h2 h
theorem mj_bnd {α β : Type} {x : Option α} {f g : α → Option β} (h : ∀ q, f q = g q) : x.bind f = x.bind g := by rw [show f = g from funext h]
theorem mj_bnd2 {α β γ : Type} {x : Option (α × β)} {f : α × β → Option γ} {g : α → β → Option γ} (h : ∀ a b, f (a, b) = g a b) : x.bind f = x.bind (fun q => g q.1 q.2) := by
  rw [show f = (fun q => g q.1 q.2) from funext (fun q => h q.1 q.2)]

theorem sx_iconst {n : Int} {v : Int32} (h : mj_at id pc = some (.iconst n)) (hv : Int32.ofInt n = v) : mj_E sl d id pc L st M = mj_E sl d id (pc + 1) L (.int v :: st) M := mj_Es h (by subst hv; rfl)
theorem sx_bipush {n : Int} {v : Int32} (h : mj_at id pc = some (.bipush n)) (hv : (Int8.ofInt n).toInt32 = v) : mj_E sl d id pc L st M = mj_E sl d id (pc + 2) L (.int v :: st) M := mj_Es h (by subst hv; rfl)
theorem sx_sipush {n : Int} {v : Int32} (h : mj_at id pc = some (.sipush n)) (hv : (Int16.ofInt n).toInt32 = v) : mj_E sl d id pc L st M = mj_E sl d id (pc + 3) L (.int v :: st) M := mj_Es h (by subst hv; rfl)
theorem sx_ldc {j k : Nat} {v : Int32} (h : mj_at id pc = some (.ldc j)) (ho : mj_own id = k) (hv : mj_kT k j = some v) : mj_E sl d id pc L st M = mj_E sl d id (pc + 2) L (.int v :: st) M := mj_Es h (by simp only [mj_stp, mj_ldc, ho, hv]; rfl)
theorem sx_ldcw {j k : Nat} {v : Int32} (h : mj_at id pc = some (.ldc_w j)) (ho : mj_own id = k) (hv : mj_kT k j = some v) : mj_E sl d id pc L st M = mj_E sl d id (pc + 3) L (.int v :: st) M := mj_Es h (by simp only [mj_stp, mj_ldc, ho, hv]; rfl)
theorem sx_ldcs  (h : mj_at id pc = some (.ldc 104)) (ho : mj_own id = 2) (hv : mj_kT 2 104 = none) : mj_E sl d id pc L st M = mj_E sl d id (pc + 2) L (.ref 73 :: st) M := mj_Es h (by simp only [mj_stp, mj_ldc, ho, hv]; rfl)
theorem sx_iload_n {j : Fin 4} {x : Int32} (h : mj_at id pc = some (.iload_n j)) (hl : L[(j : Nat)]? = some (.int x)) : mj_E sl d id pc L st M = mj_E sl d id (pc + 1) L (.int x :: st) M := mj_Es h (by simp only [mj_stp, mj_ldi, hl]; rfl)
theorem sx_iload {j : Nat} {x : Int32} (h : mj_at id pc = some (.iload j)) (hl : L[(j : Nat)]? = some (.int x)) : mj_E sl d id pc L st M = mj_E sl d id (pc + 2) L (.int x :: st) M := mj_Es h (by simp only [mj_stp, mj_ldi, hl]; rfl)
theorem sx_aload_n {j : Fin 4} {x : Nat} (h : mj_at id pc = some (.aload_n j)) (hl : L[(j : Nat)]? = some (.ref x)) : mj_E sl d id pc L st M = mj_E sl d id (pc + 1) L (.ref x :: st) M := mj_Es h (by simp only [mj_stp, mj_lda, hl]; rfl)
theorem sx_aload {j : Nat} {x : Nat} (h : mj_at id pc = some (.aload j)) (hl : L[(j : Nat)]? = some (.ref x)) : mj_E sl d id pc L st M = mj_E sl d id (pc + 2) L (.ref x :: st) M := mj_Es h (by simp only [mj_stp, mj_lda, hl]; rfl)
theorem sx_istore_n {j : Fin 4} {x : Int32} {L' : List Value} (h : mj_at id pc = some (.istore_n j)) (hn : (j : Nat) < L.length) (hl : L.set (j : Nat) (.int x) = L') : mj_E sl d id pc L (.int x :: st) M = mj_E sl d id (pc + 1) L' st M := mj_Es h (by subst hl; simp only [mj_stp, mj_sti, if_pos hn]; rfl)
theorem sx_istore {j : Nat} {x : Int32} {L' : List Value} (h : mj_at id pc = some (.istore j)) (hn : (j : Nat) < L.length) (hl : L.set (j : Nat) (.int x) = L') : mj_E sl d id pc L (.int x :: st) M = mj_E sl d id (pc + 2) L' st M := mj_Es h (by subst hl; simp only [mj_stp, mj_sti, if_pos hn]; rfl)
theorem sx_astore_n {j : Fin 4} {x : Nat} {L' : List Value} (h : mj_at id pc = some (.astore_n j)) (hn : (j : Nat) < L.length) (hl : L.set (j : Nat) (.ref x) = L') : mj_E sl d id pc L (.ref x :: st) M = mj_E sl d id (pc + 1) L' st M := mj_Es h (by subst hl; simp only [mj_stp, mj_sta, if_pos hn]; rfl)
theorem sx_iinc {j : Nat} {n : Int} {v x : Int32} {L' : List Value} (h : mj_at id pc = some (.iinc j n)) (hx : L[j]? = some (.int x)) (hv : Int32.ofInt n = v) (hl : L.set j (.int (x + v)) = L') : mj_E sl d id pc L st M = mj_E sl d id (pc + 3) L' st M := mj_Es h (by subst hl; subst hv; simp only [mj_stp, hx]; rfl)
theorem sx_dupi {x : Int32} (h : mj_at id pc = some (.dup))  : mj_E sl d id pc L (.int x :: st) M = mj_E sl d id (pc + 1) L (.int x :: .int x :: st) M := mj_Es h (by rfl)
theorem sx_dupa {x : Nat} (h : mj_at id pc = some (.dup))  : mj_E sl d id pc L (.ref x :: st) M = mj_E sl d id (pc + 1) L (.ref x :: .ref x :: st) M := mj_Es h (by rfl)
theorem sx_dup2 {x : Int32} {y : Nat} (h : mj_at id pc = some (.dup2))  : mj_E sl d id pc L (.int x :: .ref y :: st) M = mj_E sl d id (pc + 1) L (.int x :: .ref y :: .int x :: .ref y :: st) M := mj_Es h (by rfl)
theorem sx_iadd {x y : Int32} (h : mj_at id pc = some (.iadd))  : mj_E sl d id pc L (.int y :: .int x :: st) M = mj_E sl d id (pc + 1) L (.int (x + y) :: st) M := mj_Es h (by rfl)
theorem sx_isub {x y : Int32} (h : mj_at id pc = some (.isub))  : mj_E sl d id pc L (.int y :: .int x :: st) M = mj_E sl d id (pc + 1) L (.int (x - y) :: st) M := mj_Es h (by rfl)
theorem sx_imul {x y : Int32} (h : mj_at id pc = some (.imul))  : mj_E sl d id pc L (.int y :: .int x :: st) M = mj_E sl d id (pc + 1) L (.int (x * y) :: st) M := mj_Es h (by rfl)
theorem sx_iand {x y : Int32} (h : mj_at id pc = some (.iand))  : mj_E sl d id pc L (.int y :: .int x :: st) M = mj_E sl d id (pc + 1) L (.int (x &&& y) :: st) M := mj_Es h (by rfl)
theorem sx_ior {x y : Int32} (h : mj_at id pc = some (.ior))  : mj_E sl d id pc L (.int y :: .int x :: st) M = mj_E sl d id (pc + 1) L (.int (x ||| y) :: st) M := mj_Es h (by rfl)
theorem sx_ixor {x y : Int32} (h : mj_at id pc = some (.ixor))  : mj_E sl d id pc L (.int y :: .int x :: st) M = mj_E sl d id (pc + 1) L (.int (x ^^^ y) :: st) M := mj_Es h (by rfl)
theorem sx_ishl {x y : Int32} (h : mj_at id pc = some (.ishl))  : mj_E sl d id pc L (.int y :: .int x :: st) M = mj_E sl d id (pc + 1) L (.int (x <<< (y &&& 31)) :: st) M := mj_Es h (by rfl)
theorem sx_ishr {x y : Int32} (h : mj_at id pc = some (.ishr))  : mj_E sl d id pc L (.int y :: .int x :: st) M = mj_E sl d id (pc + 1) L (.int (x >>> (y &&& 31)) :: st) M := mj_Es h (by rfl)
theorem sx_iushr {x y : Int32} (h : mj_at id pc = some (.iushr))  : mj_E sl d id pc L (.int y :: .int x :: st) M = mj_E sl d id (pc + 1) L (.int (mj_us x y) :: st) M := mj_Es h (by rfl)
theorem sx_idiv {x y : Int32} (h : mj_at id pc = some (.idiv)) (hy : ¬ y = 0) : mj_E sl d id pc L (.int y :: .int x :: st) M = mj_E sl d id (pc + 1) L (.int (x / y) :: st) M := mj_Es h (by simp only [mj_stp, mj_dv, if_neg hy]; rfl)
theorem sx_idivg {x y : Int32} (h : mj_at id pc = some (.idiv)) : mj_E sl d id pc L (.int y :: .int x :: st) M = if y = 0 then none else mj_E sl d id (pc + 1) L (.int (x / y) :: st) M := by
  split
  · next hy => exact mj_En h (by simp only [mj_stp, mj_dv, if_pos hy])
  · next hy => exact sx_idiv h hy
theorem sx_irem {x y : Int32} (h : mj_at id pc = some (.irem)) (hy : ¬ y = 0) : mj_E sl d id pc L (.int y :: .int x :: st) M = mj_E sl d id (pc + 1) L (.int (mj_rm x y) :: st) M := mj_Es h (by simp only [mj_stp, mj_dv, if_neg hy]; rfl)
theorem sx_iremg {x y : Int32} (h : mj_at id pc = some (.irem)) : mj_E sl d id pc L (.int y :: .int x :: st) M = if y = 0 then none else mj_E sl d id (pc + 1) L (.int (mj_rm x y) :: st) M := by
  split
  · next hy => exact mj_En h (by simp only [mj_stp, mj_dv, if_pos hy])
  · next hy => exact sx_irem h hy
theorem sx_ineg {x : Int32} (h : mj_at id pc = some (.ineg))  : mj_E sl d id pc L (.int x :: st) M = mj_E sl d id (pc + 1) L (.int (-x) :: st) M := mj_Es h (by rfl)
theorem sx_i2b {x : Int32} (h : mj_at id pc = some (.i2b))  : mj_E sl d id pc L (.int x :: st) M = mj_E sl d id (pc + 1) L (.int (x.toInt8.toInt32) :: st) M := mj_Es h (by rfl)
theorem sx_i2c {x : Int32} (h : mj_at id pc = some (.i2c))  : mj_E sl d id pc L (.int x :: st) M = mj_E sl d id (pc + 1) L (.int ((x.toUInt32 % 65536).toInt32) :: st) M := mj_Es h (by rfl)
theorem mj_go_of {pc tgt : Nat} {off : Int} {L st : List Value} {M : mj_M} (ht : (pc : Int) + off = (tgt : Int)) : mj_go pc off L st M = some (.inl (tgt, L, st, M)) := by
  unfold mj_go
  rw [ht, if_pos (by omega), Int.toNat_natCast]
theorem mj_bf_of {pc tgt : Nat} {off : Int} {L st : List Value} {M : mj_M} (ht : (pc : Int) + off = (tgt : Int)) : mj_br false pc off L st M = some (.inl (pc + 3, L, st, M)) := by
  unfold mj_br
  dsimp only
  rw [ht, if_pos (by omega)]
  rfl
theorem sx_goto {off : Int} {tgt : Nat} (h : mj_at id pc = some (.goto off)) (ht : (pc : Int) + off = (tgt : Int)) : mj_E sl d id pc L st M = mj_E sl d id tgt L st M := mj_Es h (by simp only [mj_stp]; exact mj_go_of ht)
theorem sx_icmp_eq {x y : Int32} {off : Int} {tgt : Nat} (h : mj_at id pc = some (.if_icmp .eq off)) (ht : (pc : Int) + off = (tgt : Int)) : mj_E sl d id pc L (.int y :: .int x :: st) M = if x = y then mj_E sl d id tgt L st M else mj_E sl d id (pc + 3) L st M := by
  split
  · next hc => exact mj_Es h (by simp only [mj_stp, mj_icmp, mj_ifc, mj_cmp]; rw [decide_eq_true (by exact hc)]; exact mj_go_of ht)
  · next hc => exact mj_Es h (by simp only [mj_stp, mj_icmp, mj_ifc, mj_cmp]; rw [decide_eq_false (by exact hc)]; exact mj_bf_of ht)
theorem sx_if_eq {x : Int32} {off : Int} {tgt : Nat} (h : mj_at id pc = some (.ifCond .eq off)) (ht : (pc : Int) + off = (tgt : Int)) : mj_E sl d id pc L (.int x :: st) M = if x = 0 then mj_E sl d id tgt L st M else mj_E sl d id (pc + 3) L st M := by
  split
  · next hc => exact mj_Es h (by simp only [mj_stp, mj_icmp, mj_ifc, mj_cmp]; rw [decide_eq_true (by exact hc)]; exact mj_go_of ht)
  · next hc => exact mj_Es h (by simp only [mj_stp, mj_icmp, mj_ifc, mj_cmp]; rw [decide_eq_false (by exact hc)]; exact mj_bf_of ht)
theorem sx_icmp_ne {x y : Int32} {off : Int} {tgt : Nat} (h : mj_at id pc = some (.if_icmp .ne off)) (ht : (pc : Int) + off = (tgt : Int)) : mj_E sl d id pc L (.int y :: .int x :: st) M = if x = y then mj_E sl d id (pc + 3) L st M else mj_E sl d id tgt L st M := by
  split
  · next hc => exact mj_Es h (by simp only [mj_stp, mj_icmp, mj_ifc, mj_cmp]; rw [decide_eq_false (by exact fun z => z hc)]; exact mj_bf_of ht)
  · next hc => exact mj_Es h (by simp only [mj_stp, mj_icmp, mj_ifc, mj_cmp]; rw [decide_eq_true (by exact hc)]; exact mj_go_of ht)
theorem sx_if_ne {x : Int32} {off : Int} {tgt : Nat} (h : mj_at id pc = some (.ifCond .ne off)) (ht : (pc : Int) + off = (tgt : Int)) : mj_E sl d id pc L (.int x :: st) M = if x = 0 then mj_E sl d id (pc + 3) L st M else mj_E sl d id tgt L st M := by
  split
  · next hc => exact mj_Es h (by simp only [mj_stp, mj_icmp, mj_ifc, mj_cmp]; rw [decide_eq_false (by exact fun z => z hc)]; exact mj_bf_of ht)
  · next hc => exact mj_Es h (by simp only [mj_stp, mj_icmp, mj_ifc, mj_cmp]; rw [decide_eq_true (by exact hc)]; exact mj_go_of ht)
theorem sx_icmp_lt {x y : Int32} {off : Int} {tgt : Nat} (h : mj_at id pc = some (.if_icmp .lt off)) (ht : (pc : Int) + off = (tgt : Int)) : mj_E sl d id pc L (.int y :: .int x :: st) M = if x < y then mj_E sl d id tgt L st M else mj_E sl d id (pc + 3) L st M := by
  split
  · next hc => exact mj_Es h (by simp only [mj_stp, mj_icmp, mj_ifc, mj_cmp]; rw [decide_eq_true (by exact hc)]; exact mj_go_of ht)
  · next hc => exact mj_Es h (by simp only [mj_stp, mj_icmp, mj_ifc, mj_cmp]; rw [decide_eq_false (by exact hc)]; exact mj_bf_of ht)
theorem sx_if_lt {x : Int32} {off : Int} {tgt : Nat} (h : mj_at id pc = some (.ifCond .lt off)) (ht : (pc : Int) + off = (tgt : Int)) : mj_E sl d id pc L (.int x :: st) M = if x < 0 then mj_E sl d id tgt L st M else mj_E sl d id (pc + 3) L st M := by
  split
  · next hc => exact mj_Es h (by simp only [mj_stp, mj_icmp, mj_ifc, mj_cmp]; rw [decide_eq_true (by exact hc)]; exact mj_go_of ht)
  · next hc => exact mj_Es h (by simp only [mj_stp, mj_icmp, mj_ifc, mj_cmp]; rw [decide_eq_false (by exact hc)]; exact mj_bf_of ht)
theorem sx_icmp_ge {x y : Int32} {off : Int} {tgt : Nat} (h : mj_at id pc = some (.if_icmp .ge off)) (ht : (pc : Int) + off = (tgt : Int)) : mj_E sl d id pc L (.int y :: .int x :: st) M = if x < y then mj_E sl d id (pc + 3) L st M else mj_E sl d id tgt L st M := by
  split
  · next hc => exact mj_Es h (by simp only [mj_stp, mj_icmp, mj_ifc, mj_cmp]; rw [decide_eq_false (by exact Int32.not_le.mpr hc)]; exact mj_bf_of ht)
  · next hc => exact mj_Es h (by simp only [mj_stp, mj_icmp, mj_ifc, mj_cmp]; rw [decide_eq_true (by exact Int32.not_lt.mp hc)]; exact mj_go_of ht)
theorem sx_if_ge {x : Int32} {off : Int} {tgt : Nat} (h : mj_at id pc = some (.ifCond .ge off)) (ht : (pc : Int) + off = (tgt : Int)) : mj_E sl d id pc L (.int x :: st) M = if x < 0 then mj_E sl d id (pc + 3) L st M else mj_E sl d id tgt L st M := by
  split
  · next hc => exact mj_Es h (by simp only [mj_stp, mj_icmp, mj_ifc, mj_cmp]; rw [decide_eq_false (by exact Int32.not_le.mpr hc)]; exact mj_bf_of ht)
  · next hc => exact mj_Es h (by simp only [mj_stp, mj_icmp, mj_ifc, mj_cmp]; rw [decide_eq_true (by exact Int32.not_lt.mp hc)]; exact mj_go_of ht)
theorem sx_icmp_gt {x y : Int32} {off : Int} {tgt : Nat} (h : mj_at id pc = some (.if_icmp .gt off)) (ht : (pc : Int) + off = (tgt : Int)) : mj_E sl d id pc L (.int y :: .int x :: st) M = if x ≤ y then mj_E sl d id (pc + 3) L st M else mj_E sl d id tgt L st M := by
  split
  · next hc => exact mj_Es h (by simp only [mj_stp, mj_icmp, mj_ifc, mj_cmp]; rw [decide_eq_false (by exact Int32.not_lt.mpr hc)]; exact mj_bf_of ht)
  · next hc => exact mj_Es h (by simp only [mj_stp, mj_icmp, mj_ifc, mj_cmp]; rw [decide_eq_true (by exact Int32.not_le.mp hc)]; exact mj_go_of ht)
theorem sx_if_gt {x : Int32} {off : Int} {tgt : Nat} (h : mj_at id pc = some (.ifCond .gt off)) (ht : (pc : Int) + off = (tgt : Int)) : mj_E sl d id pc L (.int x :: st) M = if x ≤ 0 then mj_E sl d id (pc + 3) L st M else mj_E sl d id tgt L st M := by
  split
  · next hc => exact mj_Es h (by simp only [mj_stp, mj_icmp, mj_ifc, mj_cmp]; rw [decide_eq_false (by exact Int32.not_lt.mpr hc)]; exact mj_bf_of ht)
  · next hc => exact mj_Es h (by simp only [mj_stp, mj_icmp, mj_ifc, mj_cmp]; rw [decide_eq_true (by exact Int32.not_le.mp hc)]; exact mj_go_of ht)
theorem sx_icmp_le {x y : Int32} {off : Int} {tgt : Nat} (h : mj_at id pc = some (.if_icmp .le off)) (ht : (pc : Int) + off = (tgt : Int)) : mj_E sl d id pc L (.int y :: .int x :: st) M = if x ≤ y then mj_E sl d id tgt L st M else mj_E sl d id (pc + 3) L st M := by
  split
  · next hc => exact mj_Es h (by simp only [mj_stp, mj_icmp, mj_ifc, mj_cmp]; rw [decide_eq_true (by exact hc)]; exact mj_go_of ht)
  · next hc => exact mj_Es h (by simp only [mj_stp, mj_icmp, mj_ifc, mj_cmp]; rw [decide_eq_false (by exact hc)]; exact mj_bf_of ht)
theorem sx_if_le {x : Int32} {off : Int} {tgt : Nat} (h : mj_at id pc = some (.ifCond .le off)) (ht : (pc : Int) + off = (tgt : Int)) : mj_E sl d id pc L (.int x :: st) M = if x ≤ 0 then mj_E sl d id tgt L st M else mj_E sl d id (pc + 3) L st M := by
  split
  · next hc => exact mj_Es h (by simp only [mj_stp, mj_icmp, mj_ifc, mj_cmp]; rw [decide_eq_true (by exact hc)]; exact mj_go_of ht)
  · next hc => exact mj_Es h (by simp only [mj_stp, mj_icmp, mj_ifc, mj_cmp]; rw [decide_eq_false (by exact hc)]; exact mj_bf_of ht)
theorem sx_icmp_eq_t {x y : Int32} {off : Int} {tgt : Nat} (h : mj_at id pc = some (.if_icmp .eq off)) (ht : (pc : Int) + off = (tgt : Int)) (hc : x = y) : mj_E sl d id pc L (.int y :: .int x :: st) M = mj_E sl d id tgt L st M := (sx_icmp_eq h ht).trans (if_pos hc)
theorem sx_icmp_eq_f {x y : Int32} {off : Int} {tgt : Nat} (h : mj_at id pc = some (.if_icmp .eq off)) (ht : (pc : Int) + off = (tgt : Int)) (hc : ¬ x = y) : mj_E sl d id pc L (.int y :: .int x :: st) M = mj_E sl d id (pc + 3) L st M := (sx_icmp_eq h ht).trans (if_neg hc)
theorem sx_if_eq_t {x : Int32} {off : Int} {tgt : Nat} (h : mj_at id pc = some (.ifCond .eq off)) (ht : (pc : Int) + off = (tgt : Int)) (hc : x = 0) : mj_E sl d id pc L (.int x :: st) M = mj_E sl d id tgt L st M := (sx_if_eq h ht).trans (if_pos hc)
theorem sx_if_eq_f {x : Int32} {off : Int} {tgt : Nat} (h : mj_at id pc = some (.ifCond .eq off)) (ht : (pc : Int) + off = (tgt : Int)) (hc : ¬ x = 0) : mj_E sl d id pc L (.int x :: st) M = mj_E sl d id (pc + 3) L st M := (sx_if_eq h ht).trans (if_neg hc)
theorem sx_icmp_ne_t {x y : Int32} {off : Int} {tgt : Nat} (h : mj_at id pc = some (.if_icmp .ne off)) (ht : (pc : Int) + off = (tgt : Int)) (hc : x = y) : mj_E sl d id pc L (.int y :: .int x :: st) M = mj_E sl d id (pc + 3) L st M := (sx_icmp_ne h ht).trans (if_pos hc)
theorem sx_icmp_ne_f {x y : Int32} {off : Int} {tgt : Nat} (h : mj_at id pc = some (.if_icmp .ne off)) (ht : (pc : Int) + off = (tgt : Int)) (hc : ¬ x = y) : mj_E sl d id pc L (.int y :: .int x :: st) M = mj_E sl d id tgt L st M := (sx_icmp_ne h ht).trans (if_neg hc)
theorem sx_if_ne_t {x : Int32} {off : Int} {tgt : Nat} (h : mj_at id pc = some (.ifCond .ne off)) (ht : (pc : Int) + off = (tgt : Int)) (hc : x = 0) : mj_E sl d id pc L (.int x :: st) M = mj_E sl d id (pc + 3) L st M := (sx_if_ne h ht).trans (if_pos hc)
theorem sx_if_ne_f {x : Int32} {off : Int} {tgt : Nat} (h : mj_at id pc = some (.ifCond .ne off)) (ht : (pc : Int) + off = (tgt : Int)) (hc : ¬ x = 0) : mj_E sl d id pc L (.int x :: st) M = mj_E sl d id tgt L st M := (sx_if_ne h ht).trans (if_neg hc)
theorem sx_icmp_lt_t {x y : Int32} {off : Int} {tgt : Nat} (h : mj_at id pc = some (.if_icmp .lt off)) (ht : (pc : Int) + off = (tgt : Int)) (hc : x < y) : mj_E sl d id pc L (.int y :: .int x :: st) M = mj_E sl d id tgt L st M := (sx_icmp_lt h ht).trans (if_pos hc)
theorem sx_icmp_lt_f {x y : Int32} {off : Int} {tgt : Nat} (h : mj_at id pc = some (.if_icmp .lt off)) (ht : (pc : Int) + off = (tgt : Int)) (hc : ¬ x < y) : mj_E sl d id pc L (.int y :: .int x :: st) M = mj_E sl d id (pc + 3) L st M := (sx_icmp_lt h ht).trans (if_neg hc)
theorem sx_if_lt_t {x : Int32} {off : Int} {tgt : Nat} (h : mj_at id pc = some (.ifCond .lt off)) (ht : (pc : Int) + off = (tgt : Int)) (hc : x < 0) : mj_E sl d id pc L (.int x :: st) M = mj_E sl d id tgt L st M := (sx_if_lt h ht).trans (if_pos hc)
theorem sx_if_lt_f {x : Int32} {off : Int} {tgt : Nat} (h : mj_at id pc = some (.ifCond .lt off)) (ht : (pc : Int) + off = (tgt : Int)) (hc : ¬ x < 0) : mj_E sl d id pc L (.int x :: st) M = mj_E sl d id (pc + 3) L st M := (sx_if_lt h ht).trans (if_neg hc)
theorem sx_icmp_ge_t {x y : Int32} {off : Int} {tgt : Nat} (h : mj_at id pc = some (.if_icmp .ge off)) (ht : (pc : Int) + off = (tgt : Int)) (hc : x < y) : mj_E sl d id pc L (.int y :: .int x :: st) M = mj_E sl d id (pc + 3) L st M := (sx_icmp_ge h ht).trans (if_pos hc)
theorem sx_icmp_ge_f {x y : Int32} {off : Int} {tgt : Nat} (h : mj_at id pc = some (.if_icmp .ge off)) (ht : (pc : Int) + off = (tgt : Int)) (hc : ¬ x < y) : mj_E sl d id pc L (.int y :: .int x :: st) M = mj_E sl d id tgt L st M := (sx_icmp_ge h ht).trans (if_neg hc)
theorem sx_if_ge_t {x : Int32} {off : Int} {tgt : Nat} (h : mj_at id pc = some (.ifCond .ge off)) (ht : (pc : Int) + off = (tgt : Int)) (hc : x < 0) : mj_E sl d id pc L (.int x :: st) M = mj_E sl d id (pc + 3) L st M := (sx_if_ge h ht).trans (if_pos hc)
theorem sx_if_ge_f {x : Int32} {off : Int} {tgt : Nat} (h : mj_at id pc = some (.ifCond .ge off)) (ht : (pc : Int) + off = (tgt : Int)) (hc : ¬ x < 0) : mj_E sl d id pc L (.int x :: st) M = mj_E sl d id tgt L st M := (sx_if_ge h ht).trans (if_neg hc)
theorem sx_icmp_gt_t {x y : Int32} {off : Int} {tgt : Nat} (h : mj_at id pc = some (.if_icmp .gt off)) (ht : (pc : Int) + off = (tgt : Int)) (hc : x ≤ y) : mj_E sl d id pc L (.int y :: .int x :: st) M = mj_E sl d id (pc + 3) L st M := (sx_icmp_gt h ht).trans (if_pos hc)
theorem sx_icmp_gt_f {x y : Int32} {off : Int} {tgt : Nat} (h : mj_at id pc = some (.if_icmp .gt off)) (ht : (pc : Int) + off = (tgt : Int)) (hc : ¬ x ≤ y) : mj_E sl d id pc L (.int y :: .int x :: st) M = mj_E sl d id tgt L st M := (sx_icmp_gt h ht).trans (if_neg hc)
theorem sx_if_gt_t {x : Int32} {off : Int} {tgt : Nat} (h : mj_at id pc = some (.ifCond .gt off)) (ht : (pc : Int) + off = (tgt : Int)) (hc : x ≤ 0) : mj_E sl d id pc L (.int x :: st) M = mj_E sl d id (pc + 3) L st M := (sx_if_gt h ht).trans (if_pos hc)
theorem sx_if_gt_f {x : Int32} {off : Int} {tgt : Nat} (h : mj_at id pc = some (.ifCond .gt off)) (ht : (pc : Int) + off = (tgt : Int)) (hc : ¬ x ≤ 0) : mj_E sl d id pc L (.int x :: st) M = mj_E sl d id tgt L st M := (sx_if_gt h ht).trans (if_neg hc)
theorem sx_icmp_le_t {x y : Int32} {off : Int} {tgt : Nat} (h : mj_at id pc = some (.if_icmp .le off)) (ht : (pc : Int) + off = (tgt : Int)) (hc : x ≤ y) : mj_E sl d id pc L (.int y :: .int x :: st) M = mj_E sl d id tgt L st M := (sx_icmp_le h ht).trans (if_pos hc)
theorem sx_icmp_le_f {x y : Int32} {off : Int} {tgt : Nat} (h : mj_at id pc = some (.if_icmp .le off)) (ht : (pc : Int) + off = (tgt : Int)) (hc : ¬ x ≤ y) : mj_E sl d id pc L (.int y :: .int x :: st) M = mj_E sl d id (pc + 3) L st M := (sx_icmp_le h ht).trans (if_neg hc)
theorem sx_if_le_t {x : Int32} {off : Int} {tgt : Nat} (h : mj_at id pc = some (.ifCond .le off)) (ht : (pc : Int) + off = (tgt : Int)) (hc : x ≤ 0) : mj_E sl d id pc L (.int x :: st) M = mj_E sl d id tgt L st M := (sx_if_le h ht).trans (if_pos hc)
theorem sx_if_le_f {x : Int32} {off : Int} {tgt : Nat} (h : mj_at id pc = some (.ifCond .le off)) (ht : (pc : Int) + off = (tgt : Int)) (hc : ¬ x ≤ 0) : mj_E sl d id pc L (.int x :: st) M = mj_E sl d id (pc + 3) L st M := (sx_if_le h ht).trans (if_neg hc)
theorem sx_tsw_in {dflt lo hi off : Int} {offs : Array Int} {x c : Int32} {tgt : Nat} (h : mj_at id pc = some (.tableswitch dflt lo hi offs)) (hx : x = c) (h1 : ¬ (c.toInt < lo ∨ hi < c.toInt)) (ho : offs[(c.toInt - lo).toNat]? = some off) (ht : (pc : Int) + off = (tgt : Int)) : mj_E sl d id pc L (.int x :: st) M = mj_E sl d id tgt L st M := by
  subst hx
  refine mj_Es h ?_
  simp only [mj_stp, mj_tsw, if_neg h1, ho]
  exact mj_go_of ht
theorem sx_tsw_out {dflt lo hi : Int} {offs : Array Int} {x : Int32} {tgt : Nat} (h : mj_at id pc = some (.tableswitch dflt lo hi offs)) (h1 : x.toInt < lo ∨ hi < x.toInt) (ht : (pc : Int) + dflt = (tgt : Int)) : mj_E sl d id pc L (.int x :: st) M = mj_E sl d id tgt L st M := by
  refine mj_Es h ?_
  simp only [mj_stp, mj_tsw, if_pos h1]
  exact mj_go_of ht
theorem sx_lsw {dflt off : Int} {ps : Array (Int × Int)} {x : Int32} {tgt : Nat} (h : mj_at id pc = some (.lookupswitch dflt ps)) (hp : (ps.toList.zip (ps.toList.drop 1)).all (fun (a, next) => a.1 < next.1) = true) (ho : Op.lookupswitch.offset ps.toList dflt x.toInt = off) (ht : (pc : Int) + off = (tgt : Int)) : mj_E sl d id pc L (.int x :: st) M = mj_E sl d id tgt L st M := by
  refine mj_Es h ?_
  simp only [mj_stp, mj_lsw, if_pos hp, ho]
  exact mj_go_of ht
theorem sx_gfi {j k a ci s kd : Nat} (h : mj_at id pc = some (.getfield j)) (ho : mj_own id = k) (hf : mj_fT k j = some (ci, s, kd)) (hkd : kd = 0 ∨ kd = 3) (hc : mj_ocl a = ci) : mj_E sl d id pc L (.ref a :: st) M = mj_E sl d id (pc + 3) L (.int (M a s) :: st) M := by
  refine mj_Es h ?_
  simp only [mj_stp, mj_gf, ho, hf, if_pos hc, mj_fv]
  rw [if_neg (by omega), if_neg (by omega), if_neg (by omega), if_neg (by omega)]
  rfl
theorem sx_gf4 {j k s : Nat} (h : mj_at id pc = some (.getfield j)) (ho : mj_own id = k) (hf : mj_fT k j = some (14, s, 4)) : mj_E sl d id pc L (.ref 73 :: st) M = mj_E sl d id (pc + 3) L (.ref 74 :: st) M := by
  refine mj_Es h ?_
  simp only [mj_stp, mj_gf, ho, hf, if_pos (show mj_ocl 73 = 14 from rfl), mj_fv]
  rfl
theorem sx_gf5 {j k s : Nat} (h : mj_at id pc = some (.getfield j)) (ho : mj_own id = k) (hf : mj_fT k j = some (14, s, 5)) : mj_E sl d id pc L (.ref 73 :: st) M = mj_E sl d id (pc + 3) L (.int 0 :: st) M := by
  refine mj_Es h ?_
  simp only [mj_stp, mj_gf, ho, hf, if_pos (show mj_ocl 73 = 14 from rfl), mj_fv]
  rfl
theorem sx_gs {j k : Nat} (h : mj_at id pc = some (.getstatic j)) (ho : mj_own id = k) (hf : mj_sT k j = true) : mj_E sl d id pc L st M = mj_E sl d id (pc + 3) L (.int 1 :: st) M := by
  refine mj_Es h ?_
  simp only [mj_stp, mj_gs, ho, if_pos hf]
  rfl
theorem sx_gfr {j k a ci s b : Nat} (h : mj_at id pc = some (.getfield j)) (ho : mj_own id = k) (hf : mj_fT k j = some (ci, s, 1)) (hc : mj_ocl a = ci) (hb : mj_rf a s = b) : mj_E sl d id pc L (.ref a :: st) M = mj_E sl d id (pc + 3) L (.ref b :: st) M := by
  refine mj_Es h ?_
  subst hb
  simp only [mj_stp, mj_gf, ho, hf, if_pos hc, mj_fv]
  rfl
theorem sx_gfl {j k a ci s : Nat} (h : mj_at id pc = some (.getfield j)) (ho : mj_own id = k) (hf : mj_fT k j = some (ci, s, 2)) (hc : mj_ocl a = ci) : mj_E sl d id pc L (.ref a :: st) M = mj_E sl d id (pc + 3) L (.ref (mj_lw (M a s)) :: st) M := by
  refine mj_Es h ?_
  simp only [mj_stp, mj_gf, ho, hf, if_pos hc, mj_fv]
  rfl
theorem sx_pfi {j k a ci s : Nat} {x : Int32} (h : mj_at id pc = some (.putfield j)) (ho : mj_own id = k) (hf : mj_fT k j = some (ci, s, 0)) (hc : mj_ocl a = ci) : mj_E sl d id pc L (.int x :: .ref a :: st) M = mj_E sl d id (pc + 3) L st (mj_st M a s x) := by
  refine mj_Es h ?_
  show mj_pf (mj_own id) j pc L (.int x :: .ref a :: st) M = _
  unfold mj_pf
  rw [ho, hf]
  show (if mj_ocl a = ci ∧ (0 = 0 ∨ (0 = 3 ∧ x &&& 1 = x)) then _ else _) = _
  rw [if_pos ⟨hc, Or.inl rfl⟩]
  rfl
theorem sx_pfz {j k a ci s : Nat} {x : Int32} (h : mj_at id pc = some (.putfield j)) (ho : mj_own id = k) (hf : mj_fT k j = some (ci, s, 3)) (hc : mj_ocl a = ci) (hx : x &&& 1 = x) : mj_E sl d id pc L (.int x :: .ref a :: st) M = mj_E sl d id (pc + 3) L st (mj_st M a s x) := by
  refine mj_Es h ?_
  show mj_pf (mj_own id) j pc L (.int x :: .ref a :: st) M = _
  unfold mj_pf
  rw [ho, hf]
  show (if mj_ocl a = ci ∧ (3 = 0 ∨ (3 = 3 ∧ x &&& 1 = x)) then _ else _) = _
  rw [if_pos ⟨hc, Or.inr ⟨rfl, hx⟩⟩]
  rfl
theorem sx_pfl {j k a ci s b : Nat} (h : mj_at id pc = some (.putfield j)) (ho : mj_own id = k) (hf : mj_fT k j = some (ci, s, 2)) (hc : mj_ocl a = ci) (hb : b = 29 ∨ b = 38) : mj_E sl d id pc L (.ref b :: .ref a :: st) M = mj_E sl d id (pc + 3) L st (mj_st M a s (if b = 29 then 0 else 1)) := by
  refine mj_Es h ?_
  show mj_pf (mj_own id) j pc L (.ref b :: .ref a :: st) M = _
  unfold mj_pf
  rw [ho, hf]
  show (if mj_ocl a = ci ∧ 2 = 2 ∧ (b = 29 ∨ b = 38) then _ else _) = _
  rw [if_pos ⟨hc, rfl, hb⟩]
  rfl
theorem sx_ild {a n : Nat} {i : Int32} (h : mj_at id pc = some .iaload) (ha : ¬ a = 72) (hn : mj_ial a = n) : mj_E sl d id pc L (.int i :: .ref a :: st) M = if mj_inB i n = true then mj_E sl d id (pc + 1) L (.int (M a i.toNatClampNeg) :: st) M else none := by
  subst hn
  split
  · next hc => exact mj_Es h (by simp only [mj_stp, mj_ild, if_neg ha, if_pos hc]; rfl)
  · next hc => exact mj_En h (by simp only [mj_stp, mj_ild, if_neg ha, if_neg hc])
theorem sx_sld {i : Int32} (h : mj_at id pc = some .iaload) : mj_E sl d id pc L (.int i :: .ref 72 :: st) M = if mj_inB i sl = true then mj_E sl d id (pc + 1) L (.int (M 72 i.toNatClampNeg) :: st) M else none := by
  split
  · next hc => exact mj_Es h (show (if mj_inB i sl = true then _ else _) = _ from if_pos hc)
  · next hc => exact mj_En h (show (if mj_inB i sl = true then _ else _) = _ from if_neg hc)
theorem sx_ist {a n : Nat} {i x : Int32} (h : mj_at id pc = some .iastore) (hn : mj_ial a = n) : mj_E sl d id pc L (.int x :: .int i :: .ref a :: st) M = if mj_inB i n = true then mj_E sl d id (pc + 1) L st (mj_st M a i.toNatClampNeg x) else none := by
  subst hn
  split
  · next hc => exact mj_Es h (by simp only [mj_stp, mj_ist, if_pos hc]; rfl)
  · next hc => exact mj_En h (by simp only [mj_stp, mj_ist, if_neg hc])
theorem sx_bld {a n : Nat} {i : Int32} (h : mj_at id pc = some .baload) (hn : mj_bln a = n) : mj_E sl d id pc L (.int i :: .ref a :: st) M = if mj_inB i n = true then mj_E sl d id (pc + 1) L (.int (M a i.toNatClampNeg) :: st) M else none := by
  subst hn
  split
  · next hc => exact mj_Es h (by simp only [mj_stp, mj_bld, if_pos hc]; rfl)
  · next hc => exact mj_En h (by simp only [mj_stp, mj_bld, if_neg hc])
theorem sx_bst {a n : Nat} {i x : Int32} (h : mj_at id pc = some .bastore) (hn : mj_bal a = n) : mj_E sl d id pc L (.int x :: .int i :: .ref a :: st) M = if mj_inB i n = true then mj_E sl d id (pc + 1) L st (mj_st M a i.toNatClampNeg x.toInt8.toInt32) else none := by
  subst hn
  split
  · next hc => exact mj_Es h (by simp only [mj_stp, mj_bst, if_pos hc]; rfl)
  · next hc => exact mj_En h (by simp only [mj_stp, mj_bst, if_neg hc])
theorem sx_alen {a n : Nat} (h : mj_at id pc = some .arraylength) (ha : ¬ a = 72) (hn : mj_ial a = n) (h0 : ¬ n = 0) : mj_E sl d id pc L (.ref a :: st) M = mj_E sl d id (pc + 1) L (.int (nI n) :: st) M := by
  subst hn
  have h74 : ¬ a = 74 := fun e => h0 (by rw [e]; rfl)
  exact mj_Es h (by simp only [mj_stp, mj_aln, if_neg ha, if_neg h74, if_neg h0]; rfl)
theorem sx_alen74 (h : mj_at id pc = some .arraylength) : mj_E sl d id pc L (.ref 74 :: st) M = mj_E sl d id (pc + 1) L (.int 9 :: st) M := mj_Es h rfl
theorem sx_slen (h : mj_at id pc = some .arraylength) : mj_E sl d id pc L (.ref 72 :: st) M = mj_E sl d id (pc + 1) L (.int (nI sl) :: st) M := mj_Es h rfl
theorem sx_reti {v : Int32} (h : mj_at id pc = some .ireturn) (hr : mj_rt id = 1) : mj_E sl d id pc L [.int v] M = some (v, M) := by
  obtain ⟨me, hm, -, h1, -⟩ := mj_rt_spec hr (by omega)
  refine mj_Er (r := some (.int v)) h ?_
  simp only [mj_stp, mj_rti, hm]
  rw [if_pos (Or.inl (h1 rfl))]
theorem sx_retz {v : Int32} (h : mj_at id pc = some .ireturn) (hr : mj_rt id = 2) (hv : v &&& 1 = v) : mj_E sl d id pc L [.int v] M = some (v, M) := by
  obtain ⟨me, hm, -, -, h1, -⟩ := mj_rt_spec hr (by omega)
  refine mj_Er (r := some (.int v)) h ?_
  simp only [mj_stp, mj_rti, hm]
  rw [if_pos (Or.inr (Or.inl ⟨h1 rfl, hv⟩))]
theorem sx_retg {v : Int32} (h : mj_at id pc = some .ireturn) (hr : mj_rt id = 2) : mj_E sl d id pc L [.int v] M = if v &&& 1 = v then some (v, M) else none := by
  split
  · next hv => exact sx_retz h hr hv
  · next hv =>
    obtain ⟨me, hm, -, -, h1, -⟩ := mj_rt_spec hr (by omega)
    refine mj_En h ?_
    simp only [mj_stp, mj_rti, hm]
    rw [if_neg]
    rintro (h2 | h2 | h2)
    · rw [h1 rfl] at h2; cases h2
    · exact hv h2.2
    · rw [h1 rfl] at h2; cases h2.1
theorem sx_retb {v : Int32} (h : mj_at id pc = some .ireturn) (hr : mj_rt id = 4) (hv : v.toInt8.toInt32 = v) : mj_E sl d id pc L [.int v] M = some (v, M) := by
  obtain ⟨me, hm, -, -, -, -, h1⟩ := mj_rt_spec hr (by omega)
  refine mj_Er (r := some (.int v)) h ?_
  simp only [mj_stp, mj_rti, hm]
  rw [if_pos (Or.inr (Or.inr ⟨h1 rfl, hv⟩))]
theorem sx_retv (h : mj_at id pc = some .return_) (hr : mj_rt id = 0) : mj_E sl d id pc L [] M = some (0, M) := by
  obtain ⟨me, hm, h1, -⟩ := mj_rt_spec hr (by omega)
  refine mj_Er (r := none) h ?_
  simp only [mj_stp, mj_rtv, hm]
  rw [if_pos (h1 rfl)]
theorem mj_k0 {j k y : Nat} (ho : mj_own id = k) (hc : mj_cT k j = some (0, y)) : mj_stp sl d id (.invokevirtual j) pc L st M = mj_vcl y st := by
  show mj_ivv (mj_own id) j st = _
  unfold mj_ivv
  rw [ho, hc]
  rfl
theorem mj_k1 {j k y : Nat} (ho : mj_own id = k) (hc : mj_cT k j = some (1, y)) : mj_stp sl d id (.invokestatic j) pc L st M = mj_scl y st := by
  show mj_ivs d (mj_own id) j pc L st M = _
  unfold mj_ivs
  rw [ho, hc]
  rfl
theorem mj_k2 {j k y : Nat} (ho : mj_own id = k) (hc : mj_cT k j = some (2, y)) : mj_stp sl d id (.invokestatic j) pc L st M = mj_scl y st := by
  show mj_ivs d (mj_own id) j pc L st M = _
  unfold mj_ivs
  rw [ho, hc]
  rfl
theorem mj_k3 {j k y : Nat} (ho : mj_own id = k) (hc : mj_cT k j = some (3, y)) : mj_stp sl d id (.invokestatic j) pc L st M = mj_acp d pc L st M := by
  show mj_ivs d (mj_own id) j pc L st M = _
  unfold mj_ivs
  rw [ho, hc]
  rfl
theorem mj_ksn {j k : Nat} (ho : mj_own id = k) (hc : mj_cT k j = none) : mj_stp sl d id (.invokestatic j) pc L st M = none := by
  show mj_ivs d (mj_own id) j pc L st M = _
  unfold mj_ivs
  rw [ho, hc]
theorem sx_acp {j k a b : Nat} {n dp sp : Int32} {na nb : Nat} (h : mj_at id pc = some (.invokestatic j)) (ho : mj_own id = k) (hc : mj_cT k j = some (3, 0)) (ha : mj_ial a = na) (hb : mj_ial b = nb) (ha0 : na ≠ 0) (hb0 : nb ≠ 0) (hr : st.length ≤ 8) : mj_E sl (d + 1) id pc L (.int n :: .int dp :: .ref b :: .int sp :: .ref a :: st) M = if ¬ sp < 0 ∧ ¬ dp < 0 ∧ ¬ n < 0 ∧ sp.toNatClampNeg + n.toNatClampNeg ≤ na ∧ dp.toNatClampNeg + n.toNatClampNeg ≤ nb then mj_E sl (d + 1) id (pc + 3) L st (mj_cp M a b sp.toNatClampNeg dp.toNatClampNeg n.toNatClampNeg) else none := by
  subst ha; subst hb
  split
  · next hq =>
    refine mj_Es h ?_
    rw [mj_k3 ho hc]
    unfold mj_acp
    dsimp only
    rw [if_pos ⟨Nat.le_add_left 1 d, hr, hq.1, hq.2.1, hq.2.2.1, ha0, hb0, hq.2.2.2.1, hq.2.2.2.2⟩]
    rfl
  · next hq =>
    refine mj_En h ?_
    rw [mj_k3 ho hc]
    unfold mj_acp
    dsimp only
    rw [if_neg]
    rintro ⟨-, -, z1, z2, z3, -, -, z4, z5⟩
    exact hq ⟨z1, z2, z3, z4, z5⟩
theorem sx_v0i {j k y b ci : Nat}  {rest : List Value} (h : mj_at id pc = some (.invokevirtual j)) (ho : mj_own id = k) (hc : mj_cs k j = some (0, y, 0, ci, 1)) (hb : mj_ocl b = ci) (hr : rest.length ≤ 8) : mj_E sl (d + 1) id pc L (.ref b :: rest) M = (mj_C sl d y [.ref b] M).bind (fun q => mj_E sl (d + 1) id (pc + 3) L (.int q.1 :: rest) q.2) := by
  obtain ⟨h1, ⟨me, h2, h3, h4⟩, h5⟩ := mj_cs_spec hc
  refine mj_Eci h h5 ?_
  rw [mj_k0 ho h1]
  unfold mj_vcl
  rw [h2]
  dsimp only
  rw [h3]
  show (if mj_ocl b = me.2.2.2.2.2.2.1 ∧ rest.length ≤ 8 then _ else _) = _
  rw [if_pos ⟨by rw [h4]; exact hb, hr⟩]
  rfl
theorem sx_s0i {j k y : Nat}  {rest : List Value} (h : mj_at id pc = some (.invokestatic j)) (ho : mj_own id = k) (hc : mj_cs k j = some (1, y, 0, 100, 1)) (hr : rest.length ≤ 8) : mj_E sl (d + 1) id pc L (rest) M = (mj_C sl d y [] M).bind (fun q => mj_E sl (d + 1) id (pc + 3) L (.int q.1 :: rest) q.2) := by
  obtain ⟨h1, ⟨me, h2, h3, h4⟩, h5⟩ := mj_cs_spec hc
  refine mj_Eci h h5 ?_
  rw [mj_k1 ho h1]
  unfold mj_scl
  rw [h2]
  dsimp only
  rw [h3, h4]
  rw [if_pos ⟨by simp, hr, rfl⟩]
  rfl
theorem sx_s0in {j k y : Nat}  {rest : List Value} (h : mj_at id pc = some (.invokestatic j)) (ho : mj_own id = k) (hc : mj_cs k j = some (2, y, 0, 100, 1)) (hr : rest.length ≤ 8) : mj_E sl (d + 1) id pc L (rest) M = (mj_C sl d y [] M).bind (fun q => mj_E sl (d + 1) id (pc + 3) L (.int q.1 :: rest) q.2) := by
  obtain ⟨h1, ⟨me, h2, h3, h4⟩, h5⟩ := mj_cs_spec hc
  refine mj_Eci h h5 ?_
  rw [mj_k2 ho h1]
  unfold mj_scl
  rw [h2]
  dsimp only
  rw [h3, h4]
  rw [if_pos ⟨by simp, hr, rfl⟩]
  rfl
theorem sx_v0v {j k y b ci : Nat}  {rest : List Value} (h : mj_at id pc = some (.invokevirtual j)) (ho : mj_own id = k) (hc : mj_cs k j = some (0, y, 0, ci, 0)) (hb : mj_ocl b = ci) (hr : rest.length ≤ 8) : mj_E sl (d + 1) id pc L (.ref b :: rest) M = (mj_C sl d y [.ref b] M).bind (fun q => mj_E sl (d + 1) id (pc + 3) L rest q.2) := by
  obtain ⟨h1, ⟨me, h2, h3, h4⟩, h5⟩ := mj_cs_spec hc
  refine mj_Ecv h h5 ?_
  rw [mj_k0 ho h1]
  unfold mj_vcl
  rw [h2]
  dsimp only
  rw [h3]
  show (if mj_ocl b = me.2.2.2.2.2.2.1 ∧ rest.length ≤ 8 then _ else _) = _
  rw [if_pos ⟨by rw [h4]; exact hb, hr⟩]
  rfl
theorem sx_s0v {j k y : Nat}  {rest : List Value} (h : mj_at id pc = some (.invokestatic j)) (ho : mj_own id = k) (hc : mj_cs k j = some (1, y, 0, 100, 0)) (hr : rest.length ≤ 8) : mj_E sl (d + 1) id pc L (rest) M = (mj_C sl d y [] M).bind (fun q => mj_E sl (d + 1) id (pc + 3) L rest q.2) := by
  obtain ⟨h1, ⟨me, h2, h3, h4⟩, h5⟩ := mj_cs_spec hc
  refine mj_Ecv h h5 ?_
  rw [mj_k1 ho h1]
  unfold mj_scl
  rw [h2]
  dsimp only
  rw [h3, h4]
  rw [if_pos ⟨by simp, hr, rfl⟩]
  rfl
theorem sx_s0vn {j k y : Nat}  {rest : List Value} (h : mj_at id pc = some (.invokestatic j)) (ho : mj_own id = k) (hc : mj_cs k j = some (2, y, 0, 100, 0)) (hr : rest.length ≤ 8) : mj_E sl (d + 1) id pc L (rest) M = (mj_C sl d y [] M).bind (fun q => mj_E sl (d + 1) id (pc + 3) L rest q.2) := by
  obtain ⟨h1, ⟨me, h2, h3, h4⟩, h5⟩ := mj_cs_spec hc
  refine mj_Ecv h h5 ?_
  rw [mj_k2 ho h1]
  unfold mj_scl
  rw [h2]
  dsimp only
  rw [h3, h4]
  rw [if_pos ⟨by simp, hr, rfl⟩]
  rfl
theorem sx_v1i {j k y b ci : Nat} {a1 : Value} {rest : List Value} (h : mj_at id pc = some (.invokevirtual j)) (ho : mj_own id = k) (hc : mj_cs k j = some (0, y, 1, ci, 1)) (hb : mj_ocl b = ci) (hr : rest.length ≤ 8) : mj_E sl (d + 1) id pc L (a1 :: .ref b :: rest) M = (mj_C sl d y [.ref b, a1] M).bind (fun q => mj_E sl (d + 1) id (pc + 3) L (.int q.1 :: rest) q.2) := by
  obtain ⟨h1, ⟨me, h2, h3, h4⟩, h5⟩ := mj_cs_spec hc
  refine mj_Eci h h5 ?_
  rw [mj_k0 ho h1]
  unfold mj_vcl
  rw [h2]
  dsimp only
  rw [h3]
  show (if mj_ocl b = me.2.2.2.2.2.2.1 ∧ rest.length ≤ 8 then _ else _) = _
  rw [if_pos ⟨by rw [h4]; exact hb, hr⟩]
  rfl
theorem sx_s1i {j k y : Nat} {a1 : Value} {rest : List Value} (h : mj_at id pc = some (.invokestatic j)) (ho : mj_own id = k) (hc : mj_cs k j = some (1, y, 1, 100, 1)) (hr : rest.length ≤ 8) : mj_E sl (d + 1) id pc L (a1 :: rest) M = (mj_C sl d y [a1] M).bind (fun q => mj_E sl (d + 1) id (pc + 3) L (.int q.1 :: rest) q.2) := by
  obtain ⟨h1, ⟨me, h2, h3, h4⟩, h5⟩ := mj_cs_spec hc
  refine mj_Eci h h5 ?_
  rw [mj_k1 ho h1]
  unfold mj_scl
  rw [h2]
  dsimp only
  rw [h3, h4]
  rw [if_pos ⟨by simp, hr, rfl⟩]
  rfl
theorem sx_s1in {j k y : Nat} {a1 : Value} {rest : List Value} (h : mj_at id pc = some (.invokestatic j)) (ho : mj_own id = k) (hc : mj_cs k j = some (2, y, 1, 100, 1)) (hr : rest.length ≤ 8) : mj_E sl (d + 1) id pc L (a1 :: rest) M = (mj_C sl d y [a1] M).bind (fun q => mj_E sl (d + 1) id (pc + 3) L (.int q.1 :: rest) q.2) := by
  obtain ⟨h1, ⟨me, h2, h3, h4⟩, h5⟩ := mj_cs_spec hc
  refine mj_Eci h h5 ?_
  rw [mj_k2 ho h1]
  unfold mj_scl
  rw [h2]
  dsimp only
  rw [h3, h4]
  rw [if_pos ⟨by simp, hr, rfl⟩]
  rfl
theorem sx_v1v {j k y b ci : Nat} {a1 : Value} {rest : List Value} (h : mj_at id pc = some (.invokevirtual j)) (ho : mj_own id = k) (hc : mj_cs k j = some (0, y, 1, ci, 0)) (hb : mj_ocl b = ci) (hr : rest.length ≤ 8) : mj_E sl (d + 1) id pc L (a1 :: .ref b :: rest) M = (mj_C sl d y [.ref b, a1] M).bind (fun q => mj_E sl (d + 1) id (pc + 3) L rest q.2) := by
  obtain ⟨h1, ⟨me, h2, h3, h4⟩, h5⟩ := mj_cs_spec hc
  refine mj_Ecv h h5 ?_
  rw [mj_k0 ho h1]
  unfold mj_vcl
  rw [h2]
  dsimp only
  rw [h3]
  show (if mj_ocl b = me.2.2.2.2.2.2.1 ∧ rest.length ≤ 8 then _ else _) = _
  rw [if_pos ⟨by rw [h4]; exact hb, hr⟩]
  rfl
theorem sx_s1v {j k y : Nat} {a1 : Value} {rest : List Value} (h : mj_at id pc = some (.invokestatic j)) (ho : mj_own id = k) (hc : mj_cs k j = some (1, y, 1, 100, 0)) (hr : rest.length ≤ 8) : mj_E sl (d + 1) id pc L (a1 :: rest) M = (mj_C sl d y [a1] M).bind (fun q => mj_E sl (d + 1) id (pc + 3) L rest q.2) := by
  obtain ⟨h1, ⟨me, h2, h3, h4⟩, h5⟩ := mj_cs_spec hc
  refine mj_Ecv h h5 ?_
  rw [mj_k1 ho h1]
  unfold mj_scl
  rw [h2]
  dsimp only
  rw [h3, h4]
  rw [if_pos ⟨by simp, hr, rfl⟩]
  rfl
theorem sx_s1vn {j k y : Nat} {a1 : Value} {rest : List Value} (h : mj_at id pc = some (.invokestatic j)) (ho : mj_own id = k) (hc : mj_cs k j = some (2, y, 1, 100, 0)) (hr : rest.length ≤ 8) : mj_E sl (d + 1) id pc L (a1 :: rest) M = (mj_C sl d y [a1] M).bind (fun q => mj_E sl (d + 1) id (pc + 3) L rest q.2) := by
  obtain ⟨h1, ⟨me, h2, h3, h4⟩, h5⟩ := mj_cs_spec hc
  refine mj_Ecv h h5 ?_
  rw [mj_k2 ho h1]
  unfold mj_scl
  rw [h2]
  dsimp only
  rw [h3, h4]
  rw [if_pos ⟨by simp, hr, rfl⟩]
  rfl
theorem sx_v2i {j k y b ci : Nat} {a1 a2 : Value} {rest : List Value} (h : mj_at id pc = some (.invokevirtual j)) (ho : mj_own id = k) (hc : mj_cs k j = some (0, y, 2, ci, 1)) (hb : mj_ocl b = ci) (hr : rest.length ≤ 8) : mj_E sl (d + 1) id pc L (a2 :: a1 :: .ref b :: rest) M = (mj_C sl d y [.ref b, a1, a2] M).bind (fun q => mj_E sl (d + 1) id (pc + 3) L (.int q.1 :: rest) q.2) := by
  obtain ⟨h1, ⟨me, h2, h3, h4⟩, h5⟩ := mj_cs_spec hc
  refine mj_Eci h h5 ?_
  rw [mj_k0 ho h1]
  unfold mj_vcl
  rw [h2]
  dsimp only
  rw [h3]
  show (if mj_ocl b = me.2.2.2.2.2.2.1 ∧ rest.length ≤ 8 then _ else _) = _
  rw [if_pos ⟨by rw [h4]; exact hb, hr⟩]
  rfl
theorem sx_s2i {j k y : Nat} {a1 a2 : Value} {rest : List Value} (h : mj_at id pc = some (.invokestatic j)) (ho : mj_own id = k) (hc : mj_cs k j = some (1, y, 2, 100, 1)) (hr : rest.length ≤ 8) : mj_E sl (d + 1) id pc L (a2 :: a1 :: rest) M = (mj_C sl d y [a1, a2] M).bind (fun q => mj_E sl (d + 1) id (pc + 3) L (.int q.1 :: rest) q.2) := by
  obtain ⟨h1, ⟨me, h2, h3, h4⟩, h5⟩ := mj_cs_spec hc
  refine mj_Eci h h5 ?_
  rw [mj_k1 ho h1]
  unfold mj_scl
  rw [h2]
  dsimp only
  rw [h3, h4]
  rw [if_pos ⟨by simp, hr, rfl⟩]
  rfl
theorem sx_s2in {j k y : Nat} {a1 a2 : Value} {rest : List Value} (h : mj_at id pc = some (.invokestatic j)) (ho : mj_own id = k) (hc : mj_cs k j = some (2, y, 2, 100, 1)) (hr : rest.length ≤ 8) : mj_E sl (d + 1) id pc L (a2 :: a1 :: rest) M = (mj_C sl d y [a1, a2] M).bind (fun q => mj_E sl (d + 1) id (pc + 3) L (.int q.1 :: rest) q.2) := by
  obtain ⟨h1, ⟨me, h2, h3, h4⟩, h5⟩ := mj_cs_spec hc
  refine mj_Eci h h5 ?_
  rw [mj_k2 ho h1]
  unfold mj_scl
  rw [h2]
  dsimp only
  rw [h3, h4]
  rw [if_pos ⟨by simp, hr, rfl⟩]
  rfl
theorem sx_v2v {j k y b ci : Nat} {a1 a2 : Value} {rest : List Value} (h : mj_at id pc = some (.invokevirtual j)) (ho : mj_own id = k) (hc : mj_cs k j = some (0, y, 2, ci, 0)) (hb : mj_ocl b = ci) (hr : rest.length ≤ 8) : mj_E sl (d + 1) id pc L (a2 :: a1 :: .ref b :: rest) M = (mj_C sl d y [.ref b, a1, a2] M).bind (fun q => mj_E sl (d + 1) id (pc + 3) L rest q.2) := by
  obtain ⟨h1, ⟨me, h2, h3, h4⟩, h5⟩ := mj_cs_spec hc
  refine mj_Ecv h h5 ?_
  rw [mj_k0 ho h1]
  unfold mj_vcl
  rw [h2]
  dsimp only
  rw [h3]
  show (if mj_ocl b = me.2.2.2.2.2.2.1 ∧ rest.length ≤ 8 then _ else _) = _
  rw [if_pos ⟨by rw [h4]; exact hb, hr⟩]
  rfl
theorem sx_s2v {j k y : Nat} {a1 a2 : Value} {rest : List Value} (h : mj_at id pc = some (.invokestatic j)) (ho : mj_own id = k) (hc : mj_cs k j = some (1, y, 2, 100, 0)) (hr : rest.length ≤ 8) : mj_E sl (d + 1) id pc L (a2 :: a1 :: rest) M = (mj_C sl d y [a1, a2] M).bind (fun q => mj_E sl (d + 1) id (pc + 3) L rest q.2) := by
  obtain ⟨h1, ⟨me, h2, h3, h4⟩, h5⟩ := mj_cs_spec hc
  refine mj_Ecv h h5 ?_
  rw [mj_k1 ho h1]
  unfold mj_scl
  rw [h2]
  dsimp only
  rw [h3, h4]
  rw [if_pos ⟨by simp, hr, rfl⟩]
  rfl
theorem sx_s2vn {j k y : Nat} {a1 a2 : Value} {rest : List Value} (h : mj_at id pc = some (.invokestatic j)) (ho : mj_own id = k) (hc : mj_cs k j = some (2, y, 2, 100, 0)) (hr : rest.length ≤ 8) : mj_E sl (d + 1) id pc L (a2 :: a1 :: rest) M = (mj_C sl d y [a1, a2] M).bind (fun q => mj_E sl (d + 1) id (pc + 3) L rest q.2) := by
  obtain ⟨h1, ⟨me, h2, h3, h4⟩, h5⟩ := mj_cs_spec hc
  refine mj_Ecv h h5 ?_
  rw [mj_k2 ho h1]
  unfold mj_scl
  rw [h2]
  dsimp only
  rw [h3, h4]
  rw [if_pos ⟨by simp, hr, rfl⟩]
  rfl
theorem sx_v3i {j k y b ci : Nat} {a1 a2 a3 : Value} {rest : List Value} (h : mj_at id pc = some (.invokevirtual j)) (ho : mj_own id = k) (hc : mj_cs k j = some (0, y, 3, ci, 1)) (hb : mj_ocl b = ci) (hr : rest.length ≤ 8) : mj_E sl (d + 1) id pc L (a3 :: a2 :: a1 :: .ref b :: rest) M = (mj_C sl d y [.ref b, a1, a2, a3] M).bind (fun q => mj_E sl (d + 1) id (pc + 3) L (.int q.1 :: rest) q.2) := by
  obtain ⟨h1, ⟨me, h2, h3, h4⟩, h5⟩ := mj_cs_spec hc
  refine mj_Eci h h5 ?_
  rw [mj_k0 ho h1]
  unfold mj_vcl
  rw [h2]
  dsimp only
  rw [h3]
  show (if mj_ocl b = me.2.2.2.2.2.2.1 ∧ rest.length ≤ 8 then _ else _) = _
  rw [if_pos ⟨by rw [h4]; exact hb, hr⟩]
  rfl
theorem sx_s3i {j k y : Nat} {a1 a2 a3 : Value} {rest : List Value} (h : mj_at id pc = some (.invokestatic j)) (ho : mj_own id = k) (hc : mj_cs k j = some (1, y, 3, 100, 1)) (hr : rest.length ≤ 8) : mj_E sl (d + 1) id pc L (a3 :: a2 :: a1 :: rest) M = (mj_C sl d y [a1, a2, a3] M).bind (fun q => mj_E sl (d + 1) id (pc + 3) L (.int q.1 :: rest) q.2) := by
  obtain ⟨h1, ⟨me, h2, h3, h4⟩, h5⟩ := mj_cs_spec hc
  refine mj_Eci h h5 ?_
  rw [mj_k1 ho h1]
  unfold mj_scl
  rw [h2]
  dsimp only
  rw [h3, h4]
  rw [if_pos ⟨by simp, hr, rfl⟩]
  rfl
theorem sx_s3in {j k y : Nat} {a1 a2 a3 : Value} {rest : List Value} (h : mj_at id pc = some (.invokestatic j)) (ho : mj_own id = k) (hc : mj_cs k j = some (2, y, 3, 100, 1)) (hr : rest.length ≤ 8) : mj_E sl (d + 1) id pc L (a3 :: a2 :: a1 :: rest) M = (mj_C sl d y [a1, a2, a3] M).bind (fun q => mj_E sl (d + 1) id (pc + 3) L (.int q.1 :: rest) q.2) := by
  obtain ⟨h1, ⟨me, h2, h3, h4⟩, h5⟩ := mj_cs_spec hc
  refine mj_Eci h h5 ?_
  rw [mj_k2 ho h1]
  unfold mj_scl
  rw [h2]
  dsimp only
  rw [h3, h4]
  rw [if_pos ⟨by simp, hr, rfl⟩]
  rfl
theorem sx_v3v {j k y b ci : Nat} {a1 a2 a3 : Value} {rest : List Value} (h : mj_at id pc = some (.invokevirtual j)) (ho : mj_own id = k) (hc : mj_cs k j = some (0, y, 3, ci, 0)) (hb : mj_ocl b = ci) (hr : rest.length ≤ 8) : mj_E sl (d + 1) id pc L (a3 :: a2 :: a1 :: .ref b :: rest) M = (mj_C sl d y [.ref b, a1, a2, a3] M).bind (fun q => mj_E sl (d + 1) id (pc + 3) L rest q.2) := by
  obtain ⟨h1, ⟨me, h2, h3, h4⟩, h5⟩ := mj_cs_spec hc
  refine mj_Ecv h h5 ?_
  rw [mj_k0 ho h1]
  unfold mj_vcl
  rw [h2]
  dsimp only
  rw [h3]
  show (if mj_ocl b = me.2.2.2.2.2.2.1 ∧ rest.length ≤ 8 then _ else _) = _
  rw [if_pos ⟨by rw [h4]; exact hb, hr⟩]
  rfl
theorem sx_s3v {j k y : Nat} {a1 a2 a3 : Value} {rest : List Value} (h : mj_at id pc = some (.invokestatic j)) (ho : mj_own id = k) (hc : mj_cs k j = some (1, y, 3, 100, 0)) (hr : rest.length ≤ 8) : mj_E sl (d + 1) id pc L (a3 :: a2 :: a1 :: rest) M = (mj_C sl d y [a1, a2, a3] M).bind (fun q => mj_E sl (d + 1) id (pc + 3) L rest q.2) := by
  obtain ⟨h1, ⟨me, h2, h3, h4⟩, h5⟩ := mj_cs_spec hc
  refine mj_Ecv h h5 ?_
  rw [mj_k1 ho h1]
  unfold mj_scl
  rw [h2]
  dsimp only
  rw [h3, h4]
  rw [if_pos ⟨by simp, hr, rfl⟩]
  rfl
theorem sx_s3vn {j k y : Nat} {a1 a2 a3 : Value} {rest : List Value} (h : mj_at id pc = some (.invokestatic j)) (ho : mj_own id = k) (hc : mj_cs k j = some (2, y, 3, 100, 0)) (hr : rest.length ≤ 8) : mj_E sl (d + 1) id pc L (a3 :: a2 :: a1 :: rest) M = (mj_C sl d y [a1, a2, a3] M).bind (fun q => mj_E sl (d + 1) id (pc + 3) L rest q.2) := by
  obtain ⟨h1, ⟨me, h2, h3, h4⟩, h5⟩ := mj_cs_spec hc
  refine mj_Ecv h h5 ?_
  rw [mj_k2 ho h1]
  unfold mj_scl
  rw [h2]
  dsimp only
  rw [h3, h4]
  rw [if_pos ⟨by simp, hr, rfl⟩]
  rfl
theorem sx_v4i {j k y b ci : Nat} {a1 a2 a3 a4 : Value} {rest : List Value} (h : mj_at id pc = some (.invokevirtual j)) (ho : mj_own id = k) (hc : mj_cs k j = some (0, y, 4, ci, 1)) (hb : mj_ocl b = ci) (hr : rest.length ≤ 8) : mj_E sl (d + 1) id pc L (a4 :: a3 :: a2 :: a1 :: .ref b :: rest) M = (mj_C sl d y [.ref b, a1, a2, a3, a4] M).bind (fun q => mj_E sl (d + 1) id (pc + 3) L (.int q.1 :: rest) q.2) := by
  obtain ⟨h1, ⟨me, h2, h3, h4⟩, h5⟩ := mj_cs_spec hc
  refine mj_Eci h h5 ?_
  rw [mj_k0 ho h1]
  unfold mj_vcl
  rw [h2]
  dsimp only
  rw [h3]
  show (if mj_ocl b = me.2.2.2.2.2.2.1 ∧ rest.length ≤ 8 then _ else _) = _
  rw [if_pos ⟨by rw [h4]; exact hb, hr⟩]
  rfl
theorem sx_s4i {j k y : Nat} {a1 a2 a3 a4 : Value} {rest : List Value} (h : mj_at id pc = some (.invokestatic j)) (ho : mj_own id = k) (hc : mj_cs k j = some (1, y, 4, 100, 1)) (hr : rest.length ≤ 8) : mj_E sl (d + 1) id pc L (a4 :: a3 :: a2 :: a1 :: rest) M = (mj_C sl d y [a1, a2, a3, a4] M).bind (fun q => mj_E sl (d + 1) id (pc + 3) L (.int q.1 :: rest) q.2) := by
  obtain ⟨h1, ⟨me, h2, h3, h4⟩, h5⟩ := mj_cs_spec hc
  refine mj_Eci h h5 ?_
  rw [mj_k1 ho h1]
  unfold mj_scl
  rw [h2]
  dsimp only
  rw [h3, h4]
  rw [if_pos ⟨by simp, hr, rfl⟩]
  rfl
theorem sx_s4in {j k y : Nat} {a1 a2 a3 a4 : Value} {rest : List Value} (h : mj_at id pc = some (.invokestatic j)) (ho : mj_own id = k) (hc : mj_cs k j = some (2, y, 4, 100, 1)) (hr : rest.length ≤ 8) : mj_E sl (d + 1) id pc L (a4 :: a3 :: a2 :: a1 :: rest) M = (mj_C sl d y [a1, a2, a3, a4] M).bind (fun q => mj_E sl (d + 1) id (pc + 3) L (.int q.1 :: rest) q.2) := by
  obtain ⟨h1, ⟨me, h2, h3, h4⟩, h5⟩ := mj_cs_spec hc
  refine mj_Eci h h5 ?_
  rw [mj_k2 ho h1]
  unfold mj_scl
  rw [h2]
  dsimp only
  rw [h3, h4]
  rw [if_pos ⟨by simp, hr, rfl⟩]
  rfl
theorem sx_v4v {j k y b ci : Nat} {a1 a2 a3 a4 : Value} {rest : List Value} (h : mj_at id pc = some (.invokevirtual j)) (ho : mj_own id = k) (hc : mj_cs k j = some (0, y, 4, ci, 0)) (hb : mj_ocl b = ci) (hr : rest.length ≤ 8) : mj_E sl (d + 1) id pc L (a4 :: a3 :: a2 :: a1 :: .ref b :: rest) M = (mj_C sl d y [.ref b, a1, a2, a3, a4] M).bind (fun q => mj_E sl (d + 1) id (pc + 3) L rest q.2) := by
  obtain ⟨h1, ⟨me, h2, h3, h4⟩, h5⟩ := mj_cs_spec hc
  refine mj_Ecv h h5 ?_
  rw [mj_k0 ho h1]
  unfold mj_vcl
  rw [h2]
  dsimp only
  rw [h3]
  show (if mj_ocl b = me.2.2.2.2.2.2.1 ∧ rest.length ≤ 8 then _ else _) = _
  rw [if_pos ⟨by rw [h4]; exact hb, hr⟩]
  rfl
theorem sx_s4v {j k y : Nat} {a1 a2 a3 a4 : Value} {rest : List Value} (h : mj_at id pc = some (.invokestatic j)) (ho : mj_own id = k) (hc : mj_cs k j = some (1, y, 4, 100, 0)) (hr : rest.length ≤ 8) : mj_E sl (d + 1) id pc L (a4 :: a3 :: a2 :: a1 :: rest) M = (mj_C sl d y [a1, a2, a3, a4] M).bind (fun q => mj_E sl (d + 1) id (pc + 3) L rest q.2) := by
  obtain ⟨h1, ⟨me, h2, h3, h4⟩, h5⟩ := mj_cs_spec hc
  refine mj_Ecv h h5 ?_
  rw [mj_k1 ho h1]
  unfold mj_scl
  rw [h2]
  dsimp only
  rw [h3, h4]
  rw [if_pos ⟨by simp, hr, rfl⟩]
  rfl
theorem sx_s4vn {j k y : Nat} {a1 a2 a3 a4 : Value} {rest : List Value} (h : mj_at id pc = some (.invokestatic j)) (ho : mj_own id = k) (hc : mj_cs k j = some (2, y, 4, 100, 0)) (hr : rest.length ≤ 8) : mj_E sl (d + 1) id pc L (a4 :: a3 :: a2 :: a1 :: rest) M = (mj_C sl d y [a1, a2, a3, a4] M).bind (fun q => mj_E sl (d + 1) id (pc + 3) L rest q.2) := by
  obtain ⟨h1, ⟨me, h2, h3, h4⟩, h5⟩ := mj_cs_spec hc
  refine mj_Ecv h h5 ?_
  rw [mj_k2 ho h1]
  unfold mj_scl
  rw [h2]
  dsimp only
  rw [h3, h4]
  rw [if_pos ⟨by simp, hr, rfl⟩]
  rfl
theorem sx_v5i {j k y b ci : Nat} {a1 a2 a3 a4 a5 : Value} {rest : List Value} (h : mj_at id pc = some (.invokevirtual j)) (ho : mj_own id = k) (hc : mj_cs k j = some (0, y, 5, ci, 1)) (hb : mj_ocl b = ci) (hr : rest.length ≤ 8) : mj_E sl (d + 1) id pc L (a5 :: a4 :: a3 :: a2 :: a1 :: .ref b :: rest) M = (mj_C sl d y [.ref b, a1, a2, a3, a4, a5] M).bind (fun q => mj_E sl (d + 1) id (pc + 3) L (.int q.1 :: rest) q.2) := by
  obtain ⟨h1, ⟨me, h2, h3, h4⟩, h5⟩ := mj_cs_spec hc
  refine mj_Eci h h5 ?_
  rw [mj_k0 ho h1]
  unfold mj_vcl
  rw [h2]
  dsimp only
  rw [h3]
  show (if mj_ocl b = me.2.2.2.2.2.2.1 ∧ rest.length ≤ 8 then _ else _) = _
  rw [if_pos ⟨by rw [h4]; exact hb, hr⟩]
  rfl
theorem sx_s5i {j k y : Nat} {a1 a2 a3 a4 a5 : Value} {rest : List Value} (h : mj_at id pc = some (.invokestatic j)) (ho : mj_own id = k) (hc : mj_cs k j = some (1, y, 5, 100, 1)) (hr : rest.length ≤ 8) : mj_E sl (d + 1) id pc L (a5 :: a4 :: a3 :: a2 :: a1 :: rest) M = (mj_C sl d y [a1, a2, a3, a4, a5] M).bind (fun q => mj_E sl (d + 1) id (pc + 3) L (.int q.1 :: rest) q.2) := by
  obtain ⟨h1, ⟨me, h2, h3, h4⟩, h5⟩ := mj_cs_spec hc
  refine mj_Eci h h5 ?_
  rw [mj_k1 ho h1]
  unfold mj_scl
  rw [h2]
  dsimp only
  rw [h3, h4]
  rw [if_pos ⟨by simp, hr, rfl⟩]
  rfl
theorem sx_s5in {j k y : Nat} {a1 a2 a3 a4 a5 : Value} {rest : List Value} (h : mj_at id pc = some (.invokestatic j)) (ho : mj_own id = k) (hc : mj_cs k j = some (2, y, 5, 100, 1)) (hr : rest.length ≤ 8) : mj_E sl (d + 1) id pc L (a5 :: a4 :: a3 :: a2 :: a1 :: rest) M = (mj_C sl d y [a1, a2, a3, a4, a5] M).bind (fun q => mj_E sl (d + 1) id (pc + 3) L (.int q.1 :: rest) q.2) := by
  obtain ⟨h1, ⟨me, h2, h3, h4⟩, h5⟩ := mj_cs_spec hc
  refine mj_Eci h h5 ?_
  rw [mj_k2 ho h1]
  unfold mj_scl
  rw [h2]
  dsimp only
  rw [h3, h4]
  rw [if_pos ⟨by simp, hr, rfl⟩]
  rfl
theorem sx_v5v {j k y b ci : Nat} {a1 a2 a3 a4 a5 : Value} {rest : List Value} (h : mj_at id pc = some (.invokevirtual j)) (ho : mj_own id = k) (hc : mj_cs k j = some (0, y, 5, ci, 0)) (hb : mj_ocl b = ci) (hr : rest.length ≤ 8) : mj_E sl (d + 1) id pc L (a5 :: a4 :: a3 :: a2 :: a1 :: .ref b :: rest) M = (mj_C sl d y [.ref b, a1, a2, a3, a4, a5] M).bind (fun q => mj_E sl (d + 1) id (pc + 3) L rest q.2) := by
  obtain ⟨h1, ⟨me, h2, h3, h4⟩, h5⟩ := mj_cs_spec hc
  refine mj_Ecv h h5 ?_
  rw [mj_k0 ho h1]
  unfold mj_vcl
  rw [h2]
  dsimp only
  rw [h3]
  show (if mj_ocl b = me.2.2.2.2.2.2.1 ∧ rest.length ≤ 8 then _ else _) = _
  rw [if_pos ⟨by rw [h4]; exact hb, hr⟩]
  rfl
theorem sx_s5v {j k y : Nat} {a1 a2 a3 a4 a5 : Value} {rest : List Value} (h : mj_at id pc = some (.invokestatic j)) (ho : mj_own id = k) (hc : mj_cs k j = some (1, y, 5, 100, 0)) (hr : rest.length ≤ 8) : mj_E sl (d + 1) id pc L (a5 :: a4 :: a3 :: a2 :: a1 :: rest) M = (mj_C sl d y [a1, a2, a3, a4, a5] M).bind (fun q => mj_E sl (d + 1) id (pc + 3) L rest q.2) := by
  obtain ⟨h1, ⟨me, h2, h3, h4⟩, h5⟩ := mj_cs_spec hc
  refine mj_Ecv h h5 ?_
  rw [mj_k1 ho h1]
  unfold mj_scl
  rw [h2]
  dsimp only
  rw [h3, h4]
  rw [if_pos ⟨by simp, hr, rfl⟩]
  rfl
theorem sx_s5vn {j k y : Nat} {a1 a2 a3 a4 a5 : Value} {rest : List Value} (h : mj_at id pc = some (.invokestatic j)) (ho : mj_own id = k) (hc : mj_cs k j = some (2, y, 5, 100, 0)) (hr : rest.length ≤ 8) : mj_E sl (d + 1) id pc L (a5 :: a4 :: a3 :: a2 :: a1 :: rest) M = (mj_C sl d y [a1, a2, a3, a4, a5] M).bind (fun q => mj_E sl (d + 1) id (pc + 3) L rest q.2) := by
  obtain ⟨h1, ⟨me, h2, h3, h4⟩, h5⟩ := mj_cs_spec hc
  refine mj_Ecv h h5 ?_
  rw [mj_k2 ho h1]
  unfold mj_scl
  rw [h2]
  dsimp only
  rw [h3, h4]
  rw [if_pos ⟨by simp, hr, rfl⟩]
  rfl
theorem sx_ildk {a n k : Nat} {i : Int32} (h : mj_at id pc = some .iaload) (ha : ¬ a = 72) (hn : mj_ial a = n) (hi : mj_inB i n = true) (hk : i.toNatClampNeg = k) : mj_E sl d id pc L (.int i :: .ref a :: st) M = mj_E sl d id (pc + 1) L (.int (M a k) :: st) M := by
  rw [sx_ild h ha hn, if_pos hi, hk]
theorem sx_istk {a n k : Nat} {i x : Int32} (h : mj_at id pc = some .iastore) (hn : mj_ial a = n) (hi : mj_inB i n = true) (hk : i.toNatClampNeg = k) : mj_E sl d id pc L (.int x :: .int i :: .ref a :: st) M = mj_E sl d id (pc + 1) L st (mj_st M a k x) := by
  rw [sx_ist h hn, if_pos hi, hk]
theorem sx_bldk {a n k : Nat} {i : Int32} (h : mj_at id pc = some .baload) (hn : mj_bln a = n) (hi : mj_inB i n = true) (hk : i.toNatClampNeg = k) : mj_E sl d id pc L (.int i :: .ref a :: st) M = mj_E sl d id (pc + 1) L (.int (M a k) :: st) M := by
  rw [sx_bld h hn, if_pos hi, hk]
theorem mj_sel {α : Type} {c : Prop} [Decidable c] {x a b : α} (h1 : c → x = a) (h2 : ¬ c → x = b) : x = if c then a else b := by
  split
  · next h => exact h1 h
  · next h => exact h2 h
theorem mj_ne {x c : Int32} {n : Int} (h : ¬ x = c) (hc : c.toInt = n) : x.toInt ≠ n := fun e => h (Int32.toInt_inj.mp (e.trans hc.symm))
theorem mj_nes {x : Int32} {n : Int} (h : x.toInt ≠ n) : n ≠ x.toInt := fun e => h e.symm
end MJ2
end
section
theorem ow_0 : mj_own 0 = 8 := by decide +kernel
theorem rt_0 : mj_rt 0 = 1 := by decide +kernel
theorem ow_1 : mj_own 1 = 8 := by decide +kernel
theorem rt_1 : mj_rt 1 = 1 := by decide +kernel
theorem ow_2 : mj_own 2 = 8 := by decide +kernel
theorem rt_2 : mj_rt 2 = 1 := by decide +kernel
theorem ow_3 : mj_own 3 = 8 := by decide +kernel
theorem rt_3 : mj_rt 3 = 1 := by decide +kernel
theorem ow_4 : mj_own 4 = 0 := by decide +kernel
theorem rt_4 : mj_rt 4 = 0 := by decide +kernel
theorem ow_5 : mj_own 5 = 0 := by decide +kernel
theorem rt_5 : mj_rt 5 = 2 := by decide +kernel
theorem ow_6 : mj_own 6 = 0 := by decide +kernel
theorem rt_6 : mj_rt 6 = 0 := by decide +kernel
theorem ow_7 : mj_own 7 = 0 := by decide +kernel
theorem rt_7 : mj_rt 7 = 0 := by decide +kernel
theorem ow_8 : mj_own 8 = 0 := by decide +kernel
theorem rt_8 : mj_rt 8 = 1 := by decide +kernel
theorem ow_9 : mj_own 9 = 0 := by decide +kernel
theorem rt_9 : mj_rt 9 = 1 := by decide +kernel
theorem ow_10 : mj_own 10 = 0 := by decide +kernel
theorem rt_10 : mj_rt 10 = 1 := by decide +kernel
theorem ow_11 : mj_own 11 = 0 := by decide +kernel
theorem rt_11 : mj_rt 11 = 0 := by decide +kernel
theorem ow_12 : mj_own 12 = 0 := by decide +kernel
theorem rt_12 : mj_rt 12 = 2 := by decide +kernel
theorem ow_13 : mj_own 13 = 0 := by decide +kernel
theorem rt_13 : mj_rt 13 = 1 := by decide +kernel
theorem ow_14 : mj_own 14 = 0 := by decide +kernel
theorem rt_14 : mj_rt 14 = 0 := by decide +kernel
theorem ow_15 : mj_own 15 = 0 := by decide +kernel
theorem rt_15 : mj_rt 15 = 0 := by decide +kernel
theorem ow_16 : mj_own 16 = 0 := by decide +kernel
theorem rt_16 : mj_rt 16 = 0 := by decide +kernel
theorem ow_17 : mj_own 17 = 0 := by decide +kernel
theorem rt_17 : mj_rt 17 = 0 := by decide +kernel
theorem ow_18 : mj_own 18 = 0 := by decide +kernel
theorem rt_18 : mj_rt 18 = 0 := by decide +kernel
theorem ow_19 : mj_own 19 = 0 := by decide +kernel
theorem rt_19 : mj_rt 19 = 1 := by decide +kernel
theorem ow_20 : mj_own 20 = 9 := by decide +kernel
theorem rt_20 : mj_rt 20 = 2 := by decide +kernel
theorem ow_21 : mj_own 21 = 9 := by decide +kernel
theorem rt_21 : mj_rt 21 = 1 := by decide +kernel
theorem ow_22 : mj_own 22 = 9 := by decide +kernel
theorem rt_22 : mj_rt 22 = 1 := by decide +kernel
theorem ow_23 : mj_own 23 = 9 := by decide +kernel
theorem rt_23 : mj_rt 23 = 1 := by decide +kernel
theorem ow_24 : mj_own 24 = 9 := by decide +kernel
theorem rt_24 : mj_rt 24 = 1 := by decide +kernel
theorem ow_25 : mj_own 25 = 9 := by decide +kernel
theorem rt_25 : mj_rt 25 = 1 := by decide +kernel
theorem ow_26 : mj_own 26 = 9 := by decide +kernel
theorem rt_26 : mj_rt 26 = 1 := by decide +kernel
theorem ow_27 : mj_own 27 = 9 := by decide +kernel
theorem rt_27 : mj_rt 27 = 1 := by decide +kernel
theorem ow_28 : mj_own 28 = 9 := by decide +kernel
theorem rt_28 : mj_rt 28 = 1 := by decide +kernel
theorem ow_29 : mj_own 29 = 9 := by decide +kernel
theorem rt_29 : mj_rt 29 = 1 := by decide +kernel
theorem ow_30 : mj_own 30 = 9 := by decide +kernel
theorem rt_30 : mj_rt 30 = 1 := by decide +kernel
theorem ow_31 : mj_own 31 = 9 := by decide +kernel
theorem rt_31 : mj_rt 31 = 1 := by decide +kernel
theorem ow_32 : mj_own 32 = 9 := by decide +kernel
theorem rt_32 : mj_rt 32 = 1 := by decide +kernel
theorem ow_33 : mj_own 33 = 9 := by decide +kernel
theorem rt_33 : mj_rt 33 = 1 := by decide +kernel
theorem ow_34 : mj_own 34 = 1 := by decide +kernel
theorem rt_34 : mj_rt 34 = 0 := by decide +kernel
theorem ow_35 : mj_own 35 = 1 := by decide +kernel
theorem rt_35 : mj_rt 35 = 0 := by decide +kernel
theorem ow_36 : mj_own 36 = 1 := by decide +kernel
theorem rt_36 : mj_rt 36 = 0 := by decide +kernel
theorem ow_37 : mj_own 37 = 1 := by decide +kernel
theorem rt_37 : mj_rt 37 = 1 := by decide +kernel
theorem ow_38 : mj_own 38 = 1 := by decide +kernel
theorem rt_38 : mj_rt 38 = 2 := by decide +kernel
theorem ow_39 : mj_own 39 = 1 := by decide +kernel
theorem rt_39 : mj_rt 39 = 1 := by decide +kernel
theorem ow_40 : mj_own 40 = 1 := by decide +kernel
theorem rt_40 : mj_rt 40 = 1 := by decide +kernel
theorem ow_41 : mj_own 41 = 1 := by decide +kernel
theorem rt_41 : mj_rt 41 = 0 := by decide +kernel
theorem ow_42 : mj_own 42 = 1 := by decide +kernel
theorem rt_42 : mj_rt 42 = 0 := by decide +kernel
theorem ow_43 : mj_own 43 = 1 := by decide +kernel
theorem rt_43 : mj_rt 43 = 1 := by decide +kernel
theorem ow_44 : mj_own 44 = 1 := by decide +kernel
theorem rt_44 : mj_rt 44 = 0 := by decide +kernel
theorem ow_45 : mj_own 45 = 1 := by decide +kernel
theorem rt_45 : mj_rt 45 = 0 := by decide +kernel
theorem ow_46 : mj_own 46 = 2 := by decide +kernel
theorem rt_46 : mj_rt 46 = 3 := by decide +kernel
theorem ow_47 : mj_own 47 = 2 := by decide +kernel
theorem rt_47 : mj_rt 47 = 1 := by decide +kernel
theorem ow_48 : mj_own 48 = 2 := by decide +kernel
theorem rt_48 : mj_rt 48 = 1 := by decide +kernel
theorem ow_49 : mj_own 49 = 2 := by decide +kernel
theorem rt_49 : mj_rt 49 = 2 := by decide +kernel
theorem ow_50 : mj_own 50 = 2 := by decide +kernel
theorem rt_50 : mj_rt 50 = 0 := by decide +kernel
theorem ow_51 : mj_own 51 = 2 := by decide +kernel
theorem rt_51 : mj_rt 51 = 0 := by decide +kernel
theorem ow_52 : mj_own 52 = 2 := by decide +kernel
theorem rt_52 : mj_rt 52 = 2 := by decide +kernel
theorem ow_53 : mj_own 53 = 2 := by decide +kernel
theorem rt_53 : mj_rt 53 = 0 := by decide +kernel
theorem ow_54 : mj_own 54 = 2 := by decide +kernel
theorem rt_54 : mj_rt 54 = 0 := by decide +kernel
theorem ow_55 : mj_own 55 = 2 := by decide +kernel
theorem rt_55 : mj_rt 55 = 0 := by decide +kernel
theorem ow_56 : mj_own 56 = 2 := by decide +kernel
theorem rt_56 : mj_rt 56 = 0 := by decide +kernel
theorem ow_57 : mj_own 57 = 2 := by decide +kernel
theorem rt_57 : mj_rt 57 = 0 := by decide +kernel
theorem ow_58 : mj_own 58 = 2 := by decide +kernel
theorem rt_58 : mj_rt 58 = 0 := by decide +kernel
theorem ow_59 : mj_own 59 = 2 := by decide +kernel
theorem rt_59 : mj_rt 59 = 0 := by decide +kernel
theorem ow_60 : mj_own 60 = 2 := by decide +kernel
theorem rt_60 : mj_rt 60 = 0 := by decide +kernel
theorem ow_61 : mj_own 61 = 2 := by decide +kernel
theorem rt_61 : mj_rt 61 = 2 := by decide +kernel
theorem ow_62 : mj_own 62 = 3 := by decide +kernel
theorem rt_62 : mj_rt 62 = 2 := by decide +kernel
theorem ow_63 : mj_own 63 = 3 := by decide +kernel
theorem rt_63 : mj_rt 63 = 0 := by decide +kernel
theorem ow_64 : mj_own 64 = 3 := by decide +kernel
theorem rt_64 : mj_rt 64 = 1 := by decide +kernel
theorem ow_65 : mj_own 65 = 3 := by decide +kernel
theorem rt_65 : mj_rt 65 = 1 := by decide +kernel
theorem ow_66 : mj_own 66 = 3 := by decide +kernel
theorem rt_66 : mj_rt 66 = 1 := by decide +kernel
theorem ow_67 : mj_own 67 = 4 := by decide +kernel
theorem rt_67 : mj_rt 67 = 1 := by decide +kernel
theorem ow_68 : mj_own 68 = 4 := by decide +kernel
theorem rt_68 : mj_rt 68 = 1 := by decide +kernel
theorem ow_69 : mj_own 69 = 4 := by decide +kernel
theorem rt_69 : mj_rt 69 = 1 := by decide +kernel
theorem ow_70 : mj_own 70 = 4 := by decide +kernel
theorem rt_70 : mj_rt 70 = 1 := by decide +kernel
theorem ow_71 : mj_own 71 = 4 := by decide +kernel
theorem rt_71 : mj_rt 71 = 1 := by decide +kernel
theorem ow_72 : mj_own 72 = 4 := by decide +kernel
theorem rt_72 : mj_rt 72 = 1 := by decide +kernel
theorem ow_73 : mj_own 73 = 5 := by decide +kernel
theorem rt_73 : mj_rt 73 = 2 := by decide +kernel
theorem ow_74 : mj_own 74 = 5 := by decide +kernel
theorem rt_74 : mj_rt 74 = 0 := by decide +kernel
theorem ow_75 : mj_own 75 = 5 := by decide +kernel
theorem rt_75 : mj_rt 75 = 2 := by decide +kernel
theorem ow_76 : mj_own 76 = 5 := by decide +kernel
theorem rt_76 : mj_rt 76 = 1 := by decide +kernel
theorem ow_77 : mj_own 77 = 5 := by decide +kernel
theorem rt_77 : mj_rt 77 = 1 := by decide +kernel
theorem ow_78 : mj_own 78 = 6 := by decide +kernel
theorem rt_78 : mj_rt 78 = 2 := by decide +kernel
theorem ow_79 : mj_own 79 = 6 := by decide +kernel
theorem rt_79 : mj_rt 79 = 2 := by decide +kernel
theorem ow_80 : mj_own 80 = 6 := by decide +kernel
theorem rt_80 : mj_rt 80 = 2 := by decide +kernel
theorem ow_81 : mj_own 81 = 6 := by decide +kernel
theorem rt_81 : mj_rt 81 = 1 := by decide +kernel
theorem ow_82 : mj_own 82 = 6 := by decide +kernel
theorem rt_82 : mj_rt 82 = 1 := by decide +kernel
theorem ow_83 : mj_own 83 = 6 := by decide +kernel
theorem rt_83 : mj_rt 83 = 1 := by decide +kernel
theorem ow_84 : mj_own 84 = 6 := by decide +kernel
theorem rt_84 : mj_rt 84 = 1 := by decide +kernel
theorem ow_85 : mj_own 85 = 6 := by decide +kernel
theorem rt_85 : mj_rt 85 = 1 := by decide +kernel
theorem ow_86 : mj_own 86 = 6 := by decide +kernel
theorem rt_86 : mj_rt 86 = 1 := by decide +kernel
theorem ow_87 : mj_own 87 = 6 := by decide +kernel
theorem rt_87 : mj_rt 87 = 2 := by decide +kernel
theorem ow_88 : mj_own 88 = 6 := by decide +kernel
theorem rt_88 : mj_rt 88 = 1 := by decide +kernel
theorem ow_89 : mj_own 89 = 6 := by decide +kernel
theorem rt_89 : mj_rt 89 = 1 := by decide +kernel
theorem ow_90 : mj_own 90 = 6 := by decide +kernel
theorem rt_90 : mj_rt 90 = 1 := by decide +kernel
theorem ow_91 : mj_own 91 = 6 := by decide +kernel
theorem rt_91 : mj_rt 91 = 1 := by decide +kernel
theorem ow_92 : mj_own 92 = 6 := by decide +kernel
theorem rt_92 : mj_rt 92 = 1 := by decide +kernel
theorem ow_93 : mj_own 93 = 6 := by decide +kernel
theorem rt_93 : mj_rt 93 = 1 := by decide +kernel
theorem ow_94 : mj_own 94 = 6 := by decide +kernel
theorem rt_94 : mj_rt 94 = 1 := by decide +kernel
theorem ow_95 : mj_own 95 = 6 := by decide +kernel
theorem rt_95 : mj_rt 95 = 1 := by decide +kernel
theorem ow_96 : mj_own 96 = 6 := by decide +kernel
theorem rt_96 : mj_rt 96 = 1 := by decide +kernel
theorem ow_97 : mj_own 97 = 6 := by decide +kernel
theorem rt_97 : mj_rt 97 = 1 := by decide +kernel
theorem ow_98 : mj_own 98 = 6 := by decide +kernel
theorem rt_98 : mj_rt 98 = 1 := by decide +kernel
theorem ow_99 : mj_own 99 = 6 := by decide +kernel
theorem rt_99 : mj_rt 99 = 1 := by decide +kernel
theorem ow_100 : mj_own 100 = 6 := by decide +kernel
theorem rt_100 : mj_rt 100 = 1 := by decide +kernel
theorem ow_101 : mj_own 101 = 6 := by decide +kernel
theorem rt_101 : mj_rt 101 = 1 := by decide +kernel
theorem ow_102 : mj_own 102 = 6 := by decide +kernel
theorem rt_102 : mj_rt 102 = 1 := by decide +kernel
theorem ow_103 : mj_own 103 = 6 := by decide +kernel
theorem rt_103 : mj_rt 103 = 1 := by decide +kernel
theorem ow_104 : mj_own 104 = 6 := by decide +kernel
theorem rt_104 : mj_rt 104 = 1 := by decide +kernel
theorem ow_105 : mj_own 105 = 6 := by decide +kernel
theorem rt_105 : mj_rt 105 = 1 := by decide +kernel
theorem ow_106 : mj_own 106 = 6 := by decide +kernel
theorem rt_106 : mj_rt 106 = 1 := by decide +kernel
theorem ow_107 : mj_own 107 = 6 := by decide +kernel
theorem rt_107 : mj_rt 107 = 1 := by decide +kernel
theorem ow_108 : mj_own 108 = 6 := by decide +kernel
theorem rt_108 : mj_rt 108 = 1 := by decide +kernel
theorem ow_109 : mj_own 109 = 6 := by decide +kernel
theorem rt_109 : mj_rt 109 = 0 := by decide +kernel
theorem ow_110 : mj_own 110 = 6 := by decide +kernel
theorem rt_110 : mj_rt 110 = 1 := by decide +kernel
theorem ow_111 : mj_own 111 = 6 := by decide +kernel
theorem rt_111 : mj_rt 111 = 1 := by decide +kernel
theorem ow_112 : mj_own 112 = 6 := by decide +kernel
theorem rt_112 : mj_rt 112 = 1 := by decide +kernel
theorem ow_113 : mj_own 113 = 6 := by decide +kernel
theorem rt_113 : mj_rt 113 = 1 := by decide +kernel
theorem ow_114 : mj_own 114 = 6 := by decide +kernel
theorem rt_114 : mj_rt 114 = 1 := by decide +kernel
theorem ow_115 : mj_own 115 = 6 := by decide +kernel
theorem rt_115 : mj_rt 115 = 1 := by decide +kernel
theorem ow_116 : mj_own 116 = 6 := by decide +kernel
theorem rt_116 : mj_rt 116 = 1 := by decide +kernel
theorem ow_117 : mj_own 117 = 6 := by decide +kernel
theorem rt_117 : mj_rt 117 = 1 := by decide +kernel
theorem ow_118 : mj_own 118 = 6 := by decide +kernel
theorem rt_118 : mj_rt 118 = 2 := by decide +kernel
theorem ow_119 : mj_own 119 = 6 := by decide +kernel
theorem rt_119 : mj_rt 119 = 1 := by decide +kernel
theorem ow_120 : mj_own 120 = 6 := by decide +kernel
theorem rt_120 : mj_rt 120 = 2 := by decide +kernel
theorem ow_121 : mj_own 121 = 6 := by decide +kernel
theorem rt_121 : mj_rt 121 = 1 := by decide +kernel
theorem ow_122 : mj_own 122 = 6 := by decide +kernel
theorem rt_122 : mj_rt 122 = 1 := by decide +kernel
theorem ow_123 : mj_own 123 = 6 := by decide +kernel
theorem rt_123 : mj_rt 123 = 1 := by decide +kernel
theorem ow_124 : mj_own 124 = 7 := by decide +kernel
theorem rt_124 : mj_rt 124 = 2 := by decide +kernel
theorem ow_125 : mj_own 125 = 7 := by decide +kernel
theorem rt_125 : mj_rt 125 = 1 := by decide +kernel
theorem ow_126 : mj_own 126 = 7 := by decide +kernel
theorem rt_126 : mj_rt 126 = 1 := by decide +kernel
theorem ow_127 : mj_own 127 = 7 := by decide +kernel
theorem rt_127 : mj_rt 127 = 2 := by decide +kernel
theorem ow_128 : mj_own 128 = 7 := by decide +kernel
theorem rt_128 : mj_rt 128 = 1 := by decide +kernel
theorem ow_129 : mj_own 129 = 7 := by decide +kernel
theorem rt_129 : mj_rt 129 = 0 := by decide +kernel
theorem ow_130 : mj_own 130 = 7 := by decide +kernel
theorem rt_130 : mj_rt 130 = 2 := by decide +kernel
theorem ow_131 : mj_own 131 = 7 := by decide +kernel
theorem rt_131 : mj_rt 131 = 2 := by decide +kernel
theorem ow_132 : mj_own 132 = 7 := by decide +kernel
theorem rt_132 : mj_rt 132 = 2 := by decide +kernel
theorem ow_133 : mj_own 133 = 7 := by decide +kernel
theorem rt_133 : mj_rt 133 = 1 := by decide +kernel
theorem ow_134 : mj_own 134 = 7 := by decide +kernel
theorem rt_134 : mj_rt 134 = 1 := by decide +kernel
theorem ow_135 : mj_own 135 = 7 := by decide +kernel
theorem rt_135 : mj_rt 135 = 1 := by decide +kernel
theorem ow_136 : mj_own 136 = 7 := by decide +kernel
theorem rt_136 : mj_rt 136 = 1 := by decide +kernel
theorem ow_137 : mj_own 137 = 7 := by decide +kernel
theorem rt_137 : mj_rt 137 = 1 := by decide +kernel
theorem ow_138 : mj_own 138 = 7 := by decide +kernel
theorem rt_138 : mj_rt 138 = 2 := by decide +kernel
theorem ow_139 : mj_own 139 = 7 := by decide +kernel
theorem rt_139 : mj_rt 139 = 1 := by decide +kernel
theorem ow_140 : mj_own 140 = 7 := by decide +kernel
theorem rt_140 : mj_rt 140 = 1 := by decide +kernel
theorem ow_141 : mj_own 141 = 7 := by decide +kernel
theorem rt_141 : mj_rt 141 = 2 := by decide +kernel
theorem ow_142 : mj_own 142 = 7 := by decide +kernel
theorem rt_142 : mj_rt 142 = 2 := by decide +kernel
theorem ow_143 : mj_own 143 = 7 := by decide +kernel
theorem rt_143 : mj_rt 143 = 2 := by decide +kernel
theorem ow_144 : mj_own 144 = 7 := by decide +kernel
theorem rt_144 : mj_rt 144 = 0 := by decide +kernel
theorem ow_145 : mj_own 145 = 7 := by decide +kernel
theorem rt_145 : mj_rt 145 = 1 := by decide +kernel
theorem ow_146 : mj_own 146 = 7 := by decide +kernel
theorem rt_146 : mj_rt 146 = 1 := by decide +kernel
theorem ow_147 : mj_own 147 = 7 := by decide +kernel
theorem rt_147 : mj_rt 147 = 1 := by decide +kernel
theorem ow_148 : mj_own 148 = 7 := by decide +kernel
theorem rt_148 : mj_rt 148 = 2 := by decide +kernel
theorem ow_149 : mj_own 149 = 7 := by decide +kernel
theorem rt_149 : mj_rt 149 = 2 := by decide +kernel
theorem ow_150 : mj_own 150 = 7 := by decide +kernel
theorem rt_150 : mj_rt 150 = 2 := by decide +kernel
theorem ow_151 : mj_own 151 = 7 := by decide +kernel
theorem rt_151 : mj_rt 151 = 2 := by decide +kernel
theorem ow_152 : mj_own 152 = 7 := by decide +kernel
theorem rt_152 : mj_rt 152 = 0 := by decide +kernel
theorem ow_153 : mj_own 153 = 7 := by decide +kernel
theorem rt_153 : mj_rt 153 = 2 := by decide +kernel
theorem ow_154 : mj_own 154 = 7 := by decide +kernel
theorem rt_154 : mj_rt 154 = 1 := by decide +kernel
theorem ow_155 : mj_own 155 = 7 := by decide +kernel
theorem rt_155 : mj_rt 155 = 1 := by decide +kernel
theorem ow_156 : mj_own 156 = 7 := by decide +kernel
theorem rt_156 : mj_rt 156 = 1 := by decide +kernel
theorem ow_157 : mj_own 157 = 7 := by decide +kernel
theorem rt_157 : mj_rt 157 = 0 := by decide +kernel
theorem ow_158 : mj_own 158 = 7 := by decide +kernel
theorem rt_158 : mj_rt 158 = 2 := by decide +kernel
theorem ow_159 : mj_own 159 = 7 := by decide +kernel
theorem rt_159 : mj_rt 159 = 2 := by decide +kernel
theorem ow_160 : mj_own 160 = 7 := by decide +kernel
theorem rt_160 : mj_rt 160 = 2 := by decide +kernel
theorem ow_161 : mj_own 161 = 7 := by decide +kernel
theorem rt_161 : mj_rt 161 = 0 := by decide +kernel
theorem ow_162 : mj_own 162 = 7 := by decide +kernel
theorem rt_162 : mj_rt 162 = 0 := by decide +kernel
theorem ow_163 : mj_own 163 = 7 := by decide +kernel
theorem rt_163 : mj_rt 163 = 0 := by decide +kernel
theorem ow_164 : mj_own 164 = 7 := by decide +kernel
theorem rt_164 : mj_rt 164 = 2 := by decide +kernel
theorem ow_165 : mj_own 165 = 7 := by decide +kernel
theorem rt_165 : mj_rt 165 = 2 := by decide +kernel
theorem ow_166 : mj_own 166 = 7 := by decide +kernel
theorem rt_166 : mj_rt 166 = 2 := by decide +kernel
theorem ow_167 : mj_own 167 = 7 := by decide +kernel
theorem rt_167 : mj_rt 167 = 0 := by decide +kernel
theorem ow_168 : mj_own 168 = 7 := by decide +kernel
theorem rt_168 : mj_rt 168 = 1 := by decide +kernel
theorem ow_169 : mj_own 169 = 7 := by decide +kernel
theorem rt_169 : mj_rt 169 = 1 := by decide +kernel
theorem ow_170 : mj_own 170 = 7 := by decide +kernel
theorem rt_170 : mj_rt 170 = 1 := by decide +kernel
theorem ow_171 : mj_own 171 = 7 := by decide +kernel
theorem rt_171 : mj_rt 171 = 1 := by decide +kernel
theorem ow_172 : mj_own 172 = 7 := by decide +kernel
theorem rt_172 : mj_rt 172 = 2 := by decide +kernel
theorem ow_173 : mj_own 173 = 7 := by decide +kernel
theorem rt_173 : mj_rt 173 = 1 := by decide +kernel
theorem ow_174 : mj_own 174 = 7 := by decide +kernel
theorem rt_174 : mj_rt 174 = 2 := by decide +kernel
theorem ow_175 : mj_own 175 = 7 := by decide +kernel
theorem rt_175 : mj_rt 175 = 2 := by decide +kernel
theorem ow_176 : mj_own 176 = 7 := by decide +kernel
theorem rt_176 : mj_rt 176 = 1 := by decide +kernel
theorem ow_177 : mj_own 177 = 7 := by decide +kernel
theorem rt_177 : mj_rt 177 = 1 := by decide +kernel
theorem ow_178 : mj_own 178 = 7 := by decide +kernel
theorem rt_178 : mj_rt 178 = 1 := by decide +kernel
theorem ow_179 : mj_own 179 = 7 := by decide +kernel
theorem rt_179 : mj_rt 179 = 1 := by decide +kernel
theorem ow_180 : mj_own 180 = 7 := by decide +kernel
theorem rt_180 : mj_rt 180 = 1 := by decide +kernel
theorem ow_181 : mj_own 181 = 7 := by decide +kernel
theorem rt_181 : mj_rt 181 = 1 := by decide +kernel
theorem ow_182 : mj_own 182 = 7 := by decide +kernel
theorem rt_182 : mj_rt 182 = 2 := by decide +kernel
theorem ow_183 : mj_own 183 = 7 := by decide +kernel
theorem rt_183 : mj_rt 183 = 2 := by decide +kernel
theorem ow_184 : mj_own 184 = 7 := by decide +kernel
theorem rt_184 : mj_rt 184 = 1 := by decide +kernel
theorem ow_185 : mj_own 185 = 7 := by decide +kernel
theorem rt_185 : mj_rt 185 = 1 := by decide +kernel
theorem ow_186 : mj_own 186 = 7 := by decide +kernel
theorem rt_186 : mj_rt 186 = 0 := by decide +kernel
theorem ow_187 : mj_own 187 = 7 := by decide +kernel
theorem rt_187 : mj_rt 187 = 0 := by decide +kernel
theorem ow_188 : mj_own 188 = 7 := by decide +kernel
theorem rt_188 : mj_rt 188 = 0 := by decide +kernel
theorem ow_189 : mj_own 189 = 7 := by decide +kernel
theorem rt_189 : mj_rt 189 = 0 := by decide +kernel
theorem ow_190 : mj_own 190 = 7 := by decide +kernel
theorem rt_190 : mj_rt 190 = 1 := by decide +kernel
theorem ow_191 : mj_own 191 = 7 := by decide +kernel
theorem rt_191 : mj_rt 191 = 1 := by decide +kernel
theorem ow_192 : mj_own 192 = 7 := by decide +kernel
theorem rt_192 : mj_rt 192 = 1 := by decide +kernel
theorem ow_193 : mj_own 193 = 7 := by decide +kernel
theorem rt_193 : mj_rt 193 = 1 := by decide +kernel
theorem ow_194 : mj_own 194 = 7 := by decide +kernel
theorem rt_194 : mj_rt 194 = 1 := by decide +kernel
theorem ow_195 : mj_own 195 = 7 := by decide +kernel
theorem rt_195 : mj_rt 195 = 1 := by decide +kernel
theorem ow_196 : mj_own 196 = 7 := by decide +kernel
theorem rt_196 : mj_rt 196 = 1 := by decide +kernel
theorem ow_197 : mj_own 197 = 7 := by decide +kernel
theorem rt_197 : mj_rt 197 = 1 := by decide +kernel
theorem ow_198 : mj_own 198 = 7 := by decide +kernel
theorem rt_198 : mj_rt 198 = 1 := by decide +kernel
theorem ow_199 : mj_own 199 = 7 := by decide +kernel
theorem rt_199 : mj_rt 199 = 1 := by decide +kernel
theorem ow_200 : mj_own 200 = 7 := by decide +kernel
theorem rt_200 : mj_rt 200 = 0 := by decide +kernel
theorem ow_201 : mj_own 201 = 7 := by decide +kernel
theorem rt_201 : mj_rt 201 = 1 := by decide +kernel
theorem ow_202 : mj_own 202 = 7 := by decide +kernel
theorem rt_202 : mj_rt 202 = 2 := by decide +kernel
theorem ow_203 : mj_own 203 = 7 := by decide +kernel
theorem rt_203 : mj_rt 203 = 1 := by decide +kernel
theorem ow_204 : mj_own 204 = 7 := by decide +kernel
theorem rt_204 : mj_rt 204 = 1 := by decide +kernel
theorem ow_205 : mj_own 205 = 7 := by decide +kernel
theorem rt_205 : mj_rt 205 = 1 := by decide +kernel
theorem ow_206 : mj_own 206 = 7 := by decide +kernel
theorem rt_206 : mj_rt 206 = 1 := by decide +kernel
theorem ow_207 : mj_own 207 = 7 := by decide +kernel
theorem rt_207 : mj_rt 207 = 1 := by decide +kernel
theorem ow_208 : mj_own 208 = 7 := by decide +kernel
theorem rt_208 : mj_rt 208 = 1 := by decide +kernel
theorem ow_209 : mj_own 209 = 7 := by decide +kernel
theorem rt_209 : mj_rt 209 = 1 := by decide +kernel
theorem ow_210 : mj_own 210 = 7 := by decide +kernel
theorem rt_210 : mj_rt 210 = 1 := by decide +kernel
theorem ow_211 : mj_own 211 = 7 := by decide +kernel
theorem rt_211 : mj_rt 211 = 1 := by decide +kernel
theorem ow_212 : mj_own 212 = 7 := by decide +kernel
theorem rt_212 : mj_rt 212 = 2 := by decide +kernel
theorem ow_213 : mj_own 213 = 7 := by decide +kernel
theorem rt_213 : mj_rt 213 = 2 := by decide +kernel
theorem ow_214 : mj_own 214 = 7 := by decide +kernel
theorem rt_214 : mj_rt 214 = 1 := by decide +kernel
theorem ow_215 : mj_own 215 = 7 := by decide +kernel
theorem rt_215 : mj_rt 215 = 1 := by decide +kernel
theorem ow_216 : mj_own 216 = 7 := by decide +kernel
theorem rt_216 : mj_rt 216 = 2 := by decide +kernel
theorem ow_217 : mj_own 217 = 7 := by decide +kernel
theorem rt_217 : mj_rt 217 = 1 := by decide +kernel
theorem ow_218 : mj_own 218 = 7 := by decide +kernel
theorem rt_218 : mj_rt 218 = 1 := by decide +kernel
theorem ow_219 : mj_own 219 = 7 := by decide +kernel
theorem rt_219 : mj_rt 219 = 1 := by decide +kernel
theorem ow_220 : mj_own 220 = 7 := by decide +kernel
theorem rt_220 : mj_rt 220 = 1 := by decide +kernel
theorem ow_221 : mj_own 221 = 7 := by decide +kernel
theorem rt_221 : mj_rt 221 = 1 := by decide +kernel
theorem ow_222 : mj_own 222 = 7 := by decide +kernel
theorem rt_222 : mj_rt 222 = 1 := by decide +kernel
theorem ow_223 : mj_own 223 = 7 := by decide +kernel
theorem rt_223 : mj_rt 223 = 1 := by decide +kernel
theorem ow_224 : mj_own 224 = 7 := by decide +kernel
theorem rt_224 : mj_rt 224 = 2 := by decide +kernel
theorem ow_225 : mj_own 225 = 7 := by decide +kernel
theorem rt_225 : mj_rt 225 = 1 := by decide +kernel
theorem ow_226 : mj_own 226 = 7 := by decide +kernel
theorem rt_226 : mj_rt 226 = 2 := by decide +kernel
theorem ow_227 : mj_own 227 = 7 := by decide +kernel
theorem rt_227 : mj_rt 227 = 1 := by decide +kernel
theorem ow_228 : mj_own 228 = 7 := by decide +kernel
theorem rt_228 : mj_rt 228 = 1 := by decide +kernel
theorem ow_229 : mj_own 229 = 11 := by decide +kernel
theorem rt_229 : mj_rt 229 = 1 := by decide +kernel
theorem ow_230 : mj_own 230 = 12 := by decide +kernel
theorem rt_230 : mj_rt 230 = 1 := by decide +kernel
theorem ow_231 : mj_own 231 = 12 := by decide +kernel
theorem rt_231 : mj_rt 231 = 1 := by decide +kernel
theorem ow_232 : mj_own 232 = 13 := by decide +kernel
theorem rt_232 : mj_rt 232 = 0 := by decide +kernel
theorem ow_233 : mj_own 233 = 13 := by decide +kernel
theorem rt_233 : mj_rt 233 = 0 := by decide +kernel
theorem ow_234 : mj_own 234 = 10 := by decide +kernel
theorem rt_234 : mj_rt 234 = 2 := by decide +kernel
theorem ow_235 : mj_own 235 = 14 := by decide +kernel
theorem rt_235 : mj_rt 235 = 1 := by decide +kernel
theorem ow_236 : mj_own 236 = 14 := by decide +kernel
theorem rt_236 : mj_rt 236 = 1 := by decide +kernel
theorem ow_237 : mj_own 237 = 14 := by decide +kernel
theorem rt_237 : mj_rt 237 = 1 := by decide +kernel
theorem ow_238 : mj_own 238 = 14 := by decide +kernel
theorem rt_238 : mj_rt 238 = 4 := by decide +kernel
theorem ow_239 : mj_own 239 = 14 := by decide +kernel
theorem rt_239 : mj_rt 239 = 2 := by decide +kernel
theorem ow_240 : mj_own 240 = 15 := by decide +kernel
theorem rt_240 : mj_rt 240 = 2 := by decide +kernel
theorem ow_241 : mj_own 241 = 15 := by decide +kernel
theorem rt_241 : mj_rt 241 = 1 := by decide +kernel
theorem ow_242 : mj_own 242 = 15 := by decide +kernel
theorem rt_242 : mj_rt 242 = 1 := by decide +kernel
theorem cx_10_13 : mj_cs 10 13 = some (0, 78, 2, 6, 1) := by decide +kernel
theorem cx_6_72 : mj_cs 6 72 = some (1, 20, 1, 100, 1) := by decide +kernel
theorem cx_6_78 : mj_cs 6 78 = some (0, 63, 2, 3, 0) := by decide +kernel
theorem cx_10_18 : mj_cs 10 18 = some (0, 79, 3, 6, 1) := by decide +kernel
theorem cx_6_82 : mj_cs 6 82 = some (0, 6, 3, 0, 0) := by decide +kernel
theorem cx_0_53 : mj_cs 0 53 = some (1, 233, 4, 100, 0) := by decide +kernel
theorem cx_13_13 : mj_cs 13 13 = some (1, 232, 3, 100, 0) := by decide +kernel
theorem cx_10_23 : mj_cs 10 23 = some (0, 80, 3, 6, 1) := by decide +kernel
theorem cx_6_85 : mj_cs 6 85 = some (0, 5, 1, 0, 1) := by decide +kernel
theorem cx_6_88 : mj_cs 6 88 = some (0, 62, 1, 3, 1) := by decide +kernel
theorem cx_6_89 : mj_cs 6 89 = some (0, 7, 3, 0, 0) := by decide +kernel
theorem cx_10_27 : mj_cs 10 27 = some (0, 81, 5, 6, 1) := by decide +kernel
theorem cx_6_92 : mj_cs 6 92 = some (0, 73, 0, 5, 1) := by decide +kernel
theorem cx_6_96 : mj_cs 6 96 = some (0, 74, 1, 5, 0) := by decide +kernel
theorem cx_10_32 : mj_cs 10 32 = some (0, 82, 1, 6, 1) := by decide +kernel
theorem cx_6_104 : mj_cs 6 104 = some (0, 75, 3, 5, 1) := by decide +kernel
theorem cx_6_107 : mj_cs 6 107 = some (0, 47, 1, 2, 1) := by decide +kernel
theorem cx_2_32 : mj_cs 2 32 = some (0, 41, 0, 1, 0) := by decide +kernel
theorem cx_2_35 : mj_cs 2 35 = some (0, 53, 0, 2, 0) := by decide +kernel
theorem cx_2_51 : mj_cs 2 51 = some (0, 48, 0, 2, 1) := by decide +kernel
theorem cx_2_45 : mj_cs 2 45 = some (0, 76, 1, 5, 1) := by decide +kernel
theorem cx_2_59 : mj_cs 2 59 = some (0, 50, 1, 2, 0) := by decide +kernel
theorem cx_2_55 : mj_cs 2 55 = some (2, 123, 2, 100, 1) := by decide +kernel
theorem cx_2_65 : mj_cs 2 65 = some (0, 57, 1, 2, 0) := by decide +kernel
theorem cx_2_98 : mj_cs 2 98 = some (0, 58, 1, 2, 0) := by decide +kernel
theorem cx_2_101 : mj_cs 2 101 = some (0, 59, 1, 2, 0) := by decide +kernel
theorem cx_2_106 : mj_cs 2 106 = some (0, 236, 1, 14, 1) := by decide +kernel
theorem cx_14_633 : mj_cs 14 633 = some (0, 237, 2, 14, 1) := by decide +kernel
theorem cx_14_492 : mj_cs 14 492 = some (0, 239, 0, 14, 1) := by decide +kernel
theorem cx_14_505 : mj_cs 14 505 = some (0, 235, 0, 14, 1) := by decide +kernel
theorem cx_14_335 : mj_cs 14 335 = some (0, 238, 0, 14, 1) := by decide +kernel
theorem cx_14_637 : mj_cs 14 637 = some (1, 241, 4, 100, 1) := by decide +kernel
theorem cx_15_88 : mj_cs 15 88 = some (1, 240, 1, 100, 1) := by decide +kernel
theorem cx_15_92 : mj_cs 15 92 = some (1, 230, 2, 100, 1) := by decide +kernel
theorem cx_15_38 : mj_cs 15 38 = some (1, 231, 2, 100, 1) := by decide +kernel
theorem cx_15_95 : mj_cs 15 95 = some (1, 242, 4, 100, 1) := by decide +kernel
theorem cx_2_94 : mj_cs 2 94 = some (0, 52, 1, 2, 1) := by decide +kernel
theorem cx_2_41 : mj_cs 2 41 = some (0, 51, 1, 2, 0) := by decide +kernel
theorem cx_2_111 : mj_cs 2 111 = some (1, 61, 1, 100, 1) := by decide +kernel
theorem cx_2_114 : mj_cs 2 114 = some (0, 60, 0, 2, 0) := by decide +kernel
theorem cx_2_68 : mj_cs 2 68 = some (0, 42, 1, 1, 0) := by decide +kernel
theorem cx_2_81 : mj_cs 2 81 = some (0, 49, 2, 2, 1) := by decide +kernel
theorem cx_2_71 : mj_cs 2 71 = some (0, 54, 1, 2, 0) := by decide +kernel
theorem cx_2_78 : mj_cs 2 78 = some (0, 55, 1, 2, 0) := by decide +kernel
theorem cx_2_91 : mj_cs 2 91 = some (0, 56, 1, 2, 0) := by decide +kernel
theorem cx_2_85 : mj_cs 2 85 = some (0, 43, 1, 1, 1) := by decide +kernel
theorem cx_1_54 : mj_cs 1 54 = some (0, 42, 1, 1, 0) := by decide +kernel
theorem cx_2_88 : mj_cs 2 88 = some (0, 44, 1, 1, 0) := by decide +kernel
theorem cx_2_74 : mj_cs 2 74 = some (0, 45, 3, 1, 0) := by decide +kernel
theorem cx_6_111 : mj_cs 6 111 = some (0, 46, 1, 2, 2) := by decide +kernel
theorem cx_10_37 : mj_cs 10 37 = some (0, 83, 1, 6, 1) := by decide +kernel
theorem cx_6_115 : mj_cs 6 115 = some (0, 67, 2, 4, 1) := by decide +kernel
theorem cx_4_31 : mj_cs 4 31 = some (0, 76, 1, 5, 1) := by decide +kernel
theorem cx_4_37 : mj_cs 4 37 = some (1, 72, 3, 100, 1) := by decide +kernel
theorem cx_4_41 : mj_cs 4 41 = some (0, 68, 1, 4, 1) := by decide +kernel
theorem cx_4_52 : mj_cs 4 52 = some (2, 123, 2, 100, 1) := by decide +kernel
theorem cx_4_44 : mj_cs 4 44 = some (0, 69, 2, 4, 1) := by decide +kernel
theorem cx_4_64 : mj_cs 4 64 = some (0, 71, 3, 4, 1) := by decide +kernel
theorem cx_4_48 : mj_cs 4 48 = some (0, 70, 3, 4, 1) := by decide +kernel
theorem cx3_4_55 : mj_cT 4 55 = some (3, 0) := by decide +kernel
theorem cx_10_41 : mj_cs 10 41 = some (0, 84, 1, 6, 1) := by decide +kernel
theorem cx_6_119 : mj_cs 6 119 = some (0, 4, 1, 0, 0) := by decide +kernel
theorem cx3_0_41 : mj_cT 0 41 = some (3, 0) := by decide +kernel
theorem cx_6_123 : mj_cs 6 123 = some (1, 0, 3, 100, 1) := by decide +kernel
theorem cx_8_11 : mj_cs 8 11 = some (1, 1, 5, 100, 1) := by decide +kernel
theorem cx_8_15 : mj_cs 8 15 = some (0, 76, 1, 5, 1) := by decide +kernel
theorem cx_8_25 : mj_cs 8 25 = some (2, 123, 2, 100, 1) := by decide +kernel
theorem cx_8_42 : mj_cs 8 42 = some (0, 5, 1, 0, 1) := by decide +kernel
theorem cx_8_50 : mj_cs 8 50 = some (0, 62, 1, 3, 1) := by decide +kernel
theorem cx_8_21 : mj_cs 8 21 = some (1, 2, 3, 100, 1) := by decide +kernel
theorem cx_8_29 : mj_cs 8 29 = some (0, 8, 2, 0, 1) := by decide +kernel
theorem cx_8_34 : mj_cs 8 34 = some (1, 3, 4, 100, 1) := by decide +kernel
theorem cx_8_56 : mj_cs 8 56 = some (1, 22, 1, 100, 1) := by decide +kernel
theorem cx_8_59 : mj_cs 8 59 = some (1, 23, 1, 100, 1) := by decide +kernel
theorem cx_8_62 : mj_cs 8 62 = some (1, 26, 1, 100, 1) := by decide +kernel
theorem cx_8_38 : mj_cs 8 38 = some (0, 7, 3, 0, 0) := by decide +kernel
theorem cx_10_45 : mj_cs 10 45 = some (0, 85, 1, 6, 1) := by decide +kernel
theorem cx_6_129 : mj_cs 6 129 = some (0, 14, 2, 0, 0) := by decide +kernel
theorem cx_0_100 : mj_cs 0 100 = some (0, 15, 1, 0, 0) := by decide +kernel
theorem cx_0_88 : mj_cs 0 88 = some (0, 11, 0, 0, 0) := by decide +kernel
theorem cx_0_80 : mj_cs 0 80 = some (0, 9, 1, 0, 1) := by decide +kernel
theorem cx_0_61 : mj_cs 0 61 = some (1, 229, 1, 100, 1) := by decide +kernel
theorem cx_0_83 : mj_cs 0 83 = some (0, 5, 1, 0, 1) := by decide +kernel
theorem cx_0_84 : mj_cs 0 84 = some (0, 12, 2, 0, 1) := by decide +kernel
theorem cx_0_104 : mj_cs 0 104 = some (0, 16, 2, 0, 0) := by decide +kernel
theorem cx_0_113 : mj_cs 0 113 = some (0, 34, 4, 1, 0) := by decide +kernel
theorem cx_0_119 : mj_cs 0 119 = some (0, 35, 2, 1, 0) := by decide +kernel
theorem cx_0_123 : mj_cs 0 123 = some (0, 36, 3, 1, 0) := by decide +kernel
theorem cx_0_127 : mj_cs 0 127 = some (0, 37, 2, 1, 1) := by decide +kernel
theorem cx_1_34 : mj_cs 1 34 = some (0, 39, 1, 1, 1) := by decide +kernel
theorem cx_1_50 : mj_cs 1 50 = some (1, 40, 3, 100, 1) := by decide +kernel
theorem cx_1_38 : mj_cs 1 38 = some (1, 231, 2, 100, 1) := by decide +kernel
theorem cx_1_44 : mj_cs 1 44 = some (1, 230, 2, 100, 1) := by decide +kernel
theorem cx_0_108 : mj_cs 0 108 = some (1, 231, 2, 100, 1) := by decide +kernel
theorem cx_0_67 : mj_cs 0 67 = some (0, 62, 1, 3, 1) := by decide +kernel
theorem cx_0_130 : mj_cs 0 130 = some (0, 17, 3, 0, 0) := by decide +kernel
theorem cx_0_71 : mj_cs 0 71 = some (0, 8, 2, 0, 1) := by decide +kernel
theorem cx_0_134 : mj_cs 0 134 = some (0, 38, 0, 1, 1) := by decide +kernel
theorem cx_0_138 : mj_cs 0 138 = some (0, 19, 0, 0, 1) := by decide +kernel
theorem cx_0_142 : mj_cs 0 142 = some (0, 18, 2, 0, 0) := by decide +kernel
theorem cx_0_145 : mj_cs 0 145 = some (0, 7, 3, 0, 0) := by decide +kernel
theorem cx_10_49 : mj_cs 10 49 = some (0, 86, 2, 6, 1) := by decide +kernel
theorem cx_6_136 : mj_cs 6 136 = some (0, 87, 1, 6, 1) := by decide +kernel
theorem cx_6_145 : mj_cs 6 145 = some (0, 13, 0, 0, 1) := by decide +kernel
theorem cx_6_149 : mj_cs 6 149 = some (0, 88, 2, 6, 1) := by decide +kernel
theorem cx_6_153 : mj_cs 6 153 = some (0, 9, 1, 0, 1) := by decide +kernel
theorem cx_6_156 : mj_cs 6 156 = some (0, 11, 0, 0, 0) := by decide +kernel
theorem cx_10_54 : mj_cs 10 54 = some (0, 89, 2, 6, 1) := by decide +kernel
theorem cx_6_168 : mj_cs 6 168 = some (0, 90, 2, 6, 1) := by decide +kernel
theorem cx_6_172 : mj_cs 6 172 = some (0, 8, 2, 0, 1) := by decide +kernel
theorem cx_6_175 : mj_cs 6 175 = some (0, 64, 1, 3, 1) := by decide +kernel
theorem cx_3_22 : mj_cs 3 22 = some (1, 229, 1, 100, 1) := by decide +kernel
theorem cx_10_58 : mj_cs 10 58 = some (0, 91, 2, 6, 1) := by decide +kernel
theorem cx_10_62 : mj_cs 10 62 = some (0, 92, 1, 6, 1) := by decide +kernel
theorem cx_10_66 : mj_cs 10 66 = some (0, 93, 1, 6, 1) := by decide +kernel
theorem cx_10_70 : mj_cs 10 70 = some (0, 94, 2, 6, 1) := by decide +kernel
theorem cx_6_181 : mj_cs 6 181 = some (1, 21, 2, 100, 1) := by decide +kernel
theorem cx_9_12 : mj_cs 9 12 = some (1, 229, 1, 100, 1) := by decide +kernel
theorem cx_10_74 : mj_cs 10 74 = some (0, 95, 2, 6, 1) := by decide +kernel
theorem cx_6_184 : mj_cs 6 184 = some (0, 97, 1, 6, 1) := by decide +kernel
theorem cx_6_195 : mj_cs 6 195 = some (1, 229, 1, 100, 1) := by decide +kernel
theorem cx_6_191 : mj_cs 6 191 = some (0, 96, 3, 6, 1) := by decide +kernel
theorem cx_10_78 : mj_cs 10 78 = some (0, 98, 2, 6, 1) := by decide +kernel
theorem cx_6_200 : mj_cs 6 200 = some (0, 76, 1, 5, 1) := by decide +kernel
theorem cx_6_203 : mj_cs 6 203 = some (0, 99, 1, 6, 1) := by decide +kernel
theorem cx3_6_209 : mj_cT 6 209 = some (3, 0) := by decide +kernel
theorem cx_6_206 : mj_cs 6 206 = some (0, 100, 1, 6, 1) := by decide +kernel
theorem cx_10_82 : mj_cs 10 82 = some (0, 101, 3, 6, 1) := by decide +kernel
theorem cx_6_215 : mj_cs 6 215 = some (0, 102, 2, 6, 1) := by decide +kernel
theorem cx_6_218 : mj_cs 6 218 = some (0, 65, 2, 3, 1) := by decide +kernel
theorem cx_3_28 : mj_cs 3 28 = some (0, 62, 1, 3, 1) := by decide +kernel
theorem cx_3_32 : mj_cs 3 32 = some (1, 21, 2, 100, 1) := by decide +kernel
theorem cx_3_36 : mj_cs 3 36 = some (1, 231, 2, 100, 1) := by decide +kernel
theorem cx_6_221 : mj_cs 6 221 = some (0, 103, 3, 6, 1) := by decide +kernel
theorem cx_10_87 : mj_cs 10 87 = some (0, 104, 2, 6, 1) := by decide +kernel
theorem cx_6_228 : mj_cs 6 228 = some (0, 77, 1, 5, 1) := by decide +kernel
theorem cx_5_19 : mj_cs 5 19 = some (0, 76, 1, 5, 1) := by decide +kernel
theorem cx_6_231 : mj_cs 6 231 = some (0, 105, 2, 6, 1) := by decide +kernel
theorem cx_6_235 : mj_cs 6 235 = some (0, 106, 2, 6, 1) := by decide +kernel
theorem cx_10_91 : mj_cs 10 91 = some (0, 107, 2, 6, 1) := by decide +kernel
theorem cx_6_238 : mj_cs 6 238 = some (0, 10, 2, 0, 1) := by decide +kernel
theorem cx_0_75 : mj_cs 0 75 = some (1, 21, 2, 100, 1) := by decide +kernel
theorem cx_10_95 : mj_cs 10 95 = some (0, 108, 2, 6, 1) := by decide +kernel
theorem cx_6_241 : mj_cs 6 241 = some (0, 109, 1, 6, 0) := by decide +kernel
theorem cx_6_244 : mj_cs 6 244 = some (0, 110, 0, 6, 1) := by decide +kernel
theorem cx_6_247 : mj_cs 6 247 = some (0, 111, 1, 6, 1) := by decide +kernel
theorem cx_10_99 : mj_cs 10 99 = some (0, 112, 2, 6, 1) := by decide +kernel
theorem cx_10_103 : mj_cs 10 103 = some (0, 113, 0, 6, 1) := by decide +kernel
theorem cx_10_108 : mj_cs 10 108 = some (0, 114, 2, 6, 1) := by decide +kernel
theorem cx_10_112 : mj_cs 10 112 = some (0, 115, 2, 6, 1) := by decide +kernel
theorem cx_6_250 : mj_cs 6 250 = some (1, 30, 1, 100, 1) := by decide +kernel
theorem cx_9_43 : mj_cs 9 43 = some (1, 29, 2, 100, 1) := by decide +kernel
theorem cx_9_31 : mj_cs 9 31 = some (1, 22, 1, 100, 1) := by decide +kernel
theorem cx_9_34 : mj_cs 9 34 = some (1, 23, 1, 100, 1) := by decide +kernel
theorem cx_9_37 : mj_cs 9 37 = some (1, 24, 1, 100, 1) := by decide +kernel
theorem cx_9_40 : mj_cs 9 40 = some (1, 25, 1, 100, 1) := by decide +kernel
theorem cx_6_253 : mj_cs 6 253 = some (1, 31, 1, 100, 1) := by decide +kernel
theorem cx_6_256 : mj_cs 6 256 = some (1, 32, 1, 100, 1) := by decide +kernel
theorem cx_6_259 : mj_cs 6 259 = some (1, 26, 1, 100, 1) := by decide +kernel
theorem cx_6_262 : mj_cs 6 262 = some (1, 27, 1, 100, 1) := by decide +kernel
theorem cx_6_265 : mj_cs 6 265 = some (1, 33, 1, 100, 1) := by decide +kernel
theorem cx_9_48 : mj_cs 9 48 = some (1, 230, 2, 100, 1) := by decide +kernel
theorem cx_10_116 : mj_cs 10 116 = some (0, 116, 2, 6, 1) := by decide +kernel
theorem cx_6_268 : mj_cs 6 268 = some (1, 28, 2, 100, 1) := by decide +kernel
theorem cx_9_25 : mj_cs 9 25 = some (1, 26, 1, 100, 1) := by decide +kernel
theorem cx_9_28 : mj_cs 9 28 = some (1, 27, 1, 100, 1) := by decide +kernel
theorem cx_10_120 : mj_cs 10 120 = some (0, 117, 2, 6, 1) := by decide +kernel
theorem cx_6_271 : mj_cs 6 271 = some (0, 66, 1, 3, 1) := by decide +kernel
theorem cx_10_124 : mj_cs 10 124 = some (0, 118, 1, 6, 1) := by decide +kernel
theorem cx_10_129 : mj_cs 10 129 = some (0, 119, 0, 6, 1) := by decide +kernel
theorem cx_10_133 : mj_cs 10 133 = some (0, 120, 0, 6, 1) := by decide +kernel
theorem cx_10_138 : mj_cs 10 138 = some (0, 121, 1, 6, 1) := by decide +kernel
theorem cx_10_142 : mj_cs 10 142 = some (0, 122, 1, 6, 1) := by decide +kernel
theorem cx_10_17 : mj_cs 10 17 = some (0, 141, 2, 7, 1) := by decide +kernel
theorem cx_7_90 : mj_cs 7 90 = some (1, 124, 3, 100, 1) := by decide +kernel
theorem cx_7_120 : mj_cs 7 120 = some (1, 130, 1, 100, 1) := by decide +kernel
theorem cx_10_22 : mj_cs 10 22 = some (0, 142, 3, 7, 1) := by decide +kernel
theorem cx_7_101 : mj_cs 7 101 = some (1, 135, 2, 100, 1) := by decide +kernel
theorem cx_10_26 : mj_cs 10 26 = some (0, 143, 3, 7, 1) := by decide +kernel
theorem cx_7_98 : mj_cs 7 98 = some (0, 132, 1, 7, 1) := by decide +kernel
theorem cx_7_94 : mj_cs 7 94 = some (0, 131, 1, 7, 1) := by decide +kernel
theorem cx_10_31 : mj_cs 10 31 = some (0, 145, 5, 7, 1) := by decide +kernel
theorem cx_7_127 : mj_cs 7 127 = some (0, 144, 1, 7, 0) := by decide +kernel
theorem cx_10_36 : mj_cs 10 36 = some (0, 168, 1, 7, 1) := by decide +kernel
theorem cx_7_214 : mj_cs 7 214 = some (0, 167, 1, 7, 0) := by decide +kernel
theorem cx_7_217 : mj_cs 7 217 = some (0, 166, 0, 7, 1) := by decide +kernel
theorem cx_7_137 : mj_cs 7 137 = some (0, 147, 0, 7, 1) := by decide +kernel
theorem cx_7_144 : mj_cs 7 144 = some (0, 149, 2, 7, 1) := by decide +kernel
theorem cx_7_193 : mj_cs 7 193 = some (0, 160, 0, 7, 1) := by decide +kernel
theorem cx_7_180 : mj_cs 7 180 = some (0, 158, 0, 7, 1) := by decide +kernel
theorem cx_7_171 : mj_cs 7 171 = some (0, 153, 1, 7, 1) := by decide +kernel
theorem cx_7_150 : mj_cs 7 150 = some (0, 148, 0, 7, 1) := by decide +kernel
theorem cx_7_174 : mj_cs 7 174 = some (0, 151, 0, 7, 1) := by decide +kernel
theorem cx_7_167 : mj_cs 7 167 = some (0, 152, 2, 7, 0) := by decide +kernel
theorem cx_7_177 : mj_cs 7 177 = some (1, 155, 1, 100, 1) := by decide +kernel
theorem cx_7_183 : mj_cs 7 183 = some (1, 156, 1, 100, 1) := by decide +kernel
theorem cx_7_186 : mj_cs 7 186 = some (0, 157, 1, 7, 0) := by decide +kernel
theorem cx_7_164 : mj_cs 7 164 = some (0, 154, 0, 7, 1) := by decide +kernel
theorem cx_7_190 : mj_cs 7 190 = some (0, 159, 1, 7, 1) := by decide +kernel
theorem cx_7_211 : mj_cs 7 211 = some (0, 165, 0, 7, 1) := by decide +kernel
theorem cx_7_199 : mj_cs 7 199 = some (0, 164, 0, 7, 1) := by decide +kernel
theorem cx_7_196 : mj_cs 7 196 = some (0, 161, 0, 7, 0) := by decide +kernel
theorem cx_7_202 : mj_cs 7 202 = some (0, 162, 1, 7, 0) := by decide +kernel
theorem cx_7_205 : mj_cs 7 205 = some (0, 163, 1, 7, 0) := by decide +kernel
theorem cx_7_220 : mj_cs 7 220 = some (0, 150, 1, 7, 1) := by decide +kernel
theorem cx_10_40 : mj_cs 10 40 = some (0, 176, 1, 7, 1) := by decide +kernel
theorem cx_7_248 : mj_cs 7 248 = some (0, 175, 0, 7, 1) := by decide +kernel
theorem cx_7_242 : mj_cs 7 242 = some (0, 173, 0, 7, 1) := by decide +kernel
theorem cx_7_233 : mj_cs 7 233 = some (0, 146, 1, 7, 1) := by decide +kernel
theorem cx_7_245 : mj_cs 7 245 = some (0, 174, 3, 7, 1) := by decide +kernel
theorem cx_10_44 : mj_cs 10 44 = some (0, 184, 1, 7, 1) := by decide +kernel
theorem cx_7_275 : mj_cs 7 275 = some (1, 129, 2, 100, 0) := by decide +kernel
theorem cx_7_279 : mj_cs 7 279 = some (0, 183, 0, 7, 1) := by decide +kernel
theorem cx_7_105 : mj_cs 7 105 = some (0, 136, 2, 7, 1) := by decide +kernel
theorem cx_7_269 : mj_cs 7 269 = some (1, 182, 1, 100, 1) := by decide +kernel
theorem cx_7_272 : mj_cs 7 272 = some (1, 181, 2, 100, 1) := by decide +kernel
theorem cx_7_260 : mj_cs 7 260 = some (1, 180, 2, 100, 1) := by decide +kernel
theorem cx_7_254 : mj_cs 7 254 = some (1, 127, 2, 100, 1) := by decide +kernel
theorem cx_7_263 : mj_cs 7 263 = some (1, 178, 1, 100, 1) := by decide +kernel
theorem cx_7_257 : mj_cs 7 257 = some (1, 177, 2, 100, 1) := by decide +kernel
theorem cx_10_48 : mj_cs 10 48 = some (0, 190, 1, 7, 1) := by decide +kernel
theorem cx_7_317 : mj_cs 7 317 = some (0, 189, 1, 7, 0) := by decide +kernel
theorem cx_7_314 : mj_cs 7 314 = some (0, 188, 0, 7, 0) := by decide +kernel
theorem cx_7_305 : mj_cs 7 305 = some (0, 139, 1, 7, 1) := by decide +kernel
theorem cx_7_115 : mj_cs 7 115 = some (0, 138, 2, 7, 1) := by decide +kernel
theorem cx_7_112 : mj_cs 7 112 = some (0, 137, 1, 7, 1) := by decide +kernel
theorem cx_7_108 : mj_cs 7 108 = some (1, 128, 1, 100, 1) := by decide +kernel
theorem cx_7_283 : mj_cs 7 283 = some (0, 186, 4, 7, 0) := by decide +kernel
theorem cx_7_290 : mj_cs 7 290 = some (0, 171, 2, 7, 1) := by decide +kernel
theorem cx_7_230 : mj_cs 7 230 = some (0, 170, 2, 7, 1) := by decide +kernel
theorem cx_7_226 : mj_cs 7 226 = some (1, 169, 3, 100, 1) := by decide +kernel
theorem cx_7_308 : mj_cs 7 308 = some (1, 125, 2, 100, 1) := by decide +kernel
theorem cx_7_311 : mj_cs 7 311 = some (0, 187, 2, 7, 0) := by decide +kernel
theorem cx_7_287 : mj_cs 7 287 = some (0, 172, 1, 7, 1) := by decide +kernel
theorem cx_7_296 : mj_cs 7 296 = some (0, 185, 0, 7, 1) := by decide +kernel
theorem cx_10_53 : mj_cs 10 53 = some (0, 192, 2, 7, 1) := by decide +kernel
theorem cx_7_320 : mj_cs 7 320 = some (0, 191, 0, 7, 1) := by decide +kernel
theorem cx_10_57 : mj_cs 10 57 = some (0, 193, 2, 7, 1) := by decide +kernel
theorem cx_7_323 : mj_cs 7 323 = some (0, 140, 1, 7, 1) := by decide +kernel
theorem cx_10_61 : mj_cs 10 61 = some (0, 194, 2, 7, 1) := by decide +kernel
theorem cx_10_65 : mj_cs 10 65 = some (0, 195, 1, 7, 1) := by decide +kernel
theorem cx_10_69 : mj_cs 10 69 = some (0, 196, 1, 7, 1) := by decide +kernel
theorem cx_10_73 : mj_cs 10 73 = some (0, 197, 2, 7, 1) := by decide +kernel
theorem cx_10_77 : mj_cs 10 77 = some (0, 198, 2, 7, 1) := by decide +kernel
theorem cx_10_81 : mj_cs 10 81 = some (0, 199, 2, 7, 1) := by decide +kernel
theorem cx_10_86 : mj_cs 10 86 = some (0, 201, 3, 7, 1) := by decide +kernel
theorem cx_7_332 : mj_cs 7 332 = some (0, 200, 3, 7, 0) := by decide +kernel
theorem cx_10_90 : mj_cs 10 90 = some (0, 203, 2, 7, 1) := by decide +kernel
theorem cx_7_336 : mj_cs 7 336 = some (0, 133, 0, 7, 1) := by decide +kernel
theorem cx_7_339 : mj_cs 7 339 = some (0, 134, 0, 7, 1) := by decide +kernel
theorem cx_7_342 : mj_cs 7 342 = some (0, 202, 1, 7, 1) := by decide +kernel
theorem cx_10_94 : mj_cs 10 94 = some (0, 205, 2, 7, 1) := by decide +kernel
theorem cx_7_345 : mj_cs 7 345 = some (0, 204, 2, 7, 1) := by decide +kernel
theorem cx_10_98 : mj_cs 10 98 = some (0, 207, 2, 7, 1) := by decide +kernel
theorem cx_7_348 : mj_cs 7 348 = some (0, 206, 2, 7, 1) := by decide +kernel
theorem cx_10_102 : mj_cs 10 102 = some (0, 208, 2, 7, 1) := by decide +kernel
theorem cx_10_107 : mj_cs 10 107 = some (0, 209, 0, 7, 1) := by decide +kernel
theorem cx_10_111 : mj_cs 10 111 = some (0, 210, 2, 7, 1) := by decide +kernel
theorem cx_10_115 : mj_cs 10 115 = some (0, 220, 2, 7, 1) := by decide +kernel
theorem cx_7_371 : mj_cs 7 371 = some (1, 214, 1, 100, 1) := by decide +kernel
theorem cx_7_355 : mj_cs 7 355 = some (1, 211, 3, 100, 1) := by decide +kernel
theorem cx_7_351 : mj_cs 7 351 = some (1, 212, 3, 100, 1) := by decide +kernel
theorem cx_7_359 : mj_cs 7 359 = some (1, 213, 1, 100, 1) := by decide +kernel
theorem cx_7_374 : mj_cs 7 374 = some (1, 215, 1, 100, 1) := by decide +kernel
theorem cx_7_377 : mj_cs 7 377 = some (1, 217, 1, 100, 1) := by decide +kernel
theorem cx_7_362 : mj_cs 7 362 = some (1, 216, 3, 100, 1) := by decide +kernel
theorem cx_7_365 : mj_cs 7 365 = some (1, 126, 2, 100, 1) := by decide +kernel
theorem cx_7_380 : mj_cs 7 380 = some (1, 179, 1, 100, 1) := by decide +kernel
theorem cx_7_383 : mj_cs 7 383 = some (1, 219, 1, 100, 1) := by decide +kernel
theorem cx_7_368 : mj_cs 7 368 = some (1, 218, 2, 100, 1) := by decide +kernel
theorem cx_10_119 : mj_cs 10 119 = some (0, 221, 2, 7, 1) := by decide +kernel
theorem cx_10_123 : mj_cs 10 123 = some (0, 223, 2, 7, 1) := by decide +kernel
theorem cx_7_386 : mj_cs 7 386 = some (0, 222, 1, 7, 1) := by decide +kernel
theorem cx_10_128 : mj_cs 10 128 = some (0, 224, 1, 7, 1) := by decide +kernel
theorem cx_10_132 : mj_cs 10 132 = some (0, 225, 0, 7, 1) := by decide +kernel
theorem cx_10_137 : mj_cs 10 137 = some (0, 226, 0, 7, 1) := by decide +kernel
theorem cx_10_141 : mj_cs 10 141 = some (0, 227, 1, 7, 1) := by decide +kernel
theorem cx_10_145 : mj_cs 10 145 = some (0, 228, 1, 7, 1) := by decide +kernel
theorem cn_14_640 : mj_cT 14 640 = none := by decide +kernel
theorem gs_14_38 : mj_sT 14 38 = true := by decide +kernel
theorem oc_73 : mj_ocl 73 = 14 := rfl
theorem bl_50 : mj_bln 50 = 260 := rfl
theorem bl_74 : mj_bln 74 = 9 := rfl
theorem fx_3_9 : mj_fT 3 9 = some (3, 0, 1) := by decide +kernel
theorem fx_0_56 : mj_fT 0 56 = some (3, 0, 1) := by decide +kernel
theorem fx_6_178 : mj_fT 6 178 = some (3, 0, 1) := by decide +kernel
theorem fx_3_15 : mj_fT 3 15 = some (3, 1, 0) := by decide +kernel
theorem fx_6_224 : mj_fT 6 224 = some (3, 1, 0) := by decide +kernel
theorem fx_0_31 : mj_fT 0 31 = some (0, 0, 1) := by decide +kernel
theorem fx_8_46 : mj_fT 8 46 = some (0, 0, 1) := by decide +kernel
theorem fx_0_9 : mj_fT 0 9 = some (0, 1, 1) := by decide +kernel
theorem fx_6_165 : mj_fT 6 165 = some (0, 1, 1) := by decide +kernel
theorem fx_0_15 : mj_fT 0 15 = some (0, 2, 1) := by decide +kernel
theorem fx_6_162 : mj_fT 6 162 = some (0, 2, 1) := by decide +kernel
theorem fx_0_18 : mj_fT 0 18 = some (0, 3, 1) := by decide +kernel
theorem fx_0_21 : mj_fT 0 21 = some (0, 4, 1) := by decide +kernel
theorem fx_0_24 : mj_fT 0 24 = some (0, 5, 1) := by decide +kernel
theorem fx_6_159 : mj_fT 6 159 = some (0, 5, 1) := by decide +kernel
theorem fx_0_47 : mj_fT 0 47 = some (0, 6, 0) := by decide +kernel
theorem fx_6_227 : mj_fT 6 227 = some (0, 6, 0) := by decide +kernel
theorem fx_0_50 : mj_fT 0 50 = some (0, 7, 0) := by decide +kernel
theorem fx_6_278 : mj_fT 6 278 = some (0, 7, 0) := by decide +kernel
theorem fx_0_27 : mj_fT 0 27 = some (0, 8, 0) := by decide +kernel
theorem fx_6_275 : mj_fT 6 275 = some (0, 8, 0) := by decide +kernel
theorem fx_6_133 : mj_fT 6 133 = some (0, 9, 0) := by decide +kernel
theorem fx_0_91 : mj_fT 0 91 = some (0, 9, 0) := by decide +kernel
theorem fx_6_139 : mj_fT 6 139 = some (0, 10, 0) := by decide +kernel
theorem fx_0_94 : mj_fT 0 94 = some (0, 10, 0) := by decide +kernel
theorem fx_6_142 : mj_fT 6 142 = some (0, 11, 0) := by decide +kernel
theorem fx_0_97 : mj_fT 0 97 = some (0, 11, 0) := by decide +kernel
theorem fx_5_11 : mj_fT 5 11 = some (5, 0, 1) := by decide +kernel
theorem fx_5_15 : mj_fT 5 15 = some (5, 1, 0) := by decide +kernel
theorem fx_6_100 : mj_fT 6 100 = some (5, 1, 0) := by decide +kernel
theorem fx_4_9 : mj_fT 4 9 = some (4, 0, 1) := by decide +kernel
theorem fx_6_188 : mj_fT 6 188 = some (4, 0, 1) := by decide +kernel
theorem fx_4_15 : mj_fT 4 15 = some (4, 1, 1) := by decide +kernel
theorem fx_4_18 : mj_fT 4 18 = some (4, 2, 1) := by decide +kernel
theorem fx_4_21 : mj_fT 4 21 = some (4, 3, 1) := by decide +kernel
theorem fx_4_61 : mj_fT 4 61 = some (4, 4, 0) := by decide +kernel
theorem fx_6_187 : mj_fT 6 187 = some (4, 4, 0) := by decide +kernel
theorem fx_4_24 : mj_fT 4 24 = some (4, 5, 0) := by decide +kernel
theorem fx_4_28 : mj_fT 4 28 = some (4, 6, 0) := by decide +kernel
theorem fx_1_11 : mj_fT 1 11 = some (1, 0, 1) := by decide +kernel
theorem fx_1_15 : mj_fT 1 15 = some (1, 1, 1) := by decide +kernel
theorem fx_1_18 : mj_fT 1 18 = some (1, 2, 1) := by decide +kernel
theorem fx_1_21 : mj_fT 1 21 = some (1, 3, 1) := by decide +kernel
theorem fx_1_24 : mj_fT 1 24 = some (1, 4, 1) := by decide +kernel
theorem fx_1_27 : mj_fT 1 27 = some (1, 5, 1) := by decide +kernel
theorem fx_1_47 : mj_fT 1 47 = some (1, 6, 0) := by decide +kernel
theorem fx_2_62 : mj_fT 2 62 = some (1, 6, 0) := by decide +kernel
theorem fx_2_38 : mj_fT 2 38 = some (1, 7, 0) := by decide +kernel
theorem fx_1_30 : mj_fT 1 30 = some (1, 7, 0) := by decide +kernel
theorem fx_6_281 : mj_fT 6 281 = some (1, 7, 0) := by decide +kernel
theorem fx_2_18 : mj_fT 2 18 = some (2, 0, 1) := by decide +kernel
theorem fx_2_12 : mj_fT 2 12 = some (2, 1, 2) := by decide +kernel
theorem fx_2_22 : mj_fT 2 22 = some (2, 2, 0) := by decide +kernel
theorem fx_2_26 : mj_fT 2 26 = some (2, 3, 0) := by decide +kernel
theorem fx_2_29 : mj_fT 2 29 = some (2, 4, 0) := by decide +kernel
theorem fx_6_10 : mj_fT 6 10 = some (6, 0, 1) := by decide +kernel
theorem fx_6_21 : mj_fT 6 21 = some (6, 1, 1) := by decide +kernel
theorem fx_6_25 : mj_fT 6 25 = some (6, 2, 1) := by decide +kernel
theorem fx_6_28 : mj_fT 6 28 = some (6, 3, 1) := by decide +kernel
theorem fx_6_34 : mj_fT 6 34 = some (6, 4, 1) := by decide +kernel
theorem fx_6_41 : mj_fT 6 41 = some (6, 5, 1) := by decide +kernel
theorem fx_6_50 : mj_fT 6 50 = some (6, 6, 1) := by decide +kernel
theorem fx_6_54 : mj_fT 6 54 = some (6, 7, 1) := by decide +kernel
theorem fx_6_58 : mj_fT 6 58 = some (6, 8, 1) := by decide +kernel
theorem fx_6_64 : mj_fT 6 64 = some (6, 9, 2) := by decide +kernel
theorem fx_6_68 : mj_fT 6 68 = some (6, 10, 3) := by decide +kernel
theorem fx_7_7 : mj_fT 7 7 = some (7, 0, 1) := by decide +kernel
theorem fx_7_13 : mj_fT 7 13 = some (7, 1, 1) := by decide +kernel
theorem fx_7_16 : mj_fT 7 16 = some (7, 2, 1) := by decide +kernel
theorem fx_7_19 : mj_fT 7 19 = some (7, 3, 1) := by decide +kernel
theorem fx_7_22 : mj_fT 7 22 = some (7, 4, 1) := by decide +kernel
theorem fx_7_123 : mj_fT 7 123 = some (7, 5, 0) := by decide +kernel
theorem fx_7_131 : mj_fT 7 131 = some (7, 6, 0) := by decide +kernel
theorem fx_7_134 : mj_fT 7 134 = some (7, 7, 0) := by decide +kernel
theorem fx_7_141 : mj_fT 7 141 = some (7, 8, 0) := by decide +kernel
theorem fx_7_147 : mj_fT 7 147 = some (7, 9, 0) := by decide +kernel
theorem fx_7_158 : mj_fT 7 158 = some (7, 10, 0) := by decide +kernel
theorem fx_7_154 : mj_fT 7 154 = some (7, 11, 0) := by decide +kernel
theorem fx_7_161 : mj_fT 7 161 = some (7, 12, 0) := by decide +kernel
theorem fx_7_208 : mj_fT 7 208 = some (7, 13, 0) := by decide +kernel
theorem fx_7_223 : mj_fT 7 223 = some (7, 14, 0) := by decide +kernel
theorem fx_7_26 : mj_fT 7 26 = some (7, 15, 1) := by decide +kernel
theorem fx_7_29 : mj_fT 7 29 = some (7, 16, 1) := by decide +kernel
theorem fx_7_32 : mj_fT 7 32 = some (7, 17, 1) := by decide +kernel
theorem fx_7_35 : mj_fT 7 35 = some (7, 18, 1) := by decide +kernel
theorem fx_7_38 : mj_fT 7 38 = some (7, 19, 1) := by decide +kernel
theorem fx_7_41 : mj_fT 7 41 = some (7, 20, 1) := by decide +kernel
theorem fx_7_44 : mj_fT 7 44 = some (7, 21, 1) := by decide +kernel
theorem fx_7_47 : mj_fT 7 47 = some (7, 22, 1) := by decide +kernel
theorem fx_7_50 : mj_fT 7 50 = some (7, 23, 1) := by decide +kernel
theorem fx_7_53 : mj_fT 7 53 = some (7, 24, 1) := by decide +kernel
theorem fx_7_56 : mj_fT 7 56 = some (7, 25, 1) := by decide +kernel
theorem fx_7_59 : mj_fT 7 59 = some (7, 26, 1) := by decide +kernel
theorem fx_7_62 : mj_fT 7 62 = some (7, 27, 1) := by decide +kernel
theorem fx_7_65 : mj_fT 7 65 = some (7, 28, 1) := by decide +kernel
theorem fx_7_68 : mj_fT 7 68 = some (7, 29, 1) := by decide +kernel
theorem fx_7_71 : mj_fT 7 71 = some (7, 30, 1) := by decide +kernel
theorem fx_7_74 : mj_fT 7 74 = some (7, 31, 1) := by decide +kernel
theorem fx_7_251 : mj_fT 7 251 = some (7, 32, 0) := by decide +kernel
theorem fx_7_236 : mj_fT 7 236 = some (7, 33, 0) := by decide +kernel
theorem fx_7_239 : mj_fT 7 239 = some (7, 34, 0) := by decide +kernel
theorem fx_7_266 : mj_fT 7 266 = some (7, 35, 0) := by decide +kernel
theorem fx_7_77 : mj_fT 7 77 = some (7, 36, 1) := by decide +kernel
theorem fx_7_299 : mj_fT 7 299 = some (7, 37, 0) := by decide +kernel
theorem fx_7_302 : mj_fT 7 302 = some (7, 38, 0) := by decide +kernel
theorem fx_7_293 : mj_fT 7 293 = some (7, 39, 0) := by decide +kernel
theorem fx_7_80 : mj_fT 7 80 = some (7, 40, 1) := by decide +kernel
theorem fx_7_329 : mj_fT 7 329 = some (7, 41, 0) := by decide +kernel
theorem fx_7_326 : mj_fT 7 326 = some (7, 42, 0) := by decide +kernel
theorem fx_7_83 : mj_fT 7 83 = some (7, 43, 1) := by decide +kernel
theorem fx_7_86 : mj_fT 7 86 = some (7, 44, 1) := by decide +kernel
theorem fx_7_390 : mj_fT 7 390 = some (7, 45, 3) := by decide +kernel
theorem fx_14_15 : mj_fT 14 15 = some (14, 0, 5) := by decide +kernel
theorem fx_14_9 : mj_fT 14 9 = some (14, 1, 4) := by decide +kernel
theorem kx_9_11 : mj_kT 9 11 = some 33554431 := by decide +kernel
theorem kx_8_55 : mj_kT 8 55 = some 33554431 := by decide +kernel
theorem kx_9_18 : mj_kT 9 18 = some (-1082402) := by decide +kernel
theorem kx_9_19 : mj_kT 9 19 = some (-17318417) := by decide +kernel
theorem kx_9_20 : mj_kT 9 20 = some 1082401 := by decide +kernel
theorem kx_9_21 : mj_kT 9 21 = some 2164802 := by decide +kernel
theorem kx_9_22 : mj_kT 9 22 = some 4329604 := by decide +kernel
theorem kx_9_23 : mj_kT 9 23 = some 8659208 := by decide +kernel
theorem kx_9_24 : mj_kT 9 24 = some 17318416 := by decide +kernel
theorem kx_11_265 : mj_kT 11 265 = some 1431655765 := by decide +kernel
theorem kx_11_266 : mj_kT 11 266 = some 858993459 := by decide +kernel
theorem kx_11_267 : mj_kT 11 267 = some 252645135 := by decide +kernel
theorem kx_0_148 : mj_kT 0 148 = some 65535 := by decide +kernel
theorem kx_3_21 : mj_kT 3 21 = some 2147483647 := by decide +kernel
theorem kx_6_234 : mj_kT 6 234 = some 2147483647 := by decide +kernel
theorem kx_9_47 : mj_kT 9 47 = some 33080895 := by decide +kernel
theorem kx_6_274 : mj_kT 6 274 = some 65535 := by decide +kernel
theorem kx_7_89 : mj_kT 7 89 = some 33554431 := by decide +kernel
theorem kx_7_157 : mj_kT 7 157 = some 1048576 := by decide +kernel
theorem kx_7_282 : mj_kT 7 282 = some 65536 := by decide +kernel
theorem kx_7_119 : mj_kT 7 119 = some 1000000 := by decide +kernel
theorem kx_7_389 : mj_kT 7 389 = some 65535 := by decide +kernel
theorem kx_str : mj_kT 2 104 = none := by decide +kernel
theorem oc_0 : mj_ocl 0 = 6 := rfl
theorem oc_1 : mj_ocl 1 = 3 := rfl
theorem ia_2 : mj_ial 2 = 8 := rfl
theorem oc_3 : mj_ocl 3 = 0 := rfl
theorem ia_4 : mj_ial 4 = 10 := rfl
theorem ia_5 : mj_ial 5 = 10 := rfl
theorem ia_6 : mj_ial 6 = 80 := rfl
theorem ia_7 : mj_ial 7 = 10 := rfl
theorem ia_8 : mj_ial 8 = 10 := rfl
theorem oc_9 : mj_ocl 9 = 0 := rfl
theorem ia_10 : mj_ial 10 = 10 := rfl
theorem ia_11 : mj_ial 11 = 10 := rfl
theorem ia_12 : mj_ial 12 = 80 := rfl
theorem ia_13 : mj_ial 13 = 10 := rfl
theorem ia_14 : mj_ial 14 = 10 := rfl
theorem oc_15 : mj_ocl 15 = 0 := rfl
theorem ia_16 : mj_ial 16 = 10 := rfl
theorem ia_17 : mj_ial 17 = 10 := rfl
theorem ia_18 : mj_ial 18 = 80 := rfl
theorem ia_19 : mj_ial 19 = 10 := rfl
theorem ia_20 : mj_ial 20 = 10 := rfl
theorem oc_21 : mj_ocl 21 = 5 := rfl
theorem ia_22 : mj_ial 22 = 260 := rfl
theorem oc_23 : mj_ocl 23 = 4 := rfl
theorem ia_24 : mj_ial 24 = 60 := rfl
theorem ia_25 : mj_ial 25 = 60 := rfl
theorem ia_26 : mj_ial 26 = 2 := rfl
theorem ia_27 : mj_ial 27 = 2 := rfl
theorem oc_28 : mj_ocl 28 = 2 := rfl
theorem oc_29 : mj_ocl 29 = 1 := rfl
theorem ia_30 : mj_ial 30 = 480 := rfl
theorem ia_31 : mj_ial 31 = 32 := rfl
theorem ia_32 : mj_ial 32 = 9 := rfl
theorem ia_33 : mj_ial 33 = 16 := rfl
theorem ia_34 : mj_ial 34 = 16 := rfl
theorem ia_35 : mj_ial 35 = 16 := rfl
theorem ia_36 : mj_ial 36 = 10 := rfl
theorem ia_37 : mj_ial 37 = 60 := rfl
theorem oc_38 : mj_ocl 38 = 1 := rfl
theorem ia_39 : mj_ial 39 = 480 := rfl
theorem ia_40 : mj_ial 40 = 32 := rfl
theorem ia_41 : mj_ial 41 = 9 := rfl
theorem ia_42 : mj_ial 42 = 16 := rfl
theorem ia_43 : mj_ial 43 = 16 := rfl
theorem ia_44 : mj_ial 44 = 16 := rfl
theorem oc_45 : mj_ocl 45 = 7 := rfl
theorem ia_46 : mj_ial 46 = 112 := rfl
theorem ia_47 : mj_ial 47 = 112 := rfl
theorem ia_48 : mj_ial 48 = 112 := rfl
theorem ia_49 : mj_ial 49 = 8 := rfl
theorem ba_50 : mj_bal 50 = 260 := rfl
theorem ia_51 : mj_ial 51 = 260 := rfl
theorem ia_52 : mj_ial 52 = 260 := rfl
theorem ia_53 : mj_ial 53 = 16 := rfl
theorem ia_54 : mj_ial 54 = 16 := rfl
theorem ia_55 : mj_ial 55 = 16 := rfl
theorem ia_56 : mj_ial 56 = 16 := rfl
theorem ia_57 : mj_ial 57 = 260 := rfl
theorem ia_58 : mj_ial 58 = 16 := rfl
theorem ia_59 : mj_ial 59 = 16 := rfl
theorem ia_60 : mj_ial 60 = 16 := rfl
theorem ia_61 : mj_ial 61 = 16 := rfl
theorem ia_62 : mj_ial 62 = 260 := rfl
theorem ia_63 : mj_ial 63 = 9 := rfl
theorem ia_64 : mj_ial 64 = 60 := rfl
theorem ia_65 : mj_ial 65 = 60 := rfl
theorem ia_66 : mj_ial 66 = 2 := rfl
theorem ia_67 : mj_ial 67 = 2 := rfl
theorem ia_68 : mj_ial 68 = 10 := rfl
theorem ia_69 : mj_ial 69 = 60 := rfl
theorem ia_70 : mj_ial 70 = 8 := rfl
theorem ia_71 : mj_ial 71 = 10 := rfl
theorem rb_0_0 : mj_rf 0 0 = 1 := rfl
theorem rb_0_1 : mj_rf 0 1 = 3 := rfl
theorem rb_0_2 : mj_rf 0 2 = 9 := rfl
theorem rb_0_3 : mj_rf 0 3 = 15 := rfl
theorem rb_0_4 : mj_rf 0 4 = 21 := rfl
theorem rb_0_5 : mj_rf 0 5 = 23 := rfl
theorem rb_0_6 : mj_rf 0 6 = 28 := rfl
theorem rb_0_7 : mj_rf 0 7 = 36 := rfl
theorem rb_0_8 : mj_rf 0 8 = 37 := rfl
theorem rb_1_0 : mj_rf 1 0 = 2 := rfl
theorem rb_3_0 : mj_rf 3 0 = 1 := rfl
theorem rb_3_1 : mj_rf 3 1 = 4 := rfl
theorem rb_3_2 : mj_rf 3 2 = 5 := rfl
theorem rb_3_3 : mj_rf 3 3 = 6 := rfl
theorem rb_3_4 : mj_rf 3 4 = 7 := rfl
theorem rb_3_5 : mj_rf 3 5 = 8 := rfl
theorem rb_9_0 : mj_rf 9 0 = 1 := rfl
theorem rb_9_1 : mj_rf 9 1 = 10 := rfl
theorem rb_9_2 : mj_rf 9 2 = 11 := rfl
theorem rb_9_3 : mj_rf 9 3 = 12 := rfl
theorem rb_9_4 : mj_rf 9 4 = 13 := rfl
theorem rb_9_5 : mj_rf 9 5 = 14 := rfl
theorem rb_15_0 : mj_rf 15 0 = 1 := rfl
theorem rb_15_1 : mj_rf 15 1 = 16 := rfl
theorem rb_15_2 : mj_rf 15 2 = 17 := rfl
theorem rb_15_3 : mj_rf 15 3 = 18 := rfl
theorem rb_15_4 : mj_rf 15 4 = 19 := rfl
theorem rb_15_5 : mj_rf 15 5 = 20 := rfl
theorem rb_21_0 : mj_rf 21 0 = 22 := rfl
theorem rb_23_0 : mj_rf 23 0 = 24 := rfl
theorem rb_23_1 : mj_rf 23 1 = 25 := rfl
theorem rb_23_2 : mj_rf 23 2 = 26 := rfl
theorem rb_23_3 : mj_rf 23 3 = 27 := rfl
theorem rb_28_0 : mj_rf 28 0 = 21 := rfl
theorem rb_29_0 : mj_rf 29 0 = 30 := rfl
theorem rb_29_1 : mj_rf 29 1 = 31 := rfl
theorem rb_29_2 : mj_rf 29 2 = 32 := rfl
theorem rb_29_3 : mj_rf 29 3 = 33 := rfl
theorem rb_29_4 : mj_rf 29 4 = 34 := rfl
theorem rb_29_5 : mj_rf 29 5 = 35 := rfl
theorem rb_38_0 : mj_rf 38 0 = 39 := rfl
theorem rb_38_1 : mj_rf 38 1 = 40 := rfl
theorem rb_38_2 : mj_rf 38 2 = 41 := rfl
theorem rb_38_3 : mj_rf 38 3 = 42 := rfl
theorem rb_38_4 : mj_rf 38 4 = 43 := rfl
theorem rb_38_5 : mj_rf 38 5 = 44 := rfl
theorem rb_45_0 : mj_rf 45 0 = 46 := rfl
theorem rb_45_1 : mj_rf 45 1 = 47 := rfl
theorem rb_45_2 : mj_rf 45 2 = 48 := rfl
theorem rb_45_3 : mj_rf 45 3 = 49 := rfl
theorem rb_45_4 : mj_rf 45 4 = 50 := rfl
theorem rb_45_15 : mj_rf 45 15 = 51 := rfl
theorem rb_45_16 : mj_rf 45 16 = 52 := rfl
theorem rb_45_17 : mj_rf 45 17 = 53 := rfl
theorem rb_45_18 : mj_rf 45 18 = 54 := rfl
theorem rb_45_19 : mj_rf 45 19 = 55 := rfl
theorem rb_45_20 : mj_rf 45 20 = 56 := rfl
theorem rb_45_21 : mj_rf 45 21 = 57 := rfl
theorem rb_45_22 : mj_rf 45 22 = 58 := rfl
theorem rb_45_23 : mj_rf 45 23 = 59 := rfl
theorem rb_45_24 : mj_rf 45 24 = 60 := rfl
theorem rb_45_25 : mj_rf 45 25 = 61 := rfl
theorem rb_45_26 : mj_rf 45 26 = 62 := rfl
theorem rb_45_27 : mj_rf 45 27 = 63 := rfl
theorem rb_45_28 : mj_rf 45 28 = 64 := rfl
theorem rb_45_29 : mj_rf 45 29 = 65 := rfl
theorem rb_45_30 : mj_rf 45 30 = 66 := rfl
theorem rb_45_31 : mj_rf 45 31 = 67 := rfl
theorem rb_45_36 : mj_rf 45 36 = 68 := rfl
theorem rb_45_40 : mj_rf 45 40 = 69 := rfl
theorem rb_45_43 : mj_rf 45 43 = 70 := rfl
theorem rb_45_44 : mj_rf 45 44 = 71 := rfl
theorem mj_ocl_lt {a : Nat} (h : mj_ocl a ≠ 100) : a < 75 := by
  rcases Nat.lt_or_ge a 75 with q | q
  · exact q
  · exact absurd (show mj_ocl a = 100 from by
      unfold mj_ocl
      rw [List.getD_eq_getElem?_getD, List.getElem?_eq_none (by exact q)]
      rfl) h
theorem mj_court : ∀ a, a < 75 → mj_ocl a = 0 → a = 3 ∨ a = 9 ∨ a = 15 := by decide +kernel
theorem mj_lawc : ∀ a, a < 75 → mj_ocl a = 1 → a = 29 ∨ a = 38 := by decide +kernel
theorem mj_courtE {a : Nat} (h : mj_ocl a = 0) : a = 3 ∨ a = 9 ∨ a = 15 := mj_court a (mj_ocl_lt (by rw [h]; decide)) h
theorem mj_lawE {a : Nat} (h : mj_ocl a = 1) : a = 29 ∨ a = 38 := mj_lawc a (mj_ocl_lt (by rw [h]; decide)) h
theorem oc_lw (x : Int32) : mj_ocl (mj_lw x) = 1 := by
  unfold mj_lw
  split <;> rfl
theorem rbC_0 {c : Nat} (h : mj_ocl c = 0) : mj_rf c 0 = 1 := by rcases mj_courtE h with rfl | rfl | rfl <;> rfl
theorem rbC_1 {c : Nat} (h : mj_ocl c = 0) : mj_rf c 1 = c + 1 := by rcases mj_courtE h with rfl | rfl | rfl <;> rfl
theorem iaC_1 {c : Nat} (h : mj_ocl c = 0) : mj_ial (c + 1) = 10 := by rcases mj_courtE h with rfl | rfl | rfl <;> rfl
theorem naC_1 {c : Nat} (h : mj_ocl c = 0) : ¬ c + 1 = 72 := by rcases mj_courtE h with rfl | rfl | rfl <;> decide
theorem rbC_2 {c : Nat} (h : mj_ocl c = 0) : mj_rf c 2 = c + 2 := by rcases mj_courtE h with rfl | rfl | rfl <;> rfl
theorem iaC_2 {c : Nat} (h : mj_ocl c = 0) : mj_ial (c + 2) = 10 := by rcases mj_courtE h with rfl | rfl | rfl <;> rfl
theorem naC_2 {c : Nat} (h : mj_ocl c = 0) : ¬ c + 2 = 72 := by rcases mj_courtE h with rfl | rfl | rfl <;> decide
theorem rbC_3 {c : Nat} (h : mj_ocl c = 0) : mj_rf c 3 = c + 3 := by rcases mj_courtE h with rfl | rfl | rfl <;> rfl
theorem iaC_3 {c : Nat} (h : mj_ocl c = 0) : mj_ial (c + 3) = 80 := by rcases mj_courtE h with rfl | rfl | rfl <;> rfl
theorem naC_3 {c : Nat} (h : mj_ocl c = 0) : ¬ c + 3 = 72 := by rcases mj_courtE h with rfl | rfl | rfl <;> decide
theorem rbC_4 {c : Nat} (h : mj_ocl c = 0) : mj_rf c 4 = c + 4 := by rcases mj_courtE h with rfl | rfl | rfl <;> rfl
theorem iaC_4 {c : Nat} (h : mj_ocl c = 0) : mj_ial (c + 4) = 10 := by rcases mj_courtE h with rfl | rfl | rfl <;> rfl
theorem naC_4 {c : Nat} (h : mj_ocl c = 0) : ¬ c + 4 = 72 := by rcases mj_courtE h with rfl | rfl | rfl <;> decide
theorem rbC_5 {c : Nat} (h : mj_ocl c = 0) : mj_rf c 5 = c + 5 := by rcases mj_courtE h with rfl | rfl | rfl <;> rfl
theorem iaC_5 {c : Nat} (h : mj_ocl c = 0) : mj_ial (c + 5) = 10 := by rcases mj_courtE h with rfl | rfl | rfl <;> rfl
theorem naC_5 {c : Nat} (h : mj_ocl c = 0) : ¬ c + 5 = 72 := by rcases mj_courtE h with rfl | rfl | rfl <;> decide
theorem rbL_0 {c : Nat} (h : mj_ocl c = 1) : mj_rf c 0 = c + 1 := by rcases mj_lawE h with rfl | rfl <;> rfl
theorem iaL_0 {c : Nat} (h : mj_ocl c = 1) : mj_ial (c + 1) = 480 := by rcases mj_lawE h with rfl | rfl <;> rfl
theorem naL_0 {c : Nat} (h : mj_ocl c = 1) : ¬ c + 1 = 72 := by rcases mj_lawE h with rfl | rfl <;> decide
theorem rbL_1 {c : Nat} (h : mj_ocl c = 1) : mj_rf c 1 = c + 2 := by rcases mj_lawE h with rfl | rfl <;> rfl
theorem iaL_1 {c : Nat} (h : mj_ocl c = 1) : mj_ial (c + 2) = 32 := by rcases mj_lawE h with rfl | rfl <;> rfl
theorem naL_1 {c : Nat} (h : mj_ocl c = 1) : ¬ c + 2 = 72 := by rcases mj_lawE h with rfl | rfl <;> decide
theorem rbL_2 {c : Nat} (h : mj_ocl c = 1) : mj_rf c 2 = c + 3 := by rcases mj_lawE h with rfl | rfl <;> rfl
theorem iaL_2 {c : Nat} (h : mj_ocl c = 1) : mj_ial (c + 3) = 9 := by rcases mj_lawE h with rfl | rfl <;> rfl
theorem naL_2 {c : Nat} (h : mj_ocl c = 1) : ¬ c + 3 = 72 := by rcases mj_lawE h with rfl | rfl <;> decide
theorem rbL_3 {c : Nat} (h : mj_ocl c = 1) : mj_rf c 3 = c + 4 := by rcases mj_lawE h with rfl | rfl <;> rfl
theorem iaL_3 {c : Nat} (h : mj_ocl c = 1) : mj_ial (c + 4) = 16 := by rcases mj_lawE h with rfl | rfl <;> rfl
theorem naL_3 {c : Nat} (h : mj_ocl c = 1) : ¬ c + 4 = 72 := by rcases mj_lawE h with rfl | rfl <;> decide
theorem rbL_4 {c : Nat} (h : mj_ocl c = 1) : mj_rf c 4 = c + 5 := by rcases mj_lawE h with rfl | rfl <;> rfl
theorem iaL_4 {c : Nat} (h : mj_ocl c = 1) : mj_ial (c + 5) = 16 := by rcases mj_lawE h with rfl | rfl <;> rfl
theorem naL_4 {c : Nat} (h : mj_ocl c = 1) : ¬ c + 5 = 72 := by rcases mj_lawE h with rfl | rfl <;> decide
theorem rbL_5 {c : Nat} (h : mj_ocl c = 1) : mj_rf c 5 = c + 6 := by rcases mj_lawE h with rfl | rfl <;> rfl
theorem iaL_5 {c : Nat} (h : mj_ocl c = 1) : mj_ial (c + 6) = 16 := by rcases mj_lawE h with rfl | rfl <;> rfl
theorem naL_5 {c : Nat} (h : mj_ocl c = 1) : ¬ c + 6 = 72 := by rcases mj_lawE h with rfl | rfl <;> decide
end
section
set_option maxRecDepth 100000 in
theorem tq_0 : lw_tbl[607]? = some (.code mj_r0.2.2.2.2.1 mj_r0.2.1 mj_r0.2.2.1 mj_r0.2.2.2.1) := rfl
set_option maxRecDepth 100000 in
theorem tq_1 : lw_tbl[610]? = some (.code mj_r1.2.2.2.2.1 mj_r1.2.1 mj_r1.2.2.1 mj_r1.2.2.2.1) := rfl
set_option maxRecDepth 100000 in
theorem tq_2 : lw_tbl[617]? = some (.code mj_r2.2.2.2.2.1 mj_r2.2.1 mj_r2.2.2.1 mj_r2.2.2.2.1) := rfl
set_option maxRecDepth 100000 in
theorem tq_3 : lw_tbl[624]? = some (.code mj_r3.2.2.2.2.1 mj_r3.2.1 mj_r3.2.2.1 mj_r3.2.2.2.1) := rfl
set_option maxRecDepth 100000 in
theorem tq_4 : lw_tbl[603]? = some (.code mj_r4.2.2.2.2.1 mj_r4.2.1 mj_r4.2.2.1 mj_r4.2.2.2.1) := rfl
end
