section
/-- a private method of a class that the tables say can be made, by its rows of tables_1 -/
def lw_okq (q : MethodName × Nat) : Prop := (q.1.cls ≠ "java/lang/invoke/MethodHandle" ∧ q.1.cls ≠ "java/lang/invoke/VarHandle") ∧ Cond.instantiable q.1.cls q.2 ∈ tables_1 ∧ Cond.privateMethod q.1 ∈ tables_1 ∧ Cond.instanceMethod q.1 ∈ tables_1
theorem lw_p0 : lw_okq (⟨"BarredTurns$Page", "takes", "(I)Z"⟩, 7) := ⟨⟨by decide +kernel, by decide +kernel⟩, List.mem_of_getElem? (i := 22) (by decide +kernel), List.mem_of_getElem? (i := 253) (by decide +kernel), List.mem_of_getElem? (i := 254) (by decide +kernel)⟩
theorem lw_p1 : lw_okq (⟨"BarredTurns$Page", "takesBegin", "(I)Z"⟩, 7) := ⟨⟨by decide +kernel, by decide +kernel⟩, List.mem_of_getElem? (i := 22) (by decide +kernel), List.mem_of_getElem? (i := 257) (by decide +kernel), List.mem_of_getElem? (i := 258) (by decide +kernel)⟩
theorem lw_p2 : lw_okq (⟨"BarredTurns$Page", "takesEnd", "(I)Z"⟩, 7) := ⟨⟨by decide +kernel, by decide +kernel⟩, List.mem_of_getElem? (i := 22) (by decide +kernel), List.mem_of_getElem? (i := 264) (by decide +kernel), List.mem_of_getElem? (i := 265) (by decide +kernel)⟩
theorem lw_p3 : lw_okq (⟨"BarredTurns$Page", "takesFirstFigure", "(I)Z"⟩, 7) := ⟨⟨by decide +kernel, by decide +kernel⟩, List.mem_of_getElem? (i := 22) (by decide +kernel), List.mem_of_getElem? (i := 268) (by decide +kernel), List.mem_of_getElem? (i := 269) (by decide +kernel)⟩
theorem lw_p4 : lw_okq (⟨"BarredTurns$Page", "takesSecondFigure", "(I)Z"⟩, 7) := ⟨⟨by decide +kernel, by decide +kernel⟩, List.mem_of_getElem? (i := 22) (by decide +kernel), List.mem_of_getElem? (i := 272) (by decide +kernel), List.mem_of_getElem? (i := 273) (by decide +kernel)⟩
theorem lw_p5 : lw_okq (⟨"BarredTurns$Page", "takesComma", "(I)Z"⟩, 7) := ⟨⟨by decide +kernel, by decide +kernel⟩, List.mem_of_getElem? (i := 22) (by decide +kernel), List.mem_of_getElem? (i := 276) (by decide +kernel), List.mem_of_getElem? (i := 277) (by decide +kernel)⟩
theorem lw_p6 : lw_okq (⟨"BarredTurns$Net", "firstCost", "(II)I"⟩, 5) := ⟨⟨by decide +kernel, by decide +kernel⟩, List.mem_of_getElem? (i := 56) (by decide +kernel), List.mem_of_getElem? (i := 300) (by decide +kernel), List.mem_of_getElem? (i := 301) (by decide +kernel)⟩
theorem lw_p7 : lw_okq (⟨"BarredTurns$Ladder", "startAnew", "(LBarredTurns$Net;)V"⟩, 10) := ⟨⟨by decide +kernel, by decide +kernel⟩, List.mem_of_getElem? (i := 99) (by decide +kernel), List.mem_of_getElem? (i := 312) (by decide +kernel), List.mem_of_getElem? (i := 313) (by decide +kernel)⟩
theorem lw_p8 : lw_okq (⟨"BarredTurns$Ladder", "measureFree", "(LBarredTurns$Grid;I)V"⟩, 10) := ⟨⟨by decide +kernel, by decide +kernel⟩, List.mem_of_getElem? (i := 99) (by decide +kernel), List.mem_of_getElem? (i := 330) (by decide +kernel), List.mem_of_getElem? (i := 331) (by decide +kernel)⟩
theorem lw_p9 : lw_okq (⟨"BarredTurns$Ladder", "isFree", "(I)Z"⟩, 10) := ⟨⟨by decide +kernel, by decide +kernel⟩, List.mem_of_getElem? (i := 99) (by decide +kernel), List.mem_of_getElem? (i := 334) (by decide +kernel), List.mem_of_getElem? (i := 335) (by decide +kernel)⟩
theorem lw_p10 : lw_okq (⟨"BarredTurns$Grid", "shortenRow", "(IIII)V"⟩, 1) := ⟨⟨by decide +kernel, by decide +kernel⟩, List.mem_of_getElem? (i := 62) (by decide +kernel), List.mem_of_getElem? (i := 346) (by decide +kernel), List.mem_of_getElem? (i := 347) (by decide +kernel)⟩
theorem lw_p11 : lw_okq (⟨"BarredTurns$Ladder", "pickNext", "()I"⟩, 10) := ⟨⟨by decide +kernel, by decide +kernel⟩, List.mem_of_getElem? (i := 99) (by decide +kernel), List.mem_of_getElem? (i := 350) (by decide +kernel), List.mem_of_getElem? (i := 351) (by decide +kernel)⟩
theorem lw_p12 : lw_okq (⟨"BarredTurns$Ladder", "markNeeded", "(I)I"⟩, 10) := ⟨⟨by decide +kernel, by decide +kernel⟩, List.mem_of_getElem? (i := 99) (by decide +kernel), List.mem_of_getElem? (i := 354) (by decide +kernel), List.mem_of_getElem? (i := 355) (by decide +kernel)⟩
theorem lw_p13 : lw_okq (⟨"BarredTurns$Ladder", "isNeeded", "(III)Z"⟩, 10) := ⟨⟨by decide +kernel, by decide +kernel⟩, List.mem_of_getElem? (i := 99) (by decide +kernel), List.mem_of_getElem? (i := 358) (by decide +kernel), List.mem_of_getElem? (i := 359) (by decide +kernel)⟩
theorem lw_p14 : lw_okq (⟨"BarredTurns$Ladder", "countFreeArcs", "(I)I"⟩, 10) := ⟨⟨by decide +kernel, by decide +kernel⟩, List.mem_of_getElem? (i := 99) (by decide +kernel), List.mem_of_getElem? (i := 366) (by decide +kernel), List.mem_of_getElem? (i := 367) (by decide +kernel)⟩
theorem lw_p15 : lw_okq (⟨"BarredTurns$Ladder", "giveRank", "(II)V"⟩, 10) := ⟨⟨by decide +kernel, by decide +kernel⟩, List.mem_of_getElem? (i := 99) (by decide +kernel), List.mem_of_getElem? (i := 370) (by decide +kernel), List.mem_of_getElem? (i := 371) (by decide +kernel)⟩
def lw_privs_1 : List (MethodName × Nat) := [(⟨"BarredTurns$Page", "takes", "(I)Z"⟩, 7), (⟨"BarredTurns$Page", "takesBegin", "(I)Z"⟩, 7), (⟨"BarredTurns$Page", "takesEnd", "(I)Z"⟩, 7), (⟨"BarredTurns$Page", "takesFirstFigure", "(I)Z"⟩, 7), (⟨"BarredTurns$Page", "takesSecondFigure", "(I)Z"⟩, 7), (⟨"BarredTurns$Page", "takesComma", "(I)Z"⟩, 7), (⟨"BarredTurns$Net", "firstCost", "(II)I"⟩, 5), (⟨"BarredTurns$Ladder", "startAnew", "(LBarredTurns$Net;)V"⟩, 10), (⟨"BarredTurns$Ladder", "measureFree", "(LBarredTurns$Grid;I)V"⟩, 10), (⟨"BarredTurns$Ladder", "isFree", "(I)Z"⟩, 10), (⟨"BarredTurns$Grid", "shortenRow", "(IIII)V"⟩, 1), (⟨"BarredTurns$Ladder", "pickNext", "()I"⟩, 10), (⟨"BarredTurns$Ladder", "markNeeded", "(I)I"⟩, 10), (⟨"BarredTurns$Ladder", "isNeeded", "(III)Z"⟩, 10), (⟨"BarredTurns$Ladder", "countFreeArcs", "(I)I"⟩, 10), (⟨"BarredTurns$Ladder", "giveRank", "(II)V"⟩, 10)]
theorem lw_r1 : ∀ q ∈ lw_privs_1, lw_okq q := List.forall_mem_cons.mpr ⟨lw_p0, List.forall_mem_cons.mpr ⟨lw_p1, List.forall_mem_cons.mpr ⟨lw_p2, List.forall_mem_cons.mpr ⟨lw_p3, List.forall_mem_cons.mpr ⟨lw_p4, List.forall_mem_cons.mpr ⟨lw_p5, List.forall_mem_cons.mpr ⟨lw_p6, List.forall_mem_cons.mpr ⟨lw_p7, List.forall_mem_cons.mpr ⟨lw_p8, List.forall_mem_cons.mpr ⟨lw_p9, List.forall_mem_cons.mpr ⟨lw_p10, List.forall_mem_cons.mpr ⟨lw_p11, List.forall_mem_cons.mpr ⟨lw_p12, List.forall_mem_cons.mpr ⟨lw_p13, List.forall_mem_cons.mpr ⟨lw_p14, List.forall_mem_cons.mpr ⟨lw_p15, fun _ h => absurd h List.not_mem_nil⟩⟩⟩⟩⟩⟩⟩⟩⟩⟩⟩⟩⟩⟩⟩⟩
theorem lw_p16 : lw_okq (⟨"BarredTurns", "measureAll", "()V"⟩, 9) := ⟨⟨by decide +kernel, by decide +kernel⟩, List.mem_of_getElem? (i := 14) (by decide +kernel), List.mem_of_getElem? (i := 374) (by decide +kernel), List.mem_of_getElem? (i := 375) (by decide +kernel)⟩
theorem lw_p17 : lw_okq (⟨"BarredTurns$Ways", "firstNext", "(LBarredTurns$Net;II)I"⟩, 3) := ⟨⟨by decide +kernel, by decide +kernel⟩, List.mem_of_getElem? (i := 162) (by decide +kernel), List.mem_of_getElem? (i := 404) (by decide +kernel), List.mem_of_getElem? (i := 405) (by decide +kernel)⟩
theorem lw_p18 : lw_okq (⟨"BarredTurns$Ways", "countBusy", "(I)V"⟩, 3) := ⟨⟨by decide +kernel, by decide +kernel⟩, List.mem_of_getElem? (i := 162) (by decide +kernel), List.mem_of_getElem? (i := 413) (by decide +kernel), List.mem_of_getElem? (i := 414) (by decide +kernel)⟩
theorem lw_p19 : lw_okq (⟨"BarredTurns$Ways", "countBusyBetween", "(II)V"⟩, 3) := ⟨⟨by decide +kernel, by decide +kernel⟩, List.mem_of_getElem? (i := 162) (by decide +kernel), List.mem_of_getElem? (i := 418) (by decide +kernel), List.mem_of_getElem? (i := 419) (by decide +kernel)⟩
theorem lw_p20 : lw_okq (⟨"BarredTurns", "makeAnew", "()V"⟩, 9) := ⟨⟨by decide +kernel, by decide +kernel⟩, List.mem_of_getElem? (i := 14) (by decide +kernel), List.mem_of_getElem? (i := 441) (by decide +kernel), List.mem_of_getElem? (i := 442) (by decide +kernel)⟩
theorem lw_p21 : lw_okq (⟨"BarredTurns$Ladder", "putIntoRow", "(III)V"⟩, 10) := ⟨⟨by decide +kernel, by decide +kernel⟩, List.mem_of_getElem? (i := 99) (by decide +kernel), List.mem_of_getElem? (i := 519) (by decide +kernel), List.mem_of_getElem? (i := 520) (by decide +kernel)⟩
theorem lw_p22 : lw_okq (⟨"BarredTurns", "digestOfRoads", "(J)J"⟩, 9) := ⟨⟨by decide +kernel, by decide +kernel⟩, List.mem_of_getElem? (i := 14) (by decide +kernel), List.mem_of_getElem? (i := 609) (by decide +kernel), List.mem_of_getElem? (i := 610) (by decide +kernel)⟩
theorem lw_p23 : lw_okq (⟨"BarredTurns", "digestOfPairs", "(J)J"⟩, 9) := ⟨⟨by decide +kernel, by decide +kernel⟩, List.mem_of_getElem? (i := 14) (by decide +kernel), List.mem_of_getElem? (i := 618) (by decide +kernel), List.mem_of_getElem? (i := 619) (by decide +kernel)⟩
theorem lw_p24 : lw_okq (⟨"BarredTurns", "digestOfPlaces", "(J)J"⟩, 9) := ⟨⟨by decide +kernel, by decide +kernel⟩, List.mem_of_getElem? (i := 14) (by decide +kernel), List.mem_of_getElem? (i := 627) (by decide +kernel), List.mem_of_getElem? (i := 628) (by decide +kernel)⟩
theorem lw_p25 : lw_okq (⟨"BarredTurns", "digestOfCounts", "(J)J"⟩, 9) := ⟨⟨by decide +kernel, by decide +kernel⟩, List.mem_of_getElem? (i := 14) (by decide +kernel), List.mem_of_getElem? (i := 633) (by decide +kernel), List.mem_of_getElem? (i := 634) (by decide +kernel)⟩
theorem lw_p26 : lw_okq (⟨"BarredTurnsModel", "readPage", "()I"⟩, 38) := ⟨⟨by decide +kernel, by decide +kernel⟩, List.mem_of_getElem? (i := 639) (by decide +kernel), List.mem_of_getElem? (i := 776) (by decide +kernel), List.mem_of_getElem? (i := 777) (by decide +kernel)⟩
theorem lw_p27 : lw_okq (⟨"BarredTurnsModel", "takes", "(I)Z"⟩, 38) := ⟨⟨by decide +kernel, by decide +kernel⟩, List.mem_of_getElem? (i := 639) (by decide +kernel), List.mem_of_getElem? (i := 780) (by decide +kernel), List.mem_of_getElem? (i := 781) (by decide +kernel)⟩
theorem lw_p28 : lw_okq (⟨"BarredTurnsModel", "takesPlace", "(I)Z"⟩, 38) := ⟨⟨by decide +kernel, by decide +kernel⟩, List.mem_of_getElem? (i := 639) (by decide +kernel), List.mem_of_getElem? (i := 784) (by decide +kernel), List.mem_of_getElem? (i := 785) (by decide +kernel)⟩
theorem lw_p29 : lw_okq (⟨"BarredTurnsModel", "takesFigure", "(I)Z"⟩, 38) := ⟨⟨by decide +kernel, by decide +kernel⟩, List.mem_of_getElem? (i := 639) (by decide +kernel), List.mem_of_getElem? (i := 788) (by decide +kernel), List.mem_of_getElem? (i := 789) (by decide +kernel)⟩
theorem lw_p30 : lw_okq (⟨"BarredTurnsModel", "findOrder", "()V"⟩, 38) := ⟨⟨by decide +kernel, by decide +kernel⟩, List.mem_of_getElem? (i := 639) (by decide +kernel), List.mem_of_getElem? (i := 796) (by decide +kernel), List.mem_of_getElem? (i := 797) (by decide +kernel)⟩
theorem lw_p31 : lw_okq (⟨"BarredTurnsModel", "allLeft", "()V"⟩, 38) := ⟨⟨by decide +kernel, by decide +kernel⟩, List.mem_of_getElem? (i := 639) (by decide +kernel), List.mem_of_getElem? (i := 800) (by decide +kernel), List.mem_of_getElem? (i := 801) (by decide +kernel)⟩
def lw_privs_2 : List (MethodName × Nat) := [(⟨"BarredTurns", "measureAll", "()V"⟩, 9), (⟨"BarredTurns$Ways", "firstNext", "(LBarredTurns$Net;II)I"⟩, 3), (⟨"BarredTurns$Ways", "countBusy", "(I)V"⟩, 3), (⟨"BarredTurns$Ways", "countBusyBetween", "(II)V"⟩, 3), (⟨"BarredTurns", "makeAnew", "()V"⟩, 9), (⟨"BarredTurns$Ladder", "putIntoRow", "(III)V"⟩, 10), (⟨"BarredTurns", "digestOfRoads", "(J)J"⟩, 9), (⟨"BarredTurns", "digestOfPairs", "(J)J"⟩, 9), (⟨"BarredTurns", "digestOfPlaces", "(J)J"⟩, 9), (⟨"BarredTurns", "digestOfCounts", "(J)J"⟩, 9), (⟨"BarredTurnsModel", "readPage", "()I"⟩, 38), (⟨"BarredTurnsModel", "takes", "(I)Z"⟩, 38), (⟨"BarredTurnsModel", "takesPlace", "(I)Z"⟩, 38), (⟨"BarredTurnsModel", "takesFigure", "(I)Z"⟩, 38), (⟨"BarredTurnsModel", "findOrder", "()V"⟩, 38), (⟨"BarredTurnsModel", "allLeft", "()V"⟩, 38)]
theorem lw_r2 : ∀ q ∈ lw_privs_2, lw_okq q := List.forall_mem_cons.mpr ⟨lw_p16, List.forall_mem_cons.mpr ⟨lw_p17, List.forall_mem_cons.mpr ⟨lw_p18, List.forall_mem_cons.mpr ⟨lw_p19, List.forall_mem_cons.mpr ⟨lw_p20, List.forall_mem_cons.mpr ⟨lw_p21, List.forall_mem_cons.mpr ⟨lw_p22, List.forall_mem_cons.mpr ⟨lw_p23, List.forall_mem_cons.mpr ⟨lw_p24, List.forall_mem_cons.mpr ⟨lw_p25, List.forall_mem_cons.mpr ⟨lw_p26, List.forall_mem_cons.mpr ⟨lw_p27, List.forall_mem_cons.mpr ⟨lw_p28, List.forall_mem_cons.mpr ⟨lw_p29, List.forall_mem_cons.mpr ⟨lw_p30, List.forall_mem_cons.mpr ⟨lw_p31, fun _ h => absurd h List.not_mem_nil⟩⟩⟩⟩⟩⟩⟩⟩⟩⟩⟩⟩⟩⟩⟩⟩
theorem lw_p32 : lw_okq (⟨"BarredTurnsModel", "laySteps", "()V"⟩, 38) := ⟨⟨by decide +kernel, by decide +kernel⟩, List.mem_of_getElem? (i := 639) (by decide +kernel), List.mem_of_getElem? (i := 804) (by decide +kernel), List.mem_of_getElem? (i := 805) (by decide +kernel)⟩
theorem lw_p33 : lw_okq (⟨"BarredTurnsModel", "isStep", "(II)Z"⟩, 38) := ⟨⟨by decide +kernel, by decide +kernel⟩, List.mem_of_getElem? (i := 639) (by decide +kernel), List.mem_of_getElem? (i := 808) (by decide +kernel), List.mem_of_getElem? (i := 809) (by decide +kernel)⟩
theorem lw_p34 : lw_okq (⟨"BarredTurnsModel", "nextRoad", "()I"⟩, 38) := ⟨⟨by decide +kernel, by decide +kernel⟩, List.mem_of_getElem? (i := 639) (by decide +kernel), List.mem_of_getElem? (i := 813) (by decide +kernel), List.mem_of_getElem? (i := 814) (by decide +kernel)⟩
theorem lw_p35 : lw_okq (⟨"BarredTurnsModel", "layNeeds", "(I)I"⟩, 38) := ⟨⟨by decide +kernel, by decide +kernel⟩, List.mem_of_getElem? (i := 639) (by decide +kernel), List.mem_of_getElem? (i := 817) (by decide +kernel), List.mem_of_getElem? (i := 818) (by decide +kernel)⟩
theorem lw_p36 : lw_okq (⟨"BarredTurnsModel", "layAround", "(I)V"⟩, 38) := ⟨⟨by decide +kernel, by decide +kernel⟩, List.mem_of_getElem? (i := 639) (by decide +kernel), List.mem_of_getElem? (i := 821) (by decide +kernel), List.mem_of_getElem? (i := 822) (by decide +kernel)⟩
theorem lw_p37 : lw_okq (⟨"BarredTurnsModel", "arcsAt", "(I)I"⟩, 38) := ⟨⟨by decide +kernel, by decide +kernel⟩, List.mem_of_getElem? (i := 639) (by decide +kernel), List.mem_of_getElem? (i := 825) (by decide +kernel), List.mem_of_getElem? (i := 826) (by decide +kernel)⟩
theorem lw_p38 : lw_okq (⟨"BarredTurnsModel", "rankNow", "(II)V"⟩, 38) := ⟨⟨by decide +kernel, by decide +kernel⟩, List.mem_of_getElem? (i := 639) (by decide +kernel), List.mem_of_getElem? (i := 829) (by decide +kernel), List.mem_of_getElem? (i := 830) (by decide +kernel)⟩
theorem lw_p39 : lw_okq (⟨"BarredTurnsModel", "layWays", "()V"⟩, 38) := ⟨⟨by decide +kernel, by decide +kernel⟩, List.mem_of_getElem? (i := 639) (by decide +kernel), List.mem_of_getElem? (i := 833) (by decide +kernel), List.mem_of_getElem? (i := 834) (by decide +kernel)⟩
theorem lw_p40 : lw_okq (⟨"BarredTurnsModel", "layLeasts", "()V"⟩, 38) := ⟨⟨by decide +kernel, by decide +kernel⟩, List.mem_of_getElem? (i := 639) (by decide +kernel), List.mem_of_getElem? (i := 837) (by decide +kernel), List.mem_of_getElem? (i := 838) (by decide +kernel)⟩
theorem lw_p41 : lw_okq (⟨"BarredTurnsModel", "nextOn", "(II)I"⟩, 38) := ⟨⟨by decide +kernel, by decide +kernel⟩, List.mem_of_getElem? (i := 639) (by decide +kernel), List.mem_of_getElem? (i := 841) (by decide +kernel), List.mem_of_getElem? (i := 842) (by decide +kernel)⟩
theorem lw_p42 : lw_okq (⟨"BarredTurnsModel", "isRoad", "(I)Z"⟩, 38) := ⟨⟨by decide +kernel, by decide +kernel⟩, List.mem_of_getElem? (i := 639) (by decide +kernel), List.mem_of_getElem? (i := 849) (by decide +kernel), List.mem_of_getElem? (i := 850) (by decide +kernel)⟩
theorem lw_p43 : lw_okq (⟨"BarredTurnsModel", "alter", "()V"⟩, 38) := ⟨⟨by decide +kernel, by decide +kernel⟩, List.mem_of_getElem? (i := 639) (by decide +kernel), List.mem_of_getElem? (i := 853) (by decide +kernel), List.mem_of_getElem? (i := 854) (by decide +kernel)⟩
theorem lw_p44 : lw_okq (⟨"BarredTurnsModel", "layArcs", "()V"⟩, 38) := ⟨⟨by decide +kernel, by decide +kernel⟩, List.mem_of_getElem? (i := 639) (by decide +kernel), List.mem_of_getElem? (i := 857) (by decide +kernel), List.mem_of_getElem? (i := 858) (by decide +kernel)⟩
theorem lw_p45 : lw_okq (⟨"BarredTurnsModel", "areRoads", "(II)Z"⟩, 38) := ⟨⟨by decide +kernel, by decide +kernel⟩, List.mem_of_getElem? (i := 639) (by decide +kernel), List.mem_of_getElem? (i := 865) (by decide +kernel), List.mem_of_getElem? (i := 866) (by decide +kernel)⟩
theorem lw_p46 : lw_okq (⟨"BarredTurnsModel", "isTurn", "(II)Z"⟩, 38) := ⟨⟨by decide +kernel, by decide +kernel⟩, List.mem_of_getElem? (i := 639) (by decide +kernel), List.mem_of_getElem? (i := 869) (by decide +kernel), List.mem_of_getElem? (i := 870) (by decide +kernel)⟩
theorem lw_p47 : lw_okq (⟨"BarredTurnsModel", "roadNow", "(II)I"⟩, 38) := ⟨⟨by decide +kernel, by decide +kernel⟩, List.mem_of_getElem? (i := 639) (by decide +kernel), List.mem_of_getElem? (i := 881) (by decide +kernel), List.mem_of_getElem? (i := 882) (by decide +kernel)⟩
def lw_privs_3 : List (MethodName × Nat) := [(⟨"BarredTurnsModel", "laySteps", "()V"⟩, 38), (⟨"BarredTurnsModel", "isStep", "(II)Z"⟩, 38), (⟨"BarredTurnsModel", "nextRoad", "()I"⟩, 38), (⟨"BarredTurnsModel", "layNeeds", "(I)I"⟩, 38), (⟨"BarredTurnsModel", "layAround", "(I)V"⟩, 38), (⟨"BarredTurnsModel", "arcsAt", "(I)I"⟩, 38), (⟨"BarredTurnsModel", "rankNow", "(II)V"⟩, 38), (⟨"BarredTurnsModel", "layWays", "()V"⟩, 38), (⟨"BarredTurnsModel", "layLeasts", "()V"⟩, 38), (⟨"BarredTurnsModel", "nextOn", "(II)I"⟩, 38), (⟨"BarredTurnsModel", "isRoad", "(I)Z"⟩, 38), (⟨"BarredTurnsModel", "alter", "()V"⟩, 38), (⟨"BarredTurnsModel", "layArcs", "()V"⟩, 38), (⟨"BarredTurnsModel", "areRoads", "(II)Z"⟩, 38), (⟨"BarredTurnsModel", "isTurn", "(II)Z"⟩, 38), (⟨"BarredTurnsModel", "roadNow", "(II)I"⟩, 38)]
theorem lw_r3 : ∀ q ∈ lw_privs_3, lw_okq q := List.forall_mem_cons.mpr ⟨lw_p32, List.forall_mem_cons.mpr ⟨lw_p33, List.forall_mem_cons.mpr ⟨lw_p34, List.forall_mem_cons.mpr ⟨lw_p35, List.forall_mem_cons.mpr ⟨lw_p36, List.forall_mem_cons.mpr ⟨lw_p37, List.forall_mem_cons.mpr ⟨lw_p38, List.forall_mem_cons.mpr ⟨lw_p39, List.forall_mem_cons.mpr ⟨lw_p40, List.forall_mem_cons.mpr ⟨lw_p41, List.forall_mem_cons.mpr ⟨lw_p42, List.forall_mem_cons.mpr ⟨lw_p43, List.forall_mem_cons.mpr ⟨lw_p44, List.forall_mem_cons.mpr ⟨lw_p45, List.forall_mem_cons.mpr ⟨lw_p46, List.forall_mem_cons.mpr ⟨lw_p47, fun _ h => absurd h List.not_mem_nil⟩⟩⟩⟩⟩⟩⟩⟩⟩⟩⟩⟩⟩⟩⟩⟩
theorem lw_p48 : lw_okq (⟨"BarredTurnsModel", "middleOf", "(I)I"⟩, 38) := ⟨⟨by decide +kernel, by decide +kernel⟩, List.mem_of_getElem? (i := 639) (by decide +kernel), List.mem_of_getElem? (i := 885) (by decide +kernel), List.mem_of_getElem? (i := 886) (by decide +kernel)⟩
theorem lw_p49 : lw_okq (⟨"BarredTurnsModel", "leastNow", "(II)I"⟩, 38) := ⟨⟨by decide +kernel, by decide +kernel⟩, List.mem_of_getElem? (i := 639) (by decide +kernel), List.mem_of_getElem? (i := 901) (by decide +kernel), List.mem_of_getElem? (i := 902) (by decide +kernel)⟩
theorem lw_p50 : lw_okq (⟨"BarredTurnsModel", "arcNow", "(III)I"⟩, 38) := ⟨⟨by decide +kernel, by decide +kernel⟩, List.mem_of_getElem? (i := 639) (by decide +kernel), List.mem_of_getElem? (i := 913) (by decide +kernel), List.mem_of_getElem? (i := 914) (by decide +kernel)⟩
theorem lw_p51 : lw_okq (⟨"BarredTurnsModel", "layUnpacked", "(II)V"⟩, 38) := ⟨⟨by decide +kernel, by decide +kernel⟩, List.mem_of_getElem? (i := 639) (by decide +kernel), List.mem_of_getElem? (i := 917) (by decide +kernel), List.mem_of_getElem? (i := 918) (by decide +kernel)⟩
theorem lw_p52 : lw_okq (⟨"BarredTurnsModel", "risenTo", "(IIZ)I"⟩, 38) := ⟨⟨by decide +kernel, by decide +kernel⟩, List.mem_of_getElem? (i := 639) (by decide +kernel), List.mem_of_getElem? (i := 929) (by decide +kernel), List.mem_of_getElem? (i := 930) (by decide +kernel)⟩
theorem lw_p53 : lw_okq (⟨"BarredTurnsModel", "layRisen", "(IZ)V"⟩, 38) := ⟨⟨by decide +kernel, by decide +kernel⟩, List.mem_of_getElem? (i := 639) (by decide +kernel), List.mem_of_getElem? (i := 933) (by decide +kernel), List.mem_of_getElem? (i := 934) (by decide +kernel)⟩
theorem lw_p54 : lw_okq (⟨"BarredTurnsModel", "meetNow", "(II)I"⟩, 38) := ⟨⟨by decide +kernel, by decide +kernel⟩, List.mem_of_getElem? (i := 639) (by decide +kernel), List.mem_of_getElem? (i := 945) (by decide +kernel), List.mem_of_getElem? (i := 946) (by decide +kernel)⟩
theorem lw_p55 : lw_okq (⟨"BarredTurnsModel", "routeNow", "(II)I"⟩, 38) := ⟨⟨by decide +kernel, by decide +kernel⟩, List.mem_of_getElem? (i := 639) (by decide +kernel), List.mem_of_getElem? (i := 953) (by decide +kernel), List.mem_of_getElem? (i := 954) (by decide +kernel)⟩
theorem lw_p56 : lw_okq (⟨"BarredTurnsModel", "layTried", "(I)V"⟩, 38) := ⟨⟨by decide +kernel, by decide +kernel⟩, List.mem_of_getElem? (i := 639) (by decide +kernel), List.mem_of_getElem? (i := 957) (by decide +kernel), List.mem_of_getElem? (i := 958) (by decide +kernel)⟩
theorem lw_p57 : lw_okq (⟨"BarredTurnsModel", "routeBy", "(III)I"⟩, 38) := ⟨⟨by decide +kernel, by decide +kernel⟩, List.mem_of_getElem? (i := 639) (by decide +kernel), List.mem_of_getElem? (i := 961) (by decide +kernel), List.mem_of_getElem? (i := 962) (by decide +kernel)⟩
theorem lw_p58 : lw_okq (⟨"BarredTurnsModel", "lossNow", "(II)I"⟩, 38) := ⟨⟨by decide +kernel, by decide +kernel⟩, List.mem_of_getElem? (i := 639) (by decide +kernel), List.mem_of_getElem? (i := 969) (by decide +kernel), List.mem_of_getElem? (i := 970) (by decide +kernel)⟩
theorem lw_p59 : lw_okq (⟨"BarredTurnsModel", "layRoutes", "()V"⟩, 38) := ⟨⟨by decide +kernel, by decide +kernel⟩, List.mem_of_getElem? (i := 639) (by decide +kernel), List.mem_of_getElem? (i := 973) (by decide +kernel), List.mem_of_getElem? (i := 974) (by decide +kernel)⟩
theorem lw_p60 : lw_okq (⟨"BarredTurnsModel", "allNow", "(I)I"⟩, 38) := ⟨⟨by decide +kernel, by decide +kernel⟩, List.mem_of_getElem? (i := 639) (by decide +kernel), List.mem_of_getElem? (i := 981) (by decide +kernel), List.mem_of_getElem? (i := 982) (by decide +kernel)⟩
theorem lw_p61 : lw_okq (⟨"BarredTurnsModel", "busiest", "()I"⟩, 38) := ⟨⟨by decide +kernel, by decide +kernel⟩, List.mem_of_getElem? (i := 639) (by decide +kernel), List.mem_of_getElem? (i := 985) (by decide +kernel), List.mem_of_getElem? (i := 986) (by decide +kernel)⟩
theorem lw_p62 : lw_okq (⟨"BarredTurnsModel", "arcsAll", "(Z)I"⟩, 38) := ⟨⟨by decide +kernel, by decide +kernel⟩, List.mem_of_getElem? (i := 639) (by decide +kernel), List.mem_of_getElem? (i := 989) (by decide +kernel), List.mem_of_getElem? (i := 990) (by decide +kernel)⟩
theorem lw_p63 : lw_okq (⟨"BarredTurnsModel", "howMany", "(I)I"⟩, 38) := ⟨⟨by decide +kernel, by decide +kernel⟩, List.mem_of_getElem? (i := 639) (by decide +kernel), List.mem_of_getElem? (i := 997) (by decide +kernel), List.mem_of_getElem? (i := 998) (by decide +kernel)⟩
def lw_privs_4 : List (MethodName × Nat) := [(⟨"BarredTurnsModel", "middleOf", "(I)I"⟩, 38), (⟨"BarredTurnsModel", "leastNow", "(II)I"⟩, 38), (⟨"BarredTurnsModel", "arcNow", "(III)I"⟩, 38), (⟨"BarredTurnsModel", "layUnpacked", "(II)V"⟩, 38), (⟨"BarredTurnsModel", "risenTo", "(IIZ)I"⟩, 38), (⟨"BarredTurnsModel", "layRisen", "(IZ)V"⟩, 38), (⟨"BarredTurnsModel", "meetNow", "(II)I"⟩, 38), (⟨"BarredTurnsModel", "routeNow", "(II)I"⟩, 38), (⟨"BarredTurnsModel", "layTried", "(I)V"⟩, 38), (⟨"BarredTurnsModel", "routeBy", "(III)I"⟩, 38), (⟨"BarredTurnsModel", "lossNow", "(II)I"⟩, 38), (⟨"BarredTurnsModel", "layRoutes", "()V"⟩, 38), (⟨"BarredTurnsModel", "allNow", "(I)I"⟩, 38), (⟨"BarredTurnsModel", "busiest", "()I"⟩, 38), (⟨"BarredTurnsModel", "arcsAll", "(Z)I"⟩, 38), (⟨"BarredTurnsModel", "howMany", "(I)I"⟩, 38)]
theorem lw_r4 : ∀ q ∈ lw_privs_4, lw_okq q := List.forall_mem_cons.mpr ⟨lw_p48, List.forall_mem_cons.mpr ⟨lw_p49, List.forall_mem_cons.mpr ⟨lw_p50, List.forall_mem_cons.mpr ⟨lw_p51, List.forall_mem_cons.mpr ⟨lw_p52, List.forall_mem_cons.mpr ⟨lw_p53, List.forall_mem_cons.mpr ⟨lw_p54, List.forall_mem_cons.mpr ⟨lw_p55, List.forall_mem_cons.mpr ⟨lw_p56, List.forall_mem_cons.mpr ⟨lw_p57, List.forall_mem_cons.mpr ⟨lw_p58, List.forall_mem_cons.mpr ⟨lw_p59, List.forall_mem_cons.mpr ⟨lw_p60, List.forall_mem_cons.mpr ⟨lw_p61, List.forall_mem_cons.mpr ⟨lw_p62, List.forall_mem_cons.mpr ⟨lw_p63, fun _ h => absurd h List.not_mem_nil⟩⟩⟩⟩⟩⟩⟩⟩⟩⟩⟩⟩⟩⟩⟩⟩
theorem lw_p64 : lw_okq (⟨"BarredTurnsModel", "turnsAll", "(Z)I"⟩, 38) := ⟨⟨by decide +kernel, by decide +kernel⟩, List.mem_of_getElem? (i := 639) (by decide +kernel), List.mem_of_getElem? (i := 1001) (by decide +kernel), List.mem_of_getElem? (i := 1002) (by decide +kernel)⟩
theorem lw_p65 : lw_okq (⟨"BarredTurnsModel", "mix", "(J)V"⟩, 38) := ⟨⟨by decide +kernel, by decide +kernel⟩, List.mem_of_getElem? (i := 639) (by decide +kernel), List.mem_of_getElem? (i := 1010) (by decide +kernel), List.mem_of_getElem? (i := 1011) (by decide +kernel)⟩
theorem lw_p66 : lw_okq (⟨"BarredTurnsModel", "mixPair", "(II)V"⟩, 38) := ⟨⟨by decide +kernel, by decide +kernel⟩, List.mem_of_getElem? (i := 639) (by decide +kernel), List.mem_of_getElem? (i := 1015) (by decide +kernel), List.mem_of_getElem? (i := 1016) (by decide +kernel)⟩
def lw_privs_5 : List (MethodName × Nat) := [(⟨"BarredTurnsModel", "turnsAll", "(Z)I"⟩, 38), (⟨"BarredTurnsModel", "mix", "(J)V"⟩, 38), (⟨"BarredTurnsModel", "mixPair", "(II)V"⟩, 38)]
theorem lw_r5 : ∀ q ∈ lw_privs_5, lw_okq q := List.forall_mem_cons.mpr ⟨lw_p64, List.forall_mem_cons.mpr ⟨lw_p65, List.forall_mem_cons.mpr ⟨lw_p66, fun _ h => absurd h List.not_mem_nil⟩⟩⟩
def lw_privs : List (MethodName × Nat) := lw_privs_1 ++ (lw_privs_2 ++ (lw_privs_3 ++ (lw_privs_4 ++ (lw_privs_5))))
def lw_tbl : List Cond := k2_sels lw_privs ++ tables_1
theorem lw_privs_ok : ∀ q ∈ lw_privs, lw_okq q := by
  show ∀ q ∈ lw_privs_1 ++ (lw_privs_2 ++ (lw_privs_3 ++ (lw_privs_4 ++ (lw_privs_5)))), lw_okq q
  exact List.forall_mem_append.mpr ⟨lw_r1, List.forall_mem_append.mpr ⟨lw_r2, List.forall_mem_append.mpr ⟨lw_r3, List.forall_mem_append.mpr ⟨lw_r4, lw_r5⟩⟩⟩⟩
end
section
def RX0 : String := "BarredTurns$Climbs"
def TX0 : u_T := fun k => match k with
  | 0 => ("BarredTurns$Climbs", "ups", "LBarredTurns$Grid;", true)
  | _ => ("BarredTurns$Climbs", "downs", "LBarredTurns$Grid;", true)
def tyX0 : Nat → FieldType := fun k => match k with
  | 0 => .object "BarredTurns$Grid"
  | _ => .object "BarredTurns$Grid"
abbrev wsX00 : List Cond := u_ws RX0 TX0 2
theorem nmX0 : ∀ a, a < 2 → ∀ b, b < 2 → a ≠ b → (TX0 a).2.1 ≠ (TX0 b).2.1 := by decide +kernel
theorem tyX0_ok : ∀ k, k < 2 → parseFieldDescriptor (TX0 k).2.2.1 = some (tyX0 k) := by decide +kernel
abbrev cX0_init : ByteArray := prog_2_method_1_code
def yX0_init : MethodName := ⟨RX0, "<init>", "()V"⟩
abbrev cX0_measure : ByteArray := prog_2_method_2_code
def yX0_measure : MethodName := ⟨RX0, "measure", "(LBarredTurns$Ladder;)V"⟩
abbrev cX0_meeting : ByteArray := prog_2_method_3_code
def yX0_meeting : MethodName := ⟨RX0, "meeting", "(III)I"⟩
def RX1 : String := "BarredTurns$Grid"
def TX1 : u_T := fun k => match k with
  | _ => ("BarredTurns$Grid", "cells", "[I", true)
def tyX1 : Nat → FieldType := fun k => match k with
  | _ => .array .int
abbrev wsX10 : List Cond := u_ws RX1 TX1 1
theorem nmX1 : ∀ a, a < 1 → ∀ b, b < 1 → a ≠ b → (TX1 a).2.1 ≠ (TX1 b).2.1 := by decide +kernel
theorem tyX1_ok : ∀ k, k < 1 → parseFieldDescriptor (TX1 k).2.2.1 = some (tyX1 k) := by decide +kernel
abbrev cX1_init : ByteArray := prog_3_method_1_code
def yX1_init : MethodName := ⟨RX1, "<init>", "()V"⟩
abbrev cX1_get : ByteArray := prog_3_method_2_code
def yX1_get : MethodName := ⟨RX1, "get", "(II)I"⟩
abbrev cX1_set : ByteArray := prog_3_method_3_code
def yX1_set : MethodName := ⟨RX1, "set", "(III)V"⟩
abbrev cX1_shorten : ByteArray := prog_3_method_4_code
def yX1_shorten : MethodName := ⟨RX1, "shorten", "(I)V"⟩
abbrev cX1_shortenRow : ByteArray := prog_3_method_5_code
def yX1_shortenRow : MethodName := ⟨RX1, "shortenRow", "(IIII)V"⟩
def RX2 : String := "BarredTurns$Ladder"
def TX2 : u_T := fun k => match k with
  | 0 => ("BarredTurns$Ladder", "size", "I", false)
  | 1 => ("BarredTurns$Ladder", "worths", "LBarredTurns$Grid;", true)
  | 2 => ("BarredTurns$Ladder", "middles", "LBarredTurns$Grid;", true)
  | 3 => ("BarredTurns$Ladder", "ranks", "[I", true)
  | 4 => ("BarredTurns$Ladder", "roadsByRank", "[I", true)
  | 5 => ("BarredTurns$Ladder", "row", "[I", true)
  | 6 => ("BarredTurns$Ladder", "ranksBefore", "[I", true)
  | 7 => ("BarredTurns$Ladder", "apart", "LBarredTurns$Grid;", true)
  | 8 => ("BarredTurns$Ladder", "apartWithout", "LBarredTurns$Grid;", true)
  | _ => ("BarredTurns$Ladder", "needed", "LBarredTurns$Grid;", true)
def tyX2 : Nat → FieldType := fun k => match k with
  | 0 => .int
  | 1 => .object "BarredTurns$Grid"
  | 2 => .object "BarredTurns$Grid"
  | 3 => .array .int
  | 4 => .array .int
  | 5 => .array .int
  | 6 => .array .int
  | 7 => .object "BarredTurns$Grid"
  | 8 => .object "BarredTurns$Grid"
  | _ => .object "BarredTurns$Grid"
abbrev wsX20 : List Cond := u_ws RX2 TX2 10
theorem nmX2 : ∀ a, a < 10 → ∀ b, b < 10 → a ≠ b → (TX2 a).2.1 ≠ (TX2 b).2.1 := by decide +kernel
theorem tyX2_ok : ∀ k, k < 10 → parseFieldDescriptor (TX2 k).2.2.1 = some (tyX2 k) := by decide +kernel
abbrev cX2_init : ByteArray := prog_4_method_1_code
def yX2_init : MethodName := ⟨RX2, "<init>", "()V"⟩
abbrev cX2_findOrder : ByteArray := prog_4_method_2_code
def yX2_findOrder : MethodName := ⟨RX2, "findOrder", "(LBarredTurns$Net;)V"⟩
abbrev cX2_keepOrder : ByteArray := prog_4_method_3_code
def yX2_keepOrder : MethodName := ⟨RX2, "keepOrder", "(LBarredTurns$Net;)V"⟩
abbrev cX2_noteRanks : ByteArray := prog_4_method_4_code
def yX2_noteRanks : MethodName := ⟨RX2, "noteRanks", "()V"⟩
abbrev cX2_countMoved : ByteArray := prog_4_method_5_code
def yX2_countMoved : MethodName := ⟨RX2, "countMoved", "()I"⟩
abbrev cX2_startAnew : ByteArray := prog_4_method_6_code
def yX2_startAnew : MethodName := ⟨RX2, "startAnew", "(LBarredTurns$Net;)V"⟩
abbrev cX2_isFree : ByteArray := prog_4_method_7_code
def yX2_isFree : MethodName := ⟨RX2, "isFree", "(I)Z"⟩
abbrev cX2_measureFree : ByteArray := prog_4_method_8_code
def yX2_measureFree : MethodName := ⟨RX2, "measureFree", "(LBarredTurns$Grid;I)V"⟩
abbrev cX2_pickNext : ByteArray := prog_4_method_9_code
def yX2_pickNext : MethodName := ⟨RX2, "pickNext", "()I"⟩
abbrev cX2_countFreeArcs : ByteArray := prog_4_method_10_code
def yX2_countFreeArcs : MethodName := ⟨RX2, "countFreeArcs", "(I)I"⟩
abbrev cX2_markNeeded : ByteArray := prog_4_method_11_code
def yX2_markNeeded : MethodName := ⟨RX2, "markNeeded", "(I)I"⟩
abbrev cX2_isNeeded : ByteArray := prog_4_method_12_code
def yX2_isNeeded : MethodName := ⟨RX2, "isNeeded", "(III)Z"⟩
abbrev cX2_giveRank : ByteArray := prog_4_method_13_code
def yX2_giveRank : MethodName := ⟨RX2, "giveRank", "(II)V"⟩
abbrev cX2_hasArc : ByteArray := prog_4_method_14_code
def yX2_hasArc : MethodName := ⟨RX2, "hasArc", "(II)Z"⟩
abbrev cX2_leadsUp : ByteArray := prog_4_method_15_code
def yX2_leadsUp : MethodName := ⟨RX2, "leadsUp", "(II)Z"⟩
abbrev cX2_unpack : ByteArray := prog_4_method_16_code
def yX2_unpack : MethodName := ⟨RX2, "unpack", "(II)I"⟩
abbrev cX2_putIntoRow : ByteArray := prog_4_method_17_code
def yX2_putIntoRow : MethodName := ⟨RX2, "putIntoRow", "(III)V"⟩
abbrev cX2_countArcs : ByteArray := prog_4_method_18_code
def yX2_countArcs : MethodName := ⟨RX2, "countArcs", "()I"⟩
abbrev cX2_countShortcuts : ByteArray := prog_4_method_19_code
def yX2_countShortcuts : MethodName := ⟨RX2, "countShortcuts", "()I"⟩
abbrev cX2_countArcsOver : ByteArray := prog_4_method_20_code
def yX2_countArcsOver : MethodName := ⟨RX2, "countArcsOver", "(I)I"⟩
def RX3 : String := "BarredTurns$Net"
def TX3 : u_T := fun k => match k with
  | 0 => ("BarredTurns$Net", "size", "I", false)
  | 1 => ("BarredTurns$Net", "begins", "[I", true)
  | 2 => ("BarredTurns$Net", "ends", "[I", true)
  | 3 => ("BarredTurns$Net", "lengths", "[I", true)
  | _ => ("BarredTurns$Net", "costs", "LBarredTurns$Grid;", true)
def tyX3 : Nat → FieldType := fun k => match k with
  | 0 => .int
  | 1 => .array .int
  | 2 => .array .int
  | 3 => .array .int
  | _ => .object "BarredTurns$Grid"
abbrev wsX30 : List Cond := u_ws RX3 TX3 5
theorem nmX3 : ∀ a, a < 5 → ∀ b, b < 5 → a ≠ b → (TX3 a).2.1 ≠ (TX3 b).2.1 := by decide +kernel
theorem tyX3_ok : ∀ k, k < 5 → parseFieldDescriptor (TX3 k).2.2.1 = some (tyX3 k) := by decide +kernel
abbrev cX3_init : ByteArray := prog_5_method_1_code
def yX3_init : MethodName := ⟨RX3, "<init>", "()V"⟩
abbrev cX3_take : ByteArray := prog_5_method_2_code
def yX3_take : MethodName := ⟨RX3, "take", "(LBarredTurns$Page;)V"⟩
abbrev cX3_firstCost : ByteArray := prog_5_method_3_code
def yX3_firstCost : MethodName := ⟨RX3, "firstCost", "(II)I"⟩
abbrev cX3_has : ByteArray := prog_5_method_4_code
def yX3_has : MethodName := ⟨RX3, "has", "(I)Z"⟩
abbrev cX3_hasBoth : ByteArray := prog_5_method_5_code
def yX3_hasBoth : MethodName := ⟨RX3, "hasBoth", "(II)Z"⟩
abbrev cX3_hasTurn : ByteArray := prog_5_method_6_code
def yX3_hasTurn : MethodName := ⟨RX3, "hasTurn", "(II)Z"⟩
abbrev cX3_hasStep : ByteArray := prog_5_method_7_code
def yX3_hasStep : MethodName := ⟨RX3, "hasStep", "(II)Z"⟩
abbrev cX3_stepWorth : ByteArray := prog_5_method_8_code
def yX3_stepWorth : MethodName := ⟨RX3, "stepWorth", "(II)I"⟩
abbrev cX3_stepKey : ByteArray := prog_5_method_9_code
def yX3_stepKey : MethodName := ⟨RX3, "stepKey", "(II)I"⟩
abbrev cX3_fillLeastKeys : ByteArray := prog_5_method_10_code
def yX3_fillLeastKeys : MethodName := ⟨RX3, "fillLeastKeys", "(LBarredTurns$Grid;I)V"⟩
abbrev cX3_countTurns : ByteArray := prog_5_method_11_code
def yX3_countTurns : MethodName := ⟨RX3, "countTurns", "()I"⟩
abbrev cX3_countBarred : ByteArray := prog_5_method_12_code
def yX3_countBarred : MethodName := ⟨RX3, "countBarred", "()I"⟩
def RX4 : String := "BarredTurns$Page"
def TX4 : u_T := fun k => match k with
  | 0 => ("BarredTurns$Page", "codes", "[I", true)
  | 1 => ("BarredTurns$Page", "letters", "I", false)
  | 2 => ("BarredTurns$Page", "begins", "[I", true)
  | 3 => ("BarredTurns$Page", "ends", "[I", true)
  | 4 => ("BarredTurns$Page", "lengths", "[I", true)
  | 5 => ("BarredTurns$Page", "current", "I", false)
  | _ => ("BarredTurns$Page", "due", "I", false)
def tyX4 : Nat → FieldType := fun k => match k with
  | 0 => .array .int
  | 1 => .int
  | 2 => .array .int
  | 3 => .array .int
  | 4 => .array .int
  | 5 => .int
  | _ => .int
abbrev wsX40 : List Cond := u_ws RX4 TX4 7
theorem nmX4 : ∀ a, a < 7 → ∀ b, b < 7 → a ≠ b → (TX4 a).2.1 ≠ (TX4 b).2.1 := by decide +kernel
theorem tyX4_ok : ∀ k, k < 7 → parseFieldDescriptor (TX4 k).2.2.1 = some (tyX4 k) := by decide +kernel
abbrev cX4_init : ByteArray := prog_6_method_1_code
def yX4_init : MethodName := ⟨RX4, "<init>", "()V"⟩
abbrev cX4_put : ByteArray := prog_6_method_2_code
def yX4_put : MethodName := ⟨RX4, "put", "(I)V"⟩
abbrev cX4_scan : ByteArray := prog_6_method_3_code
def yX4_scan : MethodName := ⟨RX4, "scan", "()I"⟩
abbrev cX4_isWhole : ByteArray := prog_6_method_4_code
def yX4_isWhole : MethodName := ⟨RX4, "isWhole", "()Z"⟩
abbrev cX4_howManyRoads : ByteArray := prog_6_method_5_code
def yX4_howManyRoads : MethodName := ⟨RX4, "howManyRoads", "()I"⟩
abbrev cX4_takes : ByteArray := prog_6_method_6_code
def yX4_takes : MethodName := ⟨RX4, "takes", "(I)Z"⟩
abbrev cX4_takesBegin : ByteArray := prog_6_method_7_code
def yX4_takesBegin : MethodName := ⟨RX4, "takesBegin", "(I)Z"⟩
abbrev cX4_takesEnd : ByteArray := prog_6_method_8_code
def yX4_takesEnd : MethodName := ⟨RX4, "takesEnd", "(I)Z"⟩
abbrev cX4_takesFirstFigure : ByteArray := prog_6_method_9_code
def yX4_takesFirstFigure : MethodName := ⟨RX4, "takesFirstFigure", "(I)Z"⟩
abbrev cX4_takesSecondFigure : ByteArray := prog_6_method_10_code
def yX4_takesSecondFigure : MethodName := ⟨RX4, "takesSecondFigure", "(I)Z"⟩
abbrev cX4_takesComma : ByteArray := prog_6_method_11_code
def yX4_takesComma : MethodName := ⟨RX4, "takesComma", "(I)Z"⟩
def RX5 : String := "BarredTurns$Routes"
def TX5 : u_T := fun k => match k with
  | 0 => ("BarredTurns$Routes", "open", "[I", true)
  | 1 => ("BarredTurns$Routes", "shut", "[I", true)
  | _ => ("BarredTurns$Routes", "shutKeys", "LBarredTurns$Grid;", true)
def tyX5 : Nat → FieldType := fun k => match k with
  | 0 => .array .int
  | 1 => .array .int
  | _ => .object "BarredTurns$Grid"
abbrev wsX50 : List Cond := u_ws RX5 TX5 3
theorem nmX5 : ∀ a, a < 3 → ∀ b, b < 3 → a ≠ b → (TX5 a).2.1 ≠ (TX5 b).2.1 := by decide +kernel
theorem tyX5_ok : ∀ k, k < 3 → parseFieldDescriptor (TX5 k).2.2.1 = some (tyX5 k) := by decide +kernel
abbrev cX5_init : ByteArray := prog_7_method_1_code
def yX5_init : MethodName := ⟨RX5, "<init>", "()V"⟩
abbrev cX5_measure : ByteArray := prog_7_method_2_code
def yX5_measure : MethodName := ⟨RX5, "measure", "(LBarredTurns$Net;LBarredTurns$Grid;)V"⟩
abbrev cX5_fillWith : ByteArray := prog_7_method_3_code
def yX5_fillWith : MethodName := ⟨RX5, "fillWith", "([ILBarredTurns$Net;LBarredTurns$Grid;I)V"⟩
abbrev cX5_lossWithout : ByteArray := prog_7_method_4_code
def yX5_lossWithout : MethodName := ⟨RX5, "lossWithout", "(LBarredTurns$Net;II)I"⟩
abbrev cX5_countOpen : ByteArray := prog_7_method_5_code
def yX5_countOpen : MethodName := ⟨RX5, "countOpen", "()I"⟩
abbrev cX5_sumOpen : ByteArray := prog_7_method_6_code
def yX5_sumOpen : MethodName := ⟨RX5, "sumOpen", "()I"⟩
def RX6 : String := "BarredTurns$Ways"
def TX6 : u_T := fun k => match k with
  | 0 => ("BarredTurns$Ways", "keys", "LBarredTurns$Grid;", true)
  | 1 => ("BarredTurns$Ways", "nexts", "LBarredTurns$Grid;", true)
  | _ => ("BarredTurns$Ways", "busy", "[I", true)
def tyX6 : Nat → FieldType := fun k => match k with
  | 0 => .object "BarredTurns$Grid"
  | 1 => .object "BarredTurns$Grid"
  | _ => .array .int
abbrev wsX60 : List Cond := u_ws RX6 TX6 3
theorem nmX6 : ∀ a, a < 3 → ∀ b, b < 3 → a ≠ b → (TX6 a).2.1 ≠ (TX6 b).2.1 := by decide +kernel
theorem tyX6_ok : ∀ k, k < 3 → parseFieldDescriptor (TX6 k).2.2.1 = some (tyX6 k) := by decide +kernel
abbrev cX6_init : ByteArray := prog_8_method_1_code
def yX6_init : MethodName := ⟨RX6, "<init>", "()V"⟩
abbrev cX6_measure : ByteArray := prog_8_method_2_code
def yX6_measure : MethodName := ⟨RX6, "measure", "(LBarredTurns$Net;)V"⟩
abbrev cX6_firstNext : ByteArray := prog_8_method_3_code
def yX6_firstNext : MethodName := ⟨RX6, "firstNext", "(LBarredTurns$Net;II)I"⟩
abbrev cX6_countBusy : ByteArray := prog_8_method_4_code
def yX6_countBusy : MethodName := ⟨RX6, "countBusy", "(I)V"⟩
abbrev cX6_countBusyBetween : ByteArray := prog_8_method_5_code
def yX6_countBusyBetween : MethodName := ⟨RX6, "countBusyBetween", "(II)V"⟩
abbrev cX6_worth : ByteArray := prog_8_method_6_code
def yX6_worth : MethodName := ⟨RX6, "worth", "(II)I"⟩
abbrev cX6_roadOn : ByteArray := prog_8_method_7_code
def yX6_roadOn : MethodName := ⟨RX6, "roadOn", "(III)I"⟩
abbrev cX6_busiest : ByteArray := prog_8_method_8_code
def yX6_busiest : MethodName := ⟨RX6, "busiest", "(I)I"⟩
abbrev cX6_mostBusy : ByteArray := prog_8_method_9_code
def yX6_mostBusy : MethodName := ⟨RX6, "mostBusy", "(I)I"⟩
def RX7 : String := "BarredTurns"
def TX7 : u_T := fun k => match k with
  | 0 => ("BarredTurns", "page", "LBarredTurns$Page;", true)
  | 1 => ("BarredTurns", "net", "LBarredTurns$Net;", true)
  | 2 => ("BarredTurns", "ladder", "LBarredTurns$Ladder;", true)
  | 3 => ("BarredTurns", "climbs", "LBarredTurns$Climbs;", true)
  | 4 => ("BarredTurns", "ways", "LBarredTurns$Ways;", true)
  | 5 => ("BarredTurns", "routes", "LBarredTurns$Routes;", true)
  | 6 => ("BarredTurns", "readings", "I", false)
  | 7 => ("BarredTurns", "alterations", "I", false)
  | _ => ("BarredTurns", "rankings", "I", false)
def tyX7 : Nat → FieldType := fun k => match k with
  | 0 => .object "BarredTurns$Page"
  | 1 => .object "BarredTurns$Net"
  | 2 => .object "BarredTurns$Ladder"
  | 3 => .object "BarredTurns$Climbs"
  | 4 => .object "BarredTurns$Ways"
  | 5 => .object "BarredTurns$Routes"
  | 6 => .int
  | 7 => .int
  | _ => .int
abbrev wsX70 : List Cond := u_ws RX7 TX7 9
theorem nmX7 : ∀ a, a < 9 → ∀ b, b < 9 → a ≠ b → (TX7 a).2.1 ≠ (TX7 b).2.1 := by decide +kernel
theorem tyX7_ok : ∀ k, k < 9 → parseFieldDescriptor (TX7 k).2.2.1 = some (tyX7 k) := by decide +kernel
abbrev cX7_init : ByteArray := prog_1_method_1_code
def yX7_init : MethodName := ⟨RX7, "<init>", "()V"⟩
abbrev cX7_letter : ByteArray := prog_1_method_2_code
def yX7_letter : MethodName := ⟨RX7, "letter", "(I)I"⟩
abbrev cX7_blank : ByteArray := prog_1_method_3_code
def yX7_blank : MethodName := ⟨RX7, "blank", "()I"⟩
abbrev cX7_fault : ByteArray := prog_1_method_4_code
def yX7_fault : MethodName := ⟨RX7, "fault", "()I"⟩
abbrev cX7_roads : ByteArray := prog_1_method_5_code
def yX7_roads : MethodName := ⟨RX7, "roads", "()I"⟩
abbrev cX7_stretch : ByteArray := prog_1_method_6_code
def yX7_stretch : MethodName := ⟨RX7, "stretch", "(II)I"⟩
abbrev cX7_turn : ByteArray := prog_1_method_7_code
def yX7_turn : MethodName := ⟨RX7, "turn", "(III)I"⟩
abbrev cX7_rank : ByteArray := prog_1_method_8_code
def yX7_rank : MethodName := ⟨RX7, "rank", "()I"⟩
abbrev cX7_makeAnew : ByteArray := prog_1_method_9_code
def yX7_makeAnew : MethodName := ⟨RX7, "makeAnew", "()V"⟩
abbrev cX7_measureAll : ByteArray := prog_1_method_10_code
def yX7_measureAll : MethodName := ⟨RX7, "measureAll", "()V"⟩
abbrev cX7_road : ByteArray := prog_1_method_11_code
def yX7_road : MethodName := ⟨RX7, "road", "(II)I"⟩
abbrev cX7_cost : ByteArray := prog_1_method_12_code
def yX7_cost : MethodName := ⟨RX7, "cost", "(II)I"⟩
abbrev cX7_order : ByteArray := prog_1_method_13_code
def yX7_order : MethodName := ⟨RX7, "order", "(I)I"⟩
abbrev cX7_least : ByteArray := prog_1_method_14_code
def yX7_least : MethodName := ⟨RX7, "least", "(II)I"⟩
abbrev cX7_way : ByteArray := prog_1_method_15_code
def yX7_way : MethodName := ⟨RX7, "way", "(III)I"⟩
abbrev cX7_arc : ByteArray := prog_1_method_16_code
def yX7_arc : MethodName := ⟨RX7, "arc", "(III)I"⟩
abbrev cX7_unpacked : ByteArray := prog_1_method_17_code
def yX7_unpacked : MethodName := ⟨RX7, "unpacked", "(III)I"⟩
abbrev cX7_up : ByteArray := prog_1_method_18_code
def yX7_up : MethodName := ⟨RX7, "up", "(II)I"⟩
abbrev cX7_down : ByteArray := prog_1_method_19_code
def yX7_down : MethodName := ⟨RX7, "down", "(II)I"⟩
abbrev cX7_meet : ByteArray := prog_1_method_20_code
def yX7_meet : MethodName := ⟨RX7, "meet", "(II)I"⟩
abbrev cX7_route : ByteArray := prog_1_method_21_code
def yX7_route : MethodName := ⟨RX7, "route", "(II)I"⟩
abbrev cX7_loss : ByteArray := prog_1_method_22_code
def yX7_loss : MethodName := ⟨RX7, "loss", "(II)I"⟩
abbrev cX7_all : ByteArray := prog_1_method_23_code
def yX7_all : MethodName := ⟨RX7, "all", "(I)I"⟩
abbrev cX7_count : ByteArray := prog_1_method_24_code
def yX7_count : MethodName := ⟨RX7, "count", "(I)I"⟩
abbrev cX7_digest : ByteArray := prog_1_method_25_code
def yX7_digest : MethodName := ⟨RX7, "digest", "()J"⟩
abbrev cX7_digestOfRoads : ByteArray := prog_1_method_26_code
def yX7_digestOfRoads : MethodName := ⟨RX7, "digestOfRoads", "(J)J"⟩
abbrev cX7_digestOfPairs : ByteArray := prog_1_method_27_code
def yX7_digestOfPairs : MethodName := ⟨RX7, "digestOfPairs", "(J)J"⟩
abbrev cX7_digestOfPlaces : ByteArray := prog_1_method_28_code
def yX7_digestOfPlaces : MethodName := ⟨RX7, "digestOfPlaces", "(J)J"⟩
abbrev cX7_digestOfCounts : ByteArray := prog_1_method_29_code
def yX7_digestOfCounts : MethodName := ⟨RX7, "digestOfCounts", "(J)J"⟩
abbrev cX7_mix : ByteArray := prog_1_method_30_code
def yX7_mix : MethodName := ⟨RX7, "mix", "(JJ)J"⟩
abbrev cX7_isPlace : ByteArray := prog_1_method_31_code
def yX7_isPlace : MethodName := ⟨RX7, "isPlace", "(I)Z"⟩
abbrev cX7_orNone : ByteArray := prog_1_method_32_code
def yX7_orNone : MethodName := ⟨RX7, "orNone", "(I)I"⟩
def RX8 : String := "BarredTurnsModel"
def TX8 : u_T := fun k => match k with
  | 0 => ("BarredTurnsModel", "pageLength", "I", false)
  | 1 => ("BarredTurnsModel", "page", "[I", true)
  | 2 => ("BarredTurnsModel", "roads", "I", false)
  | 3 => ("BarredTurnsModel", "beginOf", "[I", true)
  | 4 => ("BarredTurnsModel", "endOf", "[I", true)
  | 5 => ("BarredTurnsModel", "lengthOf", "[I", true)
  | 6 => ("BarredTurnsModel", "costs", "[I", true)
  | 7 => ("BarredTurnsModel", "rankOf", "[I", true)
  | 8 => ("BarredTurnsModel", "roadAt", "[I", true)
  | 9 => ("BarredTurnsModel", "worths", "[I", true)
  | 10 => ("BarredTurnsModel", "middles", "[I", true)
  | 11 => ("BarredTurnsModel", "leasts", "[I", true)
  | 12 => ("BarredTurnsModel", "busy", "[I", true)
  | 13 => ("BarredTurnsModel", "read", "I", false)
  | 14 => ("BarredTurnsModel", "altered", "I", false)
  | 15 => ("BarredTurnsModel", "ranked", "I", false)
  | 16 => ("BarredTurnsModel", "stage", "I", false)
  | 17 => ("BarredTurnsModel", "figures", "I", false)
  | 18 => ("BarredTurnsModel", "newRoads", "I", false)
  | 19 => ("BarredTurnsModel", "newBegin", "[I", true)
  | 20 => ("BarredTurnsModel", "newEnd", "[I", true)
  | 21 => ("BarredTurnsModel", "newLength", "[I", true)
  | 22 => ("BarredTurnsModel", "isLeft", "[Z", true)
  | 23 => ("BarredTurnsModel", "around", "[I", true)
  | 24 => ("BarredTurnsModel", "whole", "[I", true)
  | 25 => ("BarredTurnsModel", "isNeeded", "[Z", true)
  | 26 => ("BarredTurnsModel", "wereRanks", "[I", true)
  | 27 => ("BarredTurnsModel", "waitFrom", "[I", true)
  | 28 => ("BarredTurnsModel", "waitTo", "[I", true)
  | 29 => ("BarredTurnsModel", "told", "I", false)
  | 30 => ("BarredTurnsModel", "toldAt", "[I", true)
  | 31 => ("BarredTurnsModel", "risen", "[I", true)
  | 32 => ("BarredTurnsModel", "ups", "[I", true)
  | 33 => ("BarredTurnsModel", "tried", "[I", true)
  | 34 => ("BarredTurnsModel", "routes", "[I", true)
  | 35 => ("BarredTurnsModel", "routed", "I", false)
  | 36 => ("BarredTurnsModel", "routeSum", "I", false)
  | _ => ("BarredTurnsModel", "h", "J", false)
def tyX8 : Nat → FieldType := fun k => match k with
  | 0 => .int
  | 1 => .array .int
  | 2 => .int
  | 3 => .array .int
  | 4 => .array .int
  | 5 => .array .int
  | 6 => .array .int
  | 7 => .array .int
  | 8 => .array .int
  | 9 => .array .int
  | 10 => .array .int
  | 11 => .array .int
  | 12 => .array .int
  | 13 => .int
  | 14 => .int
  | 15 => .int
  | 16 => .int
  | 17 => .int
  | 18 => .int
  | 19 => .array .int
  | 20 => .array .int
  | 21 => .array .int
  | 22 => .array .boolean
  | 23 => .array .int
  | 24 => .array .int
  | 25 => .array .boolean
  | 26 => .array .int
  | 27 => .array .int
  | 28 => .array .int
  | 29 => .int
  | 30 => .array .int
  | 31 => .array .int
  | 32 => .array .int
  | 33 => .array .int
  | 34 => .array .int
  | 35 => .int
  | 36 => .int
  | _ => .long
abbrev wsX80 : List Cond := u_ws RX8 TX8 38
theorem nmX8 : ∀ a, a < 38 → ∀ b, b < 38 → a ≠ b → (TX8 a).2.1 ≠ (TX8 b).2.1 := by decide +kernel
theorem tyX8_ok : ∀ k, k < 38 → parseFieldDescriptor (TX8 k).2.2.1 = some (tyX8 k) := by decide +kernel
abbrev cX8_init : ByteArray := prog_10_method_1_code
def yX8_init : MethodName := ⟨RX8, "<init>", "()V"⟩
abbrev cX8_within : ByteArray := prog_10_method_3_code
def yX8_within : MethodName := ⟨RX8, "within", "(III)Z"⟩
abbrev cX8_letter : ByteArray := prog_10_method_4_code
def yX8_letter : MethodName := ⟨RX8, "letter", "(I)I"⟩
abbrev cX8_blank : ByteArray := prog_10_method_5_code
def yX8_blank : MethodName := ⟨RX8, "blank", "()I"⟩
abbrev cX8_takesPlace : ByteArray := prog_10_method_6_code
def yX8_takesPlace : MethodName := ⟨RX8, "takesPlace", "(I)Z"⟩
abbrev cX8_takesFigure : ByteArray := prog_10_method_7_code
def yX8_takesFigure : MethodName := ⟨RX8, "takesFigure", "(I)Z"⟩
abbrev cX8_takes : ByteArray := prog_10_method_8_code
def yX8_takes : MethodName := ⟨RX8, "takes", "(I)Z"⟩
abbrev cX8_readPage : ByteArray := prog_10_method_9_code
def yX8_readPage : MethodName := ⟨RX8, "readPage", "()I"⟩
abbrev cX8_fault : ByteArray := prog_10_method_10_code
def yX8_fault : MethodName := ⟨RX8, "fault", "()I"⟩
abbrev cX8_roads : ByteArray := prog_10_method_11_code
def yX8_roads : MethodName := ⟨RX8, "roads", "()I"⟩
abbrev cX8_isStep : ByteArray := prog_10_method_12_code
def yX8_isStep : MethodName := ⟨RX8, "isStep", "(II)Z"⟩
abbrev cX8_laySteps : ByteArray := prog_10_method_13_code
def yX8_laySteps : MethodName := ⟨RX8, "laySteps", "()V"⟩
abbrev cX8_layAround : ByteArray := prog_10_method_14_code
def yX8_layAround : MethodName := ⟨RX8, "layAround", "(I)V"⟩
abbrev cX8_layNeeds : ByteArray := prog_10_method_15_code
def yX8_layNeeds : MethodName := ⟨RX8, "layNeeds", "(I)I"⟩
abbrev cX8_rankNow : ByteArray := prog_10_method_16_code
def yX8_rankNow : MethodName := ⟨RX8, "rankNow", "(II)V"⟩
abbrev cX8_arcsAt : ByteArray := prog_10_method_17_code
def yX8_arcsAt : MethodName := ⟨RX8, "arcsAt", "(I)I"⟩
abbrev cX8_nextRoad : ByteArray := prog_10_method_18_code
def yX8_nextRoad : MethodName := ⟨RX8, "nextRoad", "()I"⟩
abbrev cX8_allLeft : ByteArray := prog_10_method_19_code
def yX8_allLeft : MethodName := ⟨RX8, "allLeft", "()V"⟩
abbrev cX8_findOrder : ByteArray := prog_10_method_20_code
def yX8_findOrder : MethodName := ⟨RX8, "findOrder", "()V"⟩
abbrev cX8_layArcs : ByteArray := prog_10_method_21_code
def yX8_layArcs : MethodName := ⟨RX8, "layArcs", "()V"⟩
abbrev cX8_layLeasts : ByteArray := prog_10_method_22_code
def yX8_layLeasts : MethodName := ⟨RX8, "layLeasts", "()V"⟩
abbrev cX8_nextOn : ByteArray := prog_10_method_23_code
def yX8_nextOn : MethodName := ⟨RX8, "nextOn", "(II)I"⟩
abbrev cX8_layWays : ByteArray := prog_10_method_24_code
def yX8_layWays : MethodName := ⟨RX8, "layWays", "()V"⟩
abbrev cX8_isRoad : ByteArray := prog_10_method_25_code
def yX8_isRoad : MethodName := ⟨RX8, "isRoad", "(I)Z"⟩
abbrev cX8_areRoads : ByteArray := prog_10_method_26_code
def yX8_areRoads : MethodName := ⟨RX8, "areRoads", "(II)Z"⟩
abbrev cX8_isTurn : ByteArray := prog_10_method_27_code
def yX8_isTurn : MethodName := ⟨RX8, "isTurn", "(II)Z"⟩
abbrev cX8_alter : ByteArray := prog_10_method_28_code
def yX8_alter : MethodName := ⟨RX8, "alter", "()V"⟩
abbrev cX8_stretch : ByteArray := prog_10_method_29_code
def yX8_stretch : MethodName := ⟨RX8, "stretch", "(II)I"⟩
abbrev cX8_turn : ByteArray := prog_10_method_30_code
def yX8_turn : MethodName := ⟨RX8, "turn", "(III)I"⟩
abbrev cX8_rank : ByteArray := prog_10_method_31_code
def yX8_rank : MethodName := ⟨RX8, "rank", "()I"⟩
abbrev cX8_middleOf : ByteArray := prog_10_method_32_code
def yX8_middleOf : MethodName := ⟨RX8, "middleOf", "(I)I"⟩
abbrev cX8_roadNow : ByteArray := prog_10_method_33_code
def yX8_roadNow : MethodName := ⟨RX8, "roadNow", "(II)I"⟩
abbrev cX8_road : ByteArray := prog_10_method_34_code
def yX8_road : MethodName := ⟨RX8, "road", "(II)I"⟩
abbrev cX8_cost : ByteArray := prog_10_method_35_code
def yX8_cost : MethodName := ⟨RX8, "cost", "(II)I"⟩
abbrev cX8_order : ByteArray := prog_10_method_36_code
def yX8_order : MethodName := ⟨RX8, "order", "(I)I"⟩
abbrev cX8_leastNow : ByteArray := prog_10_method_37_code
def yX8_leastNow : MethodName := ⟨RX8, "leastNow", "(II)I"⟩
abbrev cX8_least : ByteArray := prog_10_method_38_code
def yX8_least : MethodName := ⟨RX8, "least", "(II)I"⟩
abbrev cX8_way : ByteArray := prog_10_method_39_code
def yX8_way : MethodName := ⟨RX8, "way", "(III)I"⟩
abbrev cX8_layUnpacked : ByteArray := prog_10_method_40_code
def yX8_layUnpacked : MethodName := ⟨RX8, "layUnpacked", "(II)V"⟩
abbrev cX8_arcNow : ByteArray := prog_10_method_41_code
def yX8_arcNow : MethodName := ⟨RX8, "arcNow", "(III)I"⟩
abbrev cX8_arc : ByteArray := prog_10_method_42_code
def yX8_arc : MethodName := ⟨RX8, "arc", "(III)I"⟩
abbrev cX8_unpacked : ByteArray := prog_10_method_43_code
def yX8_unpacked : MethodName := ⟨RX8, "unpacked", "(III)I"⟩
abbrev cX8_layRisen : ByteArray := prog_10_method_44_code
def yX8_layRisen : MethodName := ⟨RX8, "layRisen", "(IZ)V"⟩
abbrev cX8_risenTo : ByteArray := prog_10_method_45_code
def yX8_risenTo : MethodName := ⟨RX8, "risenTo", "(IIZ)I"⟩
abbrev cX8_up : ByteArray := prog_10_method_46_code
def yX8_up : MethodName := ⟨RX8, "up", "(II)I"⟩
abbrev cX8_down : ByteArray := prog_10_method_47_code
def yX8_down : MethodName := ⟨RX8, "down", "(II)I"⟩
abbrev cX8_meetNow : ByteArray := prog_10_method_48_code
def yX8_meetNow : MethodName := ⟨RX8, "meetNow", "(II)I"⟩
abbrev cX8_meet : ByteArray := prog_10_method_49_code
def yX8_meet : MethodName := ⟨RX8, "meet", "(II)I"⟩
abbrev cX8_layTried : ByteArray := prog_10_method_50_code
def yX8_layTried : MethodName := ⟨RX8, "layTried", "(I)V"⟩
abbrev cX8_routeBy : ByteArray := prog_10_method_51_code
def yX8_routeBy : MethodName := ⟨RX8, "routeBy", "(III)I"⟩
abbrev cX8_routeNow : ByteArray := prog_10_method_52_code
def yX8_routeNow : MethodName := ⟨RX8, "routeNow", "(II)I"⟩
abbrev cX8_route : ByteArray := prog_10_method_53_code
def yX8_route : MethodName := ⟨RX8, "route", "(II)I"⟩
abbrev cX8_layRoutes : ByteArray := prog_10_method_54_code
def yX8_layRoutes : MethodName := ⟨RX8, "layRoutes", "()V"⟩
abbrev cX8_lossNow : ByteArray := prog_10_method_55_code
def yX8_lossNow : MethodName := ⟨RX8, "lossNow", "(II)I"⟩
abbrev cX8_loss : ByteArray := prog_10_method_56_code
def yX8_loss : MethodName := ⟨RX8, "loss", "(II)I"⟩
abbrev cX8_busiest : ByteArray := prog_10_method_57_code
def yX8_busiest : MethodName := ⟨RX8, "busiest", "()I"⟩
abbrev cX8_arcsAll : ByteArray := prog_10_method_58_code
def yX8_arcsAll : MethodName := ⟨RX8, "arcsAll", "(Z)I"⟩
abbrev cX8_allNow : ByteArray := prog_10_method_59_code
def yX8_allNow : MethodName := ⟨RX8, "allNow", "(I)I"⟩
abbrev cX8_all : ByteArray := prog_10_method_60_code
def yX8_all : MethodName := ⟨RX8, "all", "(I)I"⟩
abbrev cX8_turnsAll : ByteArray := prog_10_method_61_code
def yX8_turnsAll : MethodName := ⟨RX8, "turnsAll", "(Z)I"⟩
abbrev cX8_howMany : ByteArray := prog_10_method_62_code
def yX8_howMany : MethodName := ⟨RX8, "howMany", "(I)I"⟩
abbrev cX8_count : ByteArray := prog_10_method_63_code
def yX8_count : MethodName := ⟨RX8, "count", "(I)I"⟩
abbrev cX8_mix : ByteArray := prog_10_method_64_code
def yX8_mix : MethodName := ⟨RX8, "mix", "(J)V"⟩
abbrev cX8_mixPair : ByteArray := prog_10_method_65_code
def yX8_mixPair : MethodName := ⟨RX8, "mixPair", "(II)V"⟩
abbrev cX8_digest : ByteArray := prog_10_method_66_code
def yX8_digest : MethodName := ⟨RX8, "digest", "()J"⟩
def RJ9 : String := "java/lang/Math"
def TJ9 : u_T := fun k => match k with
  | _ => ("", "", "", false)
def tyJ9 : Nat → FieldType := fun k => match k with
  | _ => .int
abbrev wsJ90 : List Cond := u_ws RJ9 TJ9 0
theorem nmJ9 : ∀ a, a < 0 → ∀ b, b < 0 → a ≠ b → (TJ9 a).2.1 ≠ (TJ9 b).2.1 := by decide +kernel
theorem tyJ9_ok : ∀ k, k < 0 → parseFieldDescriptor (TJ9 k).2.2.1 = some (tyJ9 k) := by decide +kernel
abbrev cJ9_min_7cf53 : ByteArray := prog_11_method_69_code
def yJ9_min_7cf53 : MethodName := ⟨RJ9, "min", "(II)I"⟩
def RJ10 : String := "java/lang/System"
def TJ10 : u_T := fun k => match k with
  | _ => ("", "", "", false)
def tyJ10 : Nat → FieldType := fun k => match k with
  | _ => .int
abbrev wsJ100 : List Cond := u_ws RJ10 TJ10 0
theorem nmJ10 : ∀ a, a < 0 → ∀ b, b < 0 → a ≠ b → (TJ10 a).2.1 ≠ (TJ10 b).2.1 := by decide +kernel
theorem tyJ10_ok : ∀ k, k < 0 → parseFieldDescriptor (TJ10 k).2.2.1 = some (tyJ10 k) := by decide +kernel
def RJ7 : String := "java/util/Arrays"
def TJ7 : u_T := fun k => match k with
  | _ => ("", "", "", false)
def tyJ7 : Nat → FieldType := fun k => match k with
  | _ => .int
abbrev wsJ70 : List Cond := u_ws RJ7 TJ7 0
theorem nmJ7 : ∀ a, a < 0 → ∀ b, b < 0 → a ≠ b → (TJ7 a).2.1 ≠ (TJ7 b).2.1 := by decide +kernel
theorem tyJ7_ok : ∀ k, k < 0 → parseFieldDescriptor (TJ7 k).2.2.1 = some (tyJ7 k) := by decide +kernel
abbrev cJ7_fill_53178 : ByteArray := prog_13_method_103_code
def yJ7_fill_53178 : MethodName := ⟨RJ7, "fill", "([II)V"⟩
def RL : String := "BarredTurnsLaw"
abbrev cL_law : ByteArray := code
def yL_law : MethodName := ⟨RL, "law", "([I)Z"⟩
abbrev vwCl : List vw_C := [(RX0, TX0, 2), (RX1, TX1, 1), (RX2, TX2, 10), (RX3, TX3, 5), (RX4, TX4, 7), (RX5, TX5, 3), (RX6, TX6, 3), (RX7, TX7, 9), (RX8, TX8, 38)]
end
section
theorem dX0_init_0 : decode cX0_init 0 = .ok (.aload_n 0, 1) := by decide +kernel
theorem dX0_init_1 : decode cX0_init 1 = .ok (.invokespecial 3, 3) := by decide +kernel
theorem dX0_init_4 : decode cX0_init 4 = .ok (.aload_n 0, 1) := by decide +kernel
theorem dX0_init_5 : decode cX0_init 5 = .ok (.new 9, 3) := by decide +kernel
theorem dX0_init_8 : decode cX0_init 8 = .ok (.dup, 1) := by decide +kernel
theorem dX0_init_9 : decode cX0_init 9 = .ok (.invokespecial 11, 3) := by decide +kernel
theorem dX0_init_12 : decode cX0_init 12 = .ok (.putfield 12, 3) := by decide +kernel
theorem dX0_init_15 : decode cX0_init 15 = .ok (.aload_n 0, 1) := by decide +kernel
theorem dX0_init_16 : decode cX0_init 16 = .ok (.new 9, 3) := by decide +kernel
theorem dX0_init_19 : decode cX0_init 19 = .ok (.dup, 1) := by decide +kernel
theorem dX0_init_20 : decode cX0_init 20 = .ok (.invokespecial 11, 3) := by decide +kernel
theorem dX0_init_23 : decode cX0_init 23 = .ok (.putfield 18, 3) := by decide +kernel
theorem dX0_init_26 : decode cX0_init 26 = .ok (.return_, 1) := by decide +kernel
theorem dX0_measure_0 : decode cX0_measure 0 = .ok (.iconst 0, 1) := by decide +kernel
theorem dX0_measure_1 : decode cX0_measure 1 = .ok (.istore_n 2, 1) := by decide +kernel
theorem dX0_measure_2 : decode cX0_measure 2 = .ok (.iload_n 2, 1) := by decide +kernel
theorem dX0_measure_3 : decode cX0_measure 3 = .ok (.aload_n 1, 1) := by decide +kernel
theorem dX0_measure_4 : decode cX0_measure 4 = .ok (.getfield 21, 3) := by decide +kernel
theorem dX0_measure_7 : decode cX0_measure 7 = .ok (.if_icmp .ge 106, 3) := by decide +kernel
theorem dX0_measure_10 : decode cX0_measure 10 = .ok (.iconst 0, 1) := by decide +kernel
theorem dX0_measure_11 : decode cX0_measure 11 = .ok (.istore_n 3, 1) := by decide +kernel
theorem dX0_measure_12 : decode cX0_measure 12 = .ok (.iload_n 3, 1) := by decide +kernel
theorem dX0_measure_13 : decode cX0_measure 13 = .ok (.aload_n 1, 1) := by decide +kernel
theorem dX0_measure_14 : decode cX0_measure 14 = .ok (.getfield 21, 3) := by decide +kernel
theorem dX0_measure_17 : decode cX0_measure 17 = .ok (.if_icmp .ge 70, 3) := by decide +kernel
theorem dX0_measure_20 : decode cX0_measure 20 = .ok (.aload_n 1, 1) := by decide +kernel
theorem dX0_measure_21 : decode cX0_measure 21 = .ok (.getfield 27, 3) := by decide +kernel
theorem dX0_measure_24 : decode cX0_measure 24 = .ok (.iload_n 2, 1) := by decide +kernel
theorem dX0_measure_25 : decode cX0_measure 25 = .ok (.iload_n 3, 1) := by decide +kernel
theorem dX0_measure_26 : decode cX0_measure 26 = .ok (.invokevirtual 30, 3) := by decide +kernel
theorem dX0_measure_29 : decode cX0_measure 29 = .ok (.istore 4, 2) := by decide +kernel
theorem dX0_measure_31 : decode cX0_measure 31 = .ok (.aload_n 1, 1) := by decide +kernel
theorem dX0_measure_32 : decode cX0_measure 32 = .ok (.iload_n 2, 1) := by decide +kernel
theorem dX0_measure_33 : decode cX0_measure 33 = .ok (.iload_n 3, 1) := by decide +kernel
theorem dX0_measure_34 : decode cX0_measure 34 = .ok (.invokevirtual 34, 3) := by decide +kernel
theorem dX0_measure_37 : decode cX0_measure 37 = .ok (.istore 5, 2) := by decide +kernel
theorem dX0_measure_39 : decode cX0_measure 39 = .ok (.aload_n 0, 1) := by decide +kernel
theorem dX0_measure_40 : decode cX0_measure 40 = .ok (.getfield 12, 3) := by decide +kernel
theorem dX0_measure_43 : decode cX0_measure 43 = .ok (.iload_n 2, 1) := by decide +kernel
theorem dX0_measure_44 : decode cX0_measure 44 = .ok (.iload_n 3, 1) := by decide +kernel
theorem dX0_measure_45 : decode cX0_measure 45 = .ok (.iload 5, 2) := by decide +kernel
theorem dX0_measure_47 : decode cX0_measure 47 = .ok (.ifCond .eq 8, 3) := by decide +kernel
theorem dX0_measure_50 : decode cX0_measure 50 = .ok (.iload 4, 2) := by decide +kernel
theorem dX0_measure_52 : decode cX0_measure 52 = .ok (.goto 5, 3) := by decide +kernel
theorem dX0_measure_55 : decode cX0_measure 55 = .ok (.ldc 38, 2) := by decide +kernel
theorem dX0_measure_57 : decode cX0_measure 57 = .ok (.invokevirtual 39, 3) := by decide +kernel
theorem dX0_measure_60 : decode cX0_measure 60 = .ok (.aload_n 0, 1) := by decide +kernel
theorem dX0_measure_61 : decode cX0_measure 61 = .ok (.getfield 18, 3) := by decide +kernel
theorem dX0_measure_64 : decode cX0_measure 64 = .ok (.iload_n 2, 1) := by decide +kernel
theorem dX0_measure_65 : decode cX0_measure 65 = .ok (.iload_n 3, 1) := by decide +kernel
theorem dX0_measure_66 : decode cX0_measure 66 = .ok (.iload 5, 2) := by decide +kernel
theorem dX0_measure_68 : decode cX0_measure 68 = .ok (.ifCond .eq 8, 3) := by decide +kernel
theorem dX0_measure_71 : decode cX0_measure 71 = .ok (.ldc 38, 2) := by decide +kernel
theorem dX0_measure_73 : decode cX0_measure 73 = .ok (.goto 5, 3) := by decide +kernel
theorem dX0_measure_76 : decode cX0_measure 76 = .ok (.iload 4, 2) := by decide +kernel
theorem dX0_measure_78 : decode cX0_measure 78 = .ok (.invokevirtual 39, 3) := by decide +kernel
theorem dX0_measure_81 : decode cX0_measure 81 = .ok (.iinc 3 1, 3) := by decide +kernel
theorem dX0_measure_84 : decode cX0_measure 84 = .ok (.goto (-72), 3) := by decide +kernel
theorem dX0_measure_87 : decode cX0_measure 87 = .ok (.aload_n 0, 1) := by decide +kernel
theorem dX0_measure_88 : decode cX0_measure 88 = .ok (.getfield 12, 3) := by decide +kernel
theorem dX0_measure_91 : decode cX0_measure 91 = .ok (.iload_n 2, 1) := by decide +kernel
theorem dX0_measure_92 : decode cX0_measure 92 = .ok (.iload_n 2, 1) := by decide +kernel
theorem dX0_measure_93 : decode cX0_measure 93 = .ok (.iconst 0, 1) := by decide +kernel
theorem dX0_measure_94 : decode cX0_measure 94 = .ok (.invokevirtual 39, 3) := by decide +kernel
theorem dX0_measure_97 : decode cX0_measure 97 = .ok (.aload_n 0, 1) := by decide +kernel
theorem dX0_measure_98 : decode cX0_measure 98 = .ok (.getfield 18, 3) := by decide +kernel
theorem dX0_measure_101 : decode cX0_measure 101 = .ok (.iload_n 2, 1) := by decide +kernel
theorem dX0_measure_102 : decode cX0_measure 102 = .ok (.iload_n 2, 1) := by decide +kernel
theorem dX0_measure_103 : decode cX0_measure 103 = .ok (.iconst 0, 1) := by decide +kernel
theorem dX0_measure_104 : decode cX0_measure 104 = .ok (.invokevirtual 39, 3) := by decide +kernel
theorem dX0_measure_107 : decode cX0_measure 107 = .ok (.iinc 2 1, 3) := by decide +kernel
theorem dX0_measure_110 : decode cX0_measure 110 = .ok (.goto (-108), 3) := by decide +kernel
theorem dX0_measure_113 : decode cX0_measure 113 = .ok (.aload_n 0, 1) := by decide +kernel
theorem dX0_measure_114 : decode cX0_measure 114 = .ok (.getfield 12, 3) := by decide +kernel
theorem dX0_measure_117 : decode cX0_measure 117 = .ok (.aload_n 1, 1) := by decide +kernel
theorem dX0_measure_118 : decode cX0_measure 118 = .ok (.getfield 21, 3) := by decide +kernel
theorem dX0_measure_121 : decode cX0_measure 121 = .ok (.invokevirtual 43, 3) := by decide +kernel
theorem dX0_measure_124 : decode cX0_measure 124 = .ok (.aload_n 0, 1) := by decide +kernel
theorem dX0_measure_125 : decode cX0_measure 125 = .ok (.getfield 18, 3) := by decide +kernel
theorem dX0_measure_128 : decode cX0_measure 128 = .ok (.aload_n 1, 1) := by decide +kernel
theorem dX0_measure_129 : decode cX0_measure 129 = .ok (.getfield 21, 3) := by decide +kernel
theorem dX0_measure_132 : decode cX0_measure 132 = .ok (.invokevirtual 43, 3) := by decide +kernel
theorem dX0_measure_135 : decode cX0_measure 135 = .ok (.return_, 1) := by decide +kernel
theorem dX0_meeting_0 : decode cX0_meeting 0 = .ok (.iconst (-1), 1) := by decide +kernel
theorem dX0_meeting_1 : decode cX0_meeting 1 = .ok (.istore 4, 2) := by decide +kernel
theorem dX0_meeting_3 : decode cX0_meeting 3 = .ok (.ldc 38, 2) := by decide +kernel
theorem dX0_meeting_5 : decode cX0_meeting 5 = .ok (.istore 5, 2) := by decide +kernel
theorem dX0_meeting_7 : decode cX0_meeting 7 = .ok (.iconst 0, 1) := by decide +kernel
theorem dX0_meeting_8 : decode cX0_meeting 8 = .ok (.istore 6, 2) := by decide +kernel
theorem dX0_meeting_10 : decode cX0_meeting 10 = .ok (.iload 6, 2) := by decide +kernel
theorem dX0_meeting_12 : decode cX0_meeting 12 = .ok (.iload_n 3, 1) := by decide +kernel
theorem dX0_meeting_13 : decode cX0_meeting 13 = .ok (.if_icmp .ge 47, 3) := by decide +kernel
theorem dX0_meeting_16 : decode cX0_meeting 16 = .ok (.aload_n 0, 1) := by decide +kernel
theorem dX0_meeting_17 : decode cX0_meeting 17 = .ok (.getfield 12, 3) := by decide +kernel
theorem dX0_meeting_20 : decode cX0_meeting 20 = .ok (.iload_n 1, 1) := by decide +kernel
theorem dX0_meeting_21 : decode cX0_meeting 21 = .ok (.iload 6, 2) := by decide +kernel
theorem dX0_meeting_23 : decode cX0_meeting 23 = .ok (.invokevirtual 30, 3) := by decide +kernel
theorem dX0_meeting_26 : decode cX0_meeting 26 = .ok (.aload_n 0, 1) := by decide +kernel
theorem dX0_meeting_27 : decode cX0_meeting 27 = .ok (.getfield 18, 3) := by decide +kernel
theorem dX0_meeting_30 : decode cX0_meeting 30 = .ok (.iload 6, 2) := by decide +kernel
theorem dX0_meeting_32 : decode cX0_meeting 32 = .ok (.iload_n 2, 1) := by decide +kernel
theorem dX0_meeting_33 : decode cX0_meeting 33 = .ok (.invokevirtual 30, 3) := by decide +kernel
theorem dX0_meeting_36 : decode cX0_meeting 36 = .ok (.iadd, 1) := by decide +kernel
theorem dX0_meeting_37 : decode cX0_meeting 37 = .ok (.istore 7, 2) := by decide +kernel
theorem dX0_meeting_39 : decode cX0_meeting 39 = .ok (.iload 7, 2) := by decide +kernel
theorem dX0_meeting_41 : decode cX0_meeting 41 = .ok (.iload 5, 2) := by decide +kernel
theorem dX0_meeting_43 : decode cX0_meeting 43 = .ok (.if_icmp .ge 11, 3) := by decide +kernel
theorem dX0_meeting_46 : decode cX0_meeting 46 = .ok (.iload 6, 2) := by decide +kernel
theorem dX0_meeting_48 : decode cX0_meeting 48 = .ok (.istore 4, 2) := by decide +kernel
theorem dX0_meeting_50 : decode cX0_meeting 50 = .ok (.iload 7, 2) := by decide +kernel
theorem dX0_meeting_52 : decode cX0_meeting 52 = .ok (.istore 5, 2) := by decide +kernel
theorem dX0_meeting_54 : decode cX0_meeting 54 = .ok (.iinc 6 1, 3) := by decide +kernel
theorem dX0_meeting_57 : decode cX0_meeting 57 = .ok (.goto (-47), 3) := by decide +kernel
theorem dX0_meeting_60 : decode cX0_meeting 60 = .ok (.iload 4, 2) := by decide +kernel
theorem dX0_meeting_62 : decode cX0_meeting 62 = .ok (.ireturn, 1) := by decide +kernel
theorem dX1_init_0 : decode cX1_init 0 = .ok (.aload_n 0, 1) := by decide +kernel
theorem dX1_init_1 : decode cX1_init 1 = .ok (.invokespecial 3, 3) := by decide +kernel
theorem dX1_init_4 : decode cX1_init 4 = .ok (.aload_n 0, 1) := by decide +kernel
theorem dX1_init_5 : decode cX1_init 5 = .ok (.sipush 144, 3) := by decide +kernel
theorem dX1_init_8 : decode cX1_init 8 = .ok (.newarray .int, 2) := by decide +kernel
theorem dX1_init_10 : decode cX1_init 10 = .ok (.putfield 9, 3) := by decide +kernel
theorem dX1_init_13 : decode cX1_init 13 = .ok (.return_, 1) := by decide +kernel
theorem dX1_get_0 : decode cX1_get 0 = .ok (.aload_n 0, 1) := by decide +kernel
theorem dX1_get_1 : decode cX1_get 1 = .ok (.getfield 9, 3) := by decide +kernel
theorem dX1_get_4 : decode cX1_get 4 = .ok (.iload_n 1, 1) := by decide +kernel
theorem dX1_get_5 : decode cX1_get 5 = .ok (.bipush 12, 2) := by decide +kernel
theorem dX1_get_7 : decode cX1_get 7 = .ok (.imul, 1) := by decide +kernel
theorem dX1_get_8 : decode cX1_get 8 = .ok (.iload_n 2, 1) := by decide +kernel
theorem dX1_get_9 : decode cX1_get 9 = .ok (.iadd, 1) := by decide +kernel
theorem dX1_get_10 : decode cX1_get 10 = .ok (.iaload, 1) := by decide +kernel
theorem dX1_get_11 : decode cX1_get 11 = .ok (.ireturn, 1) := by decide +kernel
theorem dX1_set_0 : decode cX1_set 0 = .ok (.aload_n 0, 1) := by decide +kernel
theorem dX1_set_1 : decode cX1_set 1 = .ok (.getfield 9, 3) := by decide +kernel
theorem dX1_set_4 : decode cX1_set 4 = .ok (.iload_n 1, 1) := by decide +kernel
theorem dX1_set_5 : decode cX1_set 5 = .ok (.bipush 12, 2) := by decide +kernel
theorem dX1_set_7 : decode cX1_set 7 = .ok (.imul, 1) := by decide +kernel
theorem dX1_set_8 : decode cX1_set 8 = .ok (.iload_n 2, 1) := by decide +kernel
theorem dX1_set_9 : decode cX1_set 9 = .ok (.iadd, 1) := by decide +kernel
theorem dX1_set_10 : decode cX1_set 10 = .ok (.iload_n 3, 1) := by decide +kernel
theorem dX1_set_11 : decode cX1_set 11 = .ok (.iastore, 1) := by decide +kernel
theorem dX1_set_12 : decode cX1_set 12 = .ok (.return_, 1) := by decide +kernel
theorem dX1_shorten_0 : decode cX1_shorten 0 = .ok (.iconst 0, 1) := by decide +kernel
theorem dX1_shorten_1 : decode cX1_shorten 1 = .ok (.istore_n 2, 1) := by decide +kernel
theorem dX1_shorten_2 : decode cX1_shorten 2 = .ok (.iload_n 2, 1) := by decide +kernel
theorem dX1_shorten_3 : decode cX1_shorten 3 = .ok (.iload_n 1, 1) := by decide +kernel
theorem dX1_shorten_4 : decode cX1_shorten 4 = .ok (.if_icmp .ge 46, 3) := by decide +kernel
theorem dX1_shorten_7 : decode cX1_shorten 7 = .ok (.iconst 0, 1) := by decide +kernel
theorem dX1_shorten_8 : decode cX1_shorten 8 = .ok (.istore_n 3, 1) := by decide +kernel
theorem dX1_shorten_9 : decode cX1_shorten 9 = .ok (.iload_n 3, 1) := by decide +kernel
theorem dX1_shorten_10 : decode cX1_shorten 10 = .ok (.iload_n 1, 1) := by decide +kernel
theorem dX1_shorten_11 : decode cX1_shorten 11 = .ok (.if_icmp .ge 33, 3) := by decide +kernel
theorem dX1_shorten_14 : decode cX1_shorten 14 = .ok (.aload_n 0, 1) := by decide +kernel
theorem dX1_shorten_15 : decode cX1_shorten 15 = .ok (.iload_n 3, 1) := by decide +kernel
theorem dX1_shorten_16 : decode cX1_shorten 16 = .ok (.iload_n 2, 1) := by decide +kernel
theorem dX1_shorten_17 : decode cX1_shorten 17 = .ok (.invokevirtual 15, 3) := by decide +kernel
theorem dX1_shorten_20 : decode cX1_shorten 20 = .ok (.istore 4, 2) := by decide +kernel
theorem dX1_shorten_22 : decode cX1_shorten 22 = .ok (.iload 4, 2) := by decide +kernel
theorem dX1_shorten_24 : decode cX1_shorten 24 = .ok (.ldc 19, 2) := by decide +kernel
theorem dX1_shorten_26 : decode cX1_shorten 26 = .ok (.if_icmp .ge 12, 3) := by decide +kernel
theorem dX1_shorten_29 : decode cX1_shorten 29 = .ok (.aload_n 0, 1) := by decide +kernel
theorem dX1_shorten_30 : decode cX1_shorten 30 = .ok (.iload_n 3, 1) := by decide +kernel
theorem dX1_shorten_31 : decode cX1_shorten 31 = .ok (.iload_n 2, 1) := by decide +kernel
theorem dX1_shorten_32 : decode cX1_shorten 32 = .ok (.iload 4, 2) := by decide +kernel
theorem dX1_shorten_34 : decode cX1_shorten 34 = .ok (.iload_n 1, 1) := by decide +kernel
theorem dX1_shorten_35 : decode cX1_shorten 35 = .ok (.invokevirtual 20, 3) := by decide +kernel
theorem dX1_shorten_38 : decode cX1_shorten 38 = .ok (.iinc 3 1, 3) := by decide +kernel
theorem dX1_shorten_41 : decode cX1_shorten 41 = .ok (.goto (-32), 3) := by decide +kernel
theorem dX1_shorten_44 : decode cX1_shorten 44 = .ok (.iinc 2 1, 3) := by decide +kernel
theorem dX1_shorten_47 : decode cX1_shorten 47 = .ok (.goto (-45), 3) := by decide +kernel
theorem dX1_shorten_50 : decode cX1_shorten 50 = .ok (.return_, 1) := by decide +kernel
theorem dX1_shortenRow_0 : decode cX1_shortenRow 0 = .ok (.iload_n 1, 1) := by decide +kernel
theorem dX1_shortenRow_1 : decode cX1_shortenRow 1 = .ok (.bipush 12, 2) := by decide +kernel
theorem dX1_shortenRow_3 : decode cX1_shortenRow 3 = .ok (.imul, 1) := by decide +kernel
theorem dX1_shortenRow_4 : decode cX1_shortenRow 4 = .ok (.istore 5, 2) := by decide +kernel
theorem dX1_shortenRow_6 : decode cX1_shortenRow 6 = .ok (.iload_n 2, 1) := by decide +kernel
theorem dX1_shortenRow_7 : decode cX1_shortenRow 7 = .ok (.bipush 12, 2) := by decide +kernel
theorem dX1_shortenRow_9 : decode cX1_shortenRow 9 = .ok (.imul, 1) := by decide +kernel
theorem dX1_shortenRow_10 : decode cX1_shortenRow 10 = .ok (.istore 6, 2) := by decide +kernel
theorem dX1_shortenRow_12 : decode cX1_shortenRow 12 = .ok (.iconst 0, 1) := by decide +kernel
theorem dX1_shortenRow_13 : decode cX1_shortenRow 13 = .ok (.istore 7, 2) := by decide +kernel
theorem dX1_shortenRow_15 : decode cX1_shortenRow 15 = .ok (.iload 7, 2) := by decide +kernel
theorem dX1_shortenRow_17 : decode cX1_shortenRow 17 = .ok (.iload 4, 2) := by decide +kernel
theorem dX1_shortenRow_19 : decode cX1_shortenRow 19 = .ok (.if_icmp .ge 50, 3) := by decide +kernel
theorem dX1_shortenRow_22 : decode cX1_shortenRow 22 = .ok (.iload_n 3, 1) := by decide +kernel
theorem dX1_shortenRow_23 : decode cX1_shortenRow 23 = .ok (.aload_n 0, 1) := by decide +kernel
theorem dX1_shortenRow_24 : decode cX1_shortenRow 24 = .ok (.getfield 9, 3) := by decide +kernel
theorem dX1_shortenRow_27 : decode cX1_shortenRow 27 = .ok (.iload 6, 2) := by decide +kernel
theorem dX1_shortenRow_29 : decode cX1_shortenRow 29 = .ok (.iload 7, 2) := by decide +kernel
theorem dX1_shortenRow_31 : decode cX1_shortenRow 31 = .ok (.iadd, 1) := by decide +kernel
theorem dX1_shortenRow_32 : decode cX1_shortenRow 32 = .ok (.iaload, 1) := by decide +kernel
theorem dX1_shortenRow_33 : decode cX1_shortenRow 33 = .ok (.iadd, 1) := by decide +kernel
theorem dX1_shortenRow_34 : decode cX1_shortenRow 34 = .ok (.istore 8, 2) := by decide +kernel
theorem dX1_shortenRow_36 : decode cX1_shortenRow 36 = .ok (.iload 8, 2) := by decide +kernel
theorem dX1_shortenRow_38 : decode cX1_shortenRow 38 = .ok (.aload_n 0, 1) := by decide +kernel
theorem dX1_shortenRow_39 : decode cX1_shortenRow 39 = .ok (.getfield 9, 3) := by decide +kernel
theorem dX1_shortenRow_42 : decode cX1_shortenRow 42 = .ok (.iload 5, 2) := by decide +kernel
theorem dX1_shortenRow_44 : decode cX1_shortenRow 44 = .ok (.iload 7, 2) := by decide +kernel
theorem dX1_shortenRow_46 : decode cX1_shortenRow 46 = .ok (.iadd, 1) := by decide +kernel
theorem dX1_shortenRow_47 : decode cX1_shortenRow 47 = .ok (.iaload, 1) := by decide +kernel
theorem dX1_shortenRow_48 : decode cX1_shortenRow 48 = .ok (.if_icmp .ge 15, 3) := by decide +kernel
theorem dX1_shortenRow_51 : decode cX1_shortenRow 51 = .ok (.aload_n 0, 1) := by decide +kernel
theorem dX1_shortenRow_52 : decode cX1_shortenRow 52 = .ok (.getfield 9, 3) := by decide +kernel
theorem dX1_shortenRow_55 : decode cX1_shortenRow 55 = .ok (.iload 5, 2) := by decide +kernel
theorem dX1_shortenRow_57 : decode cX1_shortenRow 57 = .ok (.iload 7, 2) := by decide +kernel
theorem dX1_shortenRow_59 : decode cX1_shortenRow 59 = .ok (.iadd, 1) := by decide +kernel
theorem dX1_shortenRow_60 : decode cX1_shortenRow 60 = .ok (.iload 8, 2) := by decide +kernel
theorem dX1_shortenRow_62 : decode cX1_shortenRow 62 = .ok (.iastore, 1) := by decide +kernel
theorem dX1_shortenRow_63 : decode cX1_shortenRow 63 = .ok (.iinc 7 1, 3) := by decide +kernel
theorem dX1_shortenRow_66 : decode cX1_shortenRow 66 = .ok (.goto (-51), 3) := by decide +kernel
theorem dX1_shortenRow_69 : decode cX1_shortenRow 69 = .ok (.return_, 1) := by decide +kernel
theorem dX2_init_0 : decode cX2_init 0 = .ok (.aload_n 0, 1) := by decide +kernel
theorem dX2_init_1 : decode cX2_init 1 = .ok (.invokespecial 3, 3) := by decide +kernel
theorem dX2_init_4 : decode cX2_init 4 = .ok (.aload_n 0, 1) := by decide +kernel
theorem dX2_init_5 : decode cX2_init 5 = .ok (.new 9, 3) := by decide +kernel
theorem dX2_init_8 : decode cX2_init 8 = .ok (.dup, 1) := by decide +kernel
theorem dX2_init_9 : decode cX2_init 9 = .ok (.invokespecial 11, 3) := by decide +kernel
theorem dX2_init_12 : decode cX2_init 12 = .ok (.putfield 12, 3) := by decide +kernel
theorem dX2_init_15 : decode cX2_init 15 = .ok (.aload_n 0, 1) := by decide +kernel
theorem dX2_init_16 : decode cX2_init 16 = .ok (.new 9, 3) := by decide +kernel
theorem dX2_init_19 : decode cX2_init 19 = .ok (.dup, 1) := by decide +kernel
theorem dX2_init_20 : decode cX2_init 20 = .ok (.invokespecial 11, 3) := by decide +kernel
theorem dX2_init_23 : decode cX2_init 23 = .ok (.putfield 18, 3) := by decide +kernel
theorem dX2_init_26 : decode cX2_init 26 = .ok (.aload_n 0, 1) := by decide +kernel
theorem dX2_init_27 : decode cX2_init 27 = .ok (.bipush 12, 2) := by decide +kernel
theorem dX2_init_29 : decode cX2_init 29 = .ok (.newarray .int, 2) := by decide +kernel
theorem dX2_init_31 : decode cX2_init 31 = .ok (.putfield 21, 3) := by decide +kernel
theorem dX2_init_34 : decode cX2_init 34 = .ok (.aload_n 0, 1) := by decide +kernel
theorem dX2_init_35 : decode cX2_init 35 = .ok (.bipush 12, 2) := by decide +kernel
theorem dX2_init_37 : decode cX2_init 37 = .ok (.newarray .int, 2) := by decide +kernel
theorem dX2_init_39 : decode cX2_init 39 = .ok (.putfield 25, 3) := by decide +kernel
theorem dX2_init_42 : decode cX2_init 42 = .ok (.aload_n 0, 1) := by decide +kernel
theorem dX2_init_43 : decode cX2_init 43 = .ok (.bipush 12, 2) := by decide +kernel
theorem dX2_init_45 : decode cX2_init 45 = .ok (.newarray .int, 2) := by decide +kernel
theorem dX2_init_47 : decode cX2_init 47 = .ok (.putfield 28, 3) := by decide +kernel
theorem dX2_init_50 : decode cX2_init 50 = .ok (.aload_n 0, 1) := by decide +kernel
theorem dX2_init_51 : decode cX2_init 51 = .ok (.bipush 12, 2) := by decide +kernel
theorem dX2_init_53 : decode cX2_init 53 = .ok (.newarray .int, 2) := by decide +kernel
theorem dX2_init_55 : decode cX2_init 55 = .ok (.putfield 31, 3) := by decide +kernel
theorem dX2_init_58 : decode cX2_init 58 = .ok (.aload_n 0, 1) := by decide +kernel
theorem dX2_init_59 : decode cX2_init 59 = .ok (.new 9, 3) := by decide +kernel
theorem dX2_init_62 : decode cX2_init 62 = .ok (.dup, 1) := by decide +kernel
theorem dX2_init_63 : decode cX2_init 63 = .ok (.invokespecial 11, 3) := by decide +kernel
theorem dX2_init_66 : decode cX2_init 66 = .ok (.putfield 34, 3) := by decide +kernel
theorem dX2_init_69 : decode cX2_init 69 = .ok (.aload_n 0, 1) := by decide +kernel
theorem dX2_init_70 : decode cX2_init 70 = .ok (.new 9, 3) := by decide +kernel
theorem dX2_init_73 : decode cX2_init 73 = .ok (.dup, 1) := by decide +kernel
theorem dX2_init_74 : decode cX2_init 74 = .ok (.invokespecial 11, 3) := by decide +kernel
theorem dX2_init_77 : decode cX2_init 77 = .ok (.putfield 37, 3) := by decide +kernel
theorem dX2_init_80 : decode cX2_init 80 = .ok (.aload_n 0, 1) := by decide +kernel
theorem dX2_init_81 : decode cX2_init 81 = .ok (.new 9, 3) := by decide +kernel
theorem dX2_init_84 : decode cX2_init 84 = .ok (.dup, 1) := by decide +kernel
theorem dX2_init_85 : decode cX2_init 85 = .ok (.invokespecial 11, 3) := by decide +kernel
theorem dX2_init_88 : decode cX2_init 88 = .ok (.putfield 40, 3) := by decide +kernel
theorem dX2_init_91 : decode cX2_init 91 = .ok (.return_, 1) := by decide +kernel
theorem dX2_findOrder_0 : decode cX2_findOrder 0 = .ok (.aload_n 0, 1) := by decide +kernel
theorem dX2_findOrder_1 : decode cX2_findOrder 1 = .ok (.aload_n 1, 1) := by decide +kernel
theorem dX2_findOrder_2 : decode cX2_findOrder 2 = .ok (.invokevirtual 43, 3) := by decide +kernel
theorem dX2_findOrder_5 : decode cX2_findOrder 5 = .ok (.iconst 0, 1) := by decide +kernel
theorem dX2_findOrder_6 : decode cX2_findOrder 6 = .ok (.istore_n 2, 1) := by decide +kernel
theorem dX2_findOrder_7 : decode cX2_findOrder 7 = .ok (.iload_n 2, 1) := by decide +kernel
theorem dX2_findOrder_8 : decode cX2_findOrder 8 = .ok (.aload_n 0, 1) := by decide +kernel
theorem dX2_findOrder_9 : decode cX2_findOrder 9 = .ok (.getfield 47, 3) := by decide +kernel
theorem dX2_findOrder_12 : decode cX2_findOrder 12 = .ok (.if_icmp .ge 27, 3) := by decide +kernel
theorem dX2_findOrder_15 : decode cX2_findOrder 15 = .ok (.aload_n 0, 1) := by decide +kernel
theorem dX2_findOrder_16 : decode cX2_findOrder 16 = .ok (.aload_n 0, 1) := by decide +kernel
theorem dX2_findOrder_17 : decode cX2_findOrder 17 = .ok (.getfield 34, 3) := by decide +kernel
theorem dX2_findOrder_20 : decode cX2_findOrder 20 = .ok (.iconst (-1), 1) := by decide +kernel
theorem dX2_findOrder_21 : decode cX2_findOrder 21 = .ok (.invokevirtual 51, 3) := by decide +kernel
theorem dX2_findOrder_24 : decode cX2_findOrder 24 = .ok (.aload_n 0, 1) := by decide +kernel
theorem dX2_findOrder_25 : decode cX2_findOrder 25 = .ok (.aload_n 0, 1) := by decide +kernel
theorem dX2_findOrder_26 : decode cX2_findOrder 26 = .ok (.invokevirtual 55, 3) := by decide +kernel
theorem dX2_findOrder_29 : decode cX2_findOrder 29 = .ok (.iload_n 2, 1) := by decide +kernel
theorem dX2_findOrder_30 : decode cX2_findOrder 30 = .ok (.invokevirtual 59, 3) := by decide +kernel
theorem dX2_findOrder_33 : decode cX2_findOrder 33 = .ok (.iinc 2 1, 3) := by decide +kernel
theorem dX2_findOrder_36 : decode cX2_findOrder 36 = .ok (.goto (-29), 3) := by decide +kernel
theorem dX2_findOrder_39 : decode cX2_findOrder 39 = .ok (.return_, 1) := by decide +kernel
theorem dX2_keepOrder_0 : decode cX2_keepOrder 0 = .ok (.aload_n 0, 1) := by decide +kernel
theorem dX2_keepOrder_1 : decode cX2_keepOrder 1 = .ok (.aload_n 1, 1) := by decide +kernel
theorem dX2_keepOrder_2 : decode cX2_keepOrder 2 = .ok (.invokevirtual 43, 3) := by decide +kernel
theorem dX2_keepOrder_5 : decode cX2_keepOrder 5 = .ok (.iconst 0, 1) := by decide +kernel
theorem dX2_keepOrder_6 : decode cX2_keepOrder 6 = .ok (.istore_n 2, 1) := by decide +kernel
theorem dX2_keepOrder_7 : decode cX2_keepOrder 7 = .ok (.iload_n 2, 1) := by decide +kernel
theorem dX2_keepOrder_8 : decode cX2_keepOrder 8 = .ok (.aload_n 0, 1) := by decide +kernel
theorem dX2_keepOrder_9 : decode cX2_keepOrder 9 = .ok (.getfield 47, 3) := by decide +kernel
theorem dX2_keepOrder_12 : decode cX2_keepOrder 12 = .ok (.if_icmp .ge 29, 3) := by decide +kernel
theorem dX2_keepOrder_15 : decode cX2_keepOrder 15 = .ok (.aload_n 0, 1) := by decide +kernel
theorem dX2_keepOrder_16 : decode cX2_keepOrder 16 = .ok (.aload_n 0, 1) := by decide +kernel
theorem dX2_keepOrder_17 : decode cX2_keepOrder 17 = .ok (.getfield 34, 3) := by decide +kernel
theorem dX2_keepOrder_20 : decode cX2_keepOrder 20 = .ok (.iconst (-1), 1) := by decide +kernel
theorem dX2_keepOrder_21 : decode cX2_keepOrder 21 = .ok (.invokevirtual 51, 3) := by decide +kernel
theorem dX2_keepOrder_24 : decode cX2_keepOrder 24 = .ok (.aload_n 0, 1) := by decide +kernel
theorem dX2_keepOrder_25 : decode cX2_keepOrder 25 = .ok (.aload_n 0, 1) := by decide +kernel
theorem dX2_keepOrder_26 : decode cX2_keepOrder 26 = .ok (.getfield 25, 3) := by decide +kernel
theorem dX2_keepOrder_29 : decode cX2_keepOrder 29 = .ok (.iload_n 2, 1) := by decide +kernel
theorem dX2_keepOrder_30 : decode cX2_keepOrder 30 = .ok (.iaload, 1) := by decide +kernel
theorem dX2_keepOrder_31 : decode cX2_keepOrder 31 = .ok (.iload_n 2, 1) := by decide +kernel
theorem dX2_keepOrder_32 : decode cX2_keepOrder 32 = .ok (.invokevirtual 59, 3) := by decide +kernel
theorem dX2_keepOrder_35 : decode cX2_keepOrder 35 = .ok (.iinc 2 1, 3) := by decide +kernel
theorem dX2_keepOrder_38 : decode cX2_keepOrder 38 = .ok (.goto (-31), 3) := by decide +kernel
theorem dX2_keepOrder_41 : decode cX2_keepOrder 41 = .ok (.return_, 1) := by decide +kernel
theorem dX2_noteRanks_0 : decode cX2_noteRanks 0 = .ok (.aload_n 0, 1) := by decide +kernel
theorem dX2_noteRanks_1 : decode cX2_noteRanks 1 = .ok (.getfield 21, 3) := by decide +kernel
theorem dX2_noteRanks_4 : decode cX2_noteRanks 4 = .ok (.iconst 0, 1) := by decide +kernel
theorem dX2_noteRanks_5 : decode cX2_noteRanks 5 = .ok (.aload_n 0, 1) := by decide +kernel
theorem dX2_noteRanks_6 : decode cX2_noteRanks 6 = .ok (.getfield 31, 3) := by decide +kernel
theorem dX2_noteRanks_9 : decode cX2_noteRanks 9 = .ok (.iconst 0, 1) := by decide +kernel
theorem dX2_noteRanks_10 : decode cX2_noteRanks 10 = .ok (.bipush 12, 2) := by decide +kernel
theorem dX2_noteRanks_12 : decode cX2_noteRanks 12 = .ok (.invokestatic 63, 3) := by decide +kernel
theorem dX2_noteRanks_15 : decode cX2_noteRanks 15 = .ok (.return_, 1) := by decide +kernel
theorem dX2_countMoved_0 : decode cX2_countMoved 0 = .ok (.iconst 0, 1) := by decide +kernel
theorem dX2_countMoved_1 : decode cX2_countMoved 1 = .ok (.istore_n 1, 1) := by decide +kernel
theorem dX2_countMoved_2 : decode cX2_countMoved 2 = .ok (.iconst 0, 1) := by decide +kernel
theorem dX2_countMoved_3 : decode cX2_countMoved 3 = .ok (.istore_n 2, 1) := by decide +kernel
theorem dX2_countMoved_4 : decode cX2_countMoved 4 = .ok (.iload_n 2, 1) := by decide +kernel
theorem dX2_countMoved_5 : decode cX2_countMoved 5 = .ok (.aload_n 0, 1) := by decide +kernel
theorem dX2_countMoved_6 : decode cX2_countMoved 6 = .ok (.getfield 47, 3) := by decide +kernel
theorem dX2_countMoved_9 : decode cX2_countMoved 9 = .ok (.if_icmp .ge 32, 3) := by decide +kernel
theorem dX2_countMoved_12 : decode cX2_countMoved 12 = .ok (.iload_n 1, 1) := by decide +kernel
theorem dX2_countMoved_13 : decode cX2_countMoved 13 = .ok (.aload_n 0, 1) := by decide +kernel
theorem dX2_countMoved_14 : decode cX2_countMoved 14 = .ok (.getfield 21, 3) := by decide +kernel
theorem dX2_countMoved_17 : decode cX2_countMoved 17 = .ok (.iload_n 2, 1) := by decide +kernel
theorem dX2_countMoved_18 : decode cX2_countMoved 18 = .ok (.iaload, 1) := by decide +kernel
theorem dX2_countMoved_19 : decode cX2_countMoved 19 = .ok (.aload_n 0, 1) := by decide +kernel
theorem dX2_countMoved_20 : decode cX2_countMoved 20 = .ok (.getfield 31, 3) := by decide +kernel
theorem dX2_countMoved_23 : decode cX2_countMoved 23 = .ok (.iload_n 2, 1) := by decide +kernel
theorem dX2_countMoved_24 : decode cX2_countMoved 24 = .ok (.iaload, 1) := by decide +kernel
theorem dX2_countMoved_25 : decode cX2_countMoved 25 = .ok (.if_icmp .eq 7, 3) := by decide +kernel
theorem dX2_countMoved_28 : decode cX2_countMoved 28 = .ok (.iconst 1, 1) := by decide +kernel
theorem dX2_countMoved_29 : decode cX2_countMoved 29 = .ok (.goto 4, 3) := by decide +kernel
theorem dX2_countMoved_32 : decode cX2_countMoved 32 = .ok (.iconst 0, 1) := by decide +kernel
theorem dX2_countMoved_33 : decode cX2_countMoved 33 = .ok (.iadd, 1) := by decide +kernel
theorem dX2_countMoved_34 : decode cX2_countMoved 34 = .ok (.istore_n 1, 1) := by decide +kernel
theorem dX2_countMoved_35 : decode cX2_countMoved 35 = .ok (.iinc 2 1, 3) := by decide +kernel
theorem dX2_countMoved_38 : decode cX2_countMoved 38 = .ok (.goto (-34), 3) := by decide +kernel
theorem dX2_countMoved_41 : decode cX2_countMoved 41 = .ok (.iload_n 1, 1) := by decide +kernel
theorem dX2_countMoved_42 : decode cX2_countMoved 42 = .ok (.ireturn, 1) := by decide +kernel
theorem dX2_startAnew_0 : decode cX2_startAnew 0 = .ok (.aload_n 0, 1) := by decide +kernel
theorem dX2_startAnew_1 : decode cX2_startAnew 1 = .ok (.aload_n 1, 1) := by decide +kernel
theorem dX2_startAnew_2 : decode cX2_startAnew 2 = .ok (.getfield 69, 3) := by decide +kernel
theorem dX2_startAnew_5 : decode cX2_startAnew 5 = .ok (.putfield 47, 3) := by decide +kernel
theorem dX2_startAnew_8 : decode cX2_startAnew 8 = .ok (.iconst 0, 1) := by decide +kernel
theorem dX2_startAnew_9 : decode cX2_startAnew 9 = .ok (.istore_n 2, 1) := by decide +kernel
theorem dX2_startAnew_10 : decode cX2_startAnew 10 = .ok (.iload_n 2, 1) := by decide +kernel
theorem dX2_startAnew_11 : decode cX2_startAnew 11 = .ok (.aload_n 0, 1) := by decide +kernel
theorem dX2_startAnew_12 : decode cX2_startAnew 12 = .ok (.getfield 47, 3) := by decide +kernel
theorem dX2_startAnew_15 : decode cX2_startAnew 15 = .ok (.if_icmp .ge 57, 3) := by decide +kernel
theorem dX2_startAnew_18 : decode cX2_startAnew 18 = .ok (.aload_n 0, 1) := by decide +kernel
theorem dX2_startAnew_19 : decode cX2_startAnew 19 = .ok (.getfield 21, 3) := by decide +kernel
theorem dX2_startAnew_22 : decode cX2_startAnew 22 = .ok (.iload_n 2, 1) := by decide +kernel
theorem dX2_startAnew_23 : decode cX2_startAnew 23 = .ok (.iconst (-1), 1) := by decide +kernel
theorem dX2_startAnew_24 : decode cX2_startAnew 24 = .ok (.iastore, 1) := by decide +kernel
theorem dX2_startAnew_25 : decode cX2_startAnew 25 = .ok (.iconst 0, 1) := by decide +kernel
theorem dX2_startAnew_26 : decode cX2_startAnew 26 = .ok (.istore_n 3, 1) := by decide +kernel
theorem dX2_startAnew_27 : decode cX2_startAnew 27 = .ok (.iload_n 3, 1) := by decide +kernel
theorem dX2_startAnew_28 : decode cX2_startAnew 28 = .ok (.aload_n 0, 1) := by decide +kernel
theorem dX2_startAnew_29 : decode cX2_startAnew 29 = .ok (.getfield 47, 3) := by decide +kernel
theorem dX2_startAnew_32 : decode cX2_startAnew 32 = .ok (.if_icmp .ge 34, 3) := by decide +kernel
theorem dX2_startAnew_35 : decode cX2_startAnew 35 = .ok (.aload_n 0, 1) := by decide +kernel
theorem dX2_startAnew_36 : decode cX2_startAnew 36 = .ok (.getfield 12, 3) := by decide +kernel
theorem dX2_startAnew_39 : decode cX2_startAnew 39 = .ok (.iload_n 2, 1) := by decide +kernel
theorem dX2_startAnew_40 : decode cX2_startAnew 40 = .ok (.iload_n 3, 1) := by decide +kernel
theorem dX2_startAnew_41 : decode cX2_startAnew 41 = .ok (.aload_n 1, 1) := by decide +kernel
theorem dX2_startAnew_42 : decode cX2_startAnew 42 = .ok (.iload_n 2, 1) := by decide +kernel
theorem dX2_startAnew_43 : decode cX2_startAnew 43 = .ok (.iload_n 3, 1) := by decide +kernel
theorem dX2_startAnew_44 : decode cX2_startAnew 44 = .ok (.invokevirtual 72, 3) := by decide +kernel
theorem dX2_startAnew_47 : decode cX2_startAnew 47 = .ok (.invokevirtual 76, 3) := by decide +kernel
theorem dX2_startAnew_50 : decode cX2_startAnew 50 = .ok (.aload_n 0, 1) := by decide +kernel
theorem dX2_startAnew_51 : decode cX2_startAnew 51 = .ok (.getfield 18, 3) := by decide +kernel
theorem dX2_startAnew_54 : decode cX2_startAnew 54 = .ok (.iload_n 2, 1) := by decide +kernel
theorem dX2_startAnew_55 : decode cX2_startAnew 55 = .ok (.iload_n 3, 1) := by decide +kernel
theorem dX2_startAnew_56 : decode cX2_startAnew 56 = .ok (.iconst (-1), 1) := by decide +kernel
theorem dX2_startAnew_57 : decode cX2_startAnew 57 = .ok (.invokevirtual 76, 3) := by decide +kernel
theorem dX2_startAnew_60 : decode cX2_startAnew 60 = .ok (.iinc 3 1, 3) := by decide +kernel
theorem dX2_startAnew_63 : decode cX2_startAnew 63 = .ok (.goto (-36), 3) := by decide +kernel
theorem dX2_startAnew_66 : decode cX2_startAnew 66 = .ok (.iinc 2 1, 3) := by decide +kernel
theorem dX2_startAnew_69 : decode cX2_startAnew 69 = .ok (.goto (-59), 3) := by decide +kernel
theorem dX2_startAnew_72 : decode cX2_startAnew 72 = .ok (.return_, 1) := by decide +kernel
theorem dX2_isFree_0 : decode cX2_isFree 0 = .ok (.aload_n 0, 1) := by decide +kernel
theorem dX2_isFree_1 : decode cX2_isFree 1 = .ok (.getfield 21, 3) := by decide +kernel
theorem dX2_isFree_4 : decode cX2_isFree 4 = .ok (.iload_n 1, 1) := by decide +kernel
theorem dX2_isFree_5 : decode cX2_isFree 5 = .ok (.iaload, 1) := by decide +kernel
theorem dX2_isFree_6 : decode cX2_isFree 6 = .ok (.iconst (-1), 1) := by decide +kernel
theorem dX2_isFree_7 : decode cX2_isFree 7 = .ok (.if_icmp .ne 7, 3) := by decide +kernel
theorem dX2_isFree_10 : decode cX2_isFree 10 = .ok (.iconst 1, 1) := by decide +kernel
theorem dX2_isFree_11 : decode cX2_isFree 11 = .ok (.goto 4, 3) := by decide +kernel
theorem dX2_isFree_14 : decode cX2_isFree 14 = .ok (.iconst 0, 1) := by decide +kernel
theorem dX2_isFree_15 : decode cX2_isFree 15 = .ok (.ireturn, 1) := by decide +kernel
theorem dX2_measureFree_0 : decode cX2_measureFree 0 = .ok (.iconst 0, 1) := by decide +kernel
theorem dX2_measureFree_1 : decode cX2_measureFree 1 = .ok (.istore_n 3, 1) := by decide +kernel
theorem dX2_measureFree_2 : decode cX2_measureFree 2 = .ok (.iload_n 3, 1) := by decide +kernel
theorem dX2_measureFree_3 : decode cX2_measureFree 3 = .ok (.aload_n 0, 1) := by decide +kernel
theorem dX2_measureFree_4 : decode cX2_measureFree 4 = .ok (.getfield 47, 3) := by decide +kernel
theorem dX2_measureFree_7 : decode cX2_measureFree 7 = .ok (.if_icmp .ge 89, 3) := by decide +kernel
theorem dX2_measureFree_10 : decode cX2_measureFree 10 = .ok (.iconst 0, 1) := by decide +kernel
theorem dX2_measureFree_11 : decode cX2_measureFree 11 = .ok (.istore 4, 2) := by decide +kernel
theorem dX2_measureFree_13 : decode cX2_measureFree 13 = .ok (.iload 4, 2) := by decide +kernel
theorem dX2_measureFree_15 : decode cX2_measureFree 15 = .ok (.aload_n 0, 1) := by decide +kernel
theorem dX2_measureFree_16 : decode cX2_measureFree 16 = .ok (.getfield 47, 3) := by decide +kernel
theorem dX2_measureFree_19 : decode cX2_measureFree 19 = .ok (.if_icmp .ge 71, 3) := by decide +kernel
theorem dX2_measureFree_22 : decode cX2_measureFree 22 = .ok (.aload_n 0, 1) := by decide +kernel
theorem dX2_measureFree_23 : decode cX2_measureFree 23 = .ok (.iload_n 3, 1) := by decide +kernel
theorem dX2_measureFree_24 : decode cX2_measureFree 24 = .ok (.invokevirtual 80, 3) := by decide +kernel
theorem dX2_measureFree_27 : decode cX2_measureFree 27 = .ok (.ifCond .eq 27, 3) := by decide +kernel
theorem dX2_measureFree_30 : decode cX2_measureFree 30 = .ok (.aload_n 0, 1) := by decide +kernel
theorem dX2_measureFree_31 : decode cX2_measureFree 31 = .ok (.iload 4, 2) := by decide +kernel
theorem dX2_measureFree_33 : decode cX2_measureFree 33 = .ok (.invokevirtual 80, 3) := by decide +kernel
theorem dX2_measureFree_36 : decode cX2_measureFree 36 = .ok (.ifCond .eq 18, 3) := by decide +kernel
theorem dX2_measureFree_39 : decode cX2_measureFree 39 = .ok (.iload_n 3, 1) := by decide +kernel
theorem dX2_measureFree_40 : decode cX2_measureFree 40 = .ok (.iload_n 2, 1) := by decide +kernel
theorem dX2_measureFree_41 : decode cX2_measureFree 41 = .ok (.if_icmp .eq 13, 3) := by decide +kernel
theorem dX2_measureFree_44 : decode cX2_measureFree 44 = .ok (.iload 4, 2) := by decide +kernel
theorem dX2_measureFree_46 : decode cX2_measureFree 46 = .ok (.iload_n 2, 1) := by decide +kernel
theorem dX2_measureFree_47 : decode cX2_measureFree 47 = .ok (.if_icmp .eq 7, 3) := by decide +kernel
theorem dX2_measureFree_50 : decode cX2_measureFree 50 = .ok (.iconst 1, 1) := by decide +kernel
theorem dX2_measureFree_51 : decode cX2_measureFree 51 = .ok (.goto 4, 3) := by decide +kernel
theorem dX2_measureFree_54 : decode cX2_measureFree 54 = .ok (.iconst 0, 1) := by decide +kernel
theorem dX2_measureFree_55 : decode cX2_measureFree 55 = .ok (.istore 5, 2) := by decide +kernel
theorem dX2_measureFree_57 : decode cX2_measureFree 57 = .ok (.aload_n 1, 1) := by decide +kernel
theorem dX2_measureFree_58 : decode cX2_measureFree 58 = .ok (.iload_n 3, 1) := by decide +kernel
theorem dX2_measureFree_59 : decode cX2_measureFree 59 = .ok (.iload 4, 2) := by decide +kernel
theorem dX2_measureFree_61 : decode cX2_measureFree 61 = .ok (.iload 5, 2) := by decide +kernel
theorem dX2_measureFree_63 : decode cX2_measureFree 63 = .ok (.ifCond .eq 16, 3) := by decide +kernel
theorem dX2_measureFree_66 : decode cX2_measureFree 66 = .ok (.aload_n 0, 1) := by decide +kernel
theorem dX2_measureFree_67 : decode cX2_measureFree 67 = .ok (.getfield 12, 3) := by decide +kernel
theorem dX2_measureFree_70 : decode cX2_measureFree 70 = .ok (.iload_n 3, 1) := by decide +kernel
theorem dX2_measureFree_71 : decode cX2_measureFree 71 = .ok (.iload 4, 2) := by decide +kernel
theorem dX2_measureFree_73 : decode cX2_measureFree 73 = .ok (.invokevirtual 84, 3) := by decide +kernel
theorem dX2_measureFree_76 : decode cX2_measureFree 76 = .ok (.goto 5, 3) := by decide +kernel
theorem dX2_measureFree_79 : decode cX2_measureFree 79 = .ok (.ldc 87, 2) := by decide +kernel
theorem dX2_measureFree_81 : decode cX2_measureFree 81 = .ok (.invokevirtual 76, 3) := by decide +kernel
theorem dX2_measureFree_84 : decode cX2_measureFree 84 = .ok (.iinc 4 1, 3) := by decide +kernel
theorem dX2_measureFree_87 : decode cX2_measureFree 87 = .ok (.goto (-74), 3) := by decide +kernel
theorem dX2_measureFree_90 : decode cX2_measureFree 90 = .ok (.iinc 3 1, 3) := by decide +kernel
theorem dX2_measureFree_93 : decode cX2_measureFree 93 = .ok (.goto (-91), 3) := by decide +kernel
theorem dX2_measureFree_96 : decode cX2_measureFree 96 = .ok (.aload_n 1, 1) := by decide +kernel
theorem dX2_measureFree_97 : decode cX2_measureFree 97 = .ok (.aload_n 0, 1) := by decide +kernel
theorem dX2_measureFree_98 : decode cX2_measureFree 98 = .ok (.getfield 47, 3) := by decide +kernel
theorem dX2_measureFree_101 : decode cX2_measureFree 101 = .ok (.invokevirtual 88, 3) := by decide +kernel
theorem dX2_measureFree_104 : decode cX2_measureFree 104 = .ok (.return_, 1) := by decide +kernel
theorem dX2_pickNext_0 : decode cX2_pickNext 0 = .ok (.iconst 0, 1) := by decide +kernel
theorem dX2_pickNext_1 : decode cX2_pickNext 1 = .ok (.istore_n 1, 1) := by decide +kernel
theorem dX2_pickNext_2 : decode cX2_pickNext 2 = .ok (.ldc 87, 2) := by decide +kernel
theorem dX2_pickNext_4 : decode cX2_pickNext 4 = .ok (.istore_n 2, 1) := by decide +kernel
theorem dX2_pickNext_5 : decode cX2_pickNext 5 = .ok (.iconst 0, 1) := by decide +kernel
theorem dX2_pickNext_6 : decode cX2_pickNext 6 = .ok (.istore_n 3, 1) := by decide +kernel
theorem dX2_pickNext_7 : decode cX2_pickNext 7 = .ok (.iload_n 3, 1) := by decide +kernel
theorem dX2_pickNext_8 : decode cX2_pickNext 8 = .ok (.aload_n 0, 1) := by decide +kernel
theorem dX2_pickNext_9 : decode cX2_pickNext 9 = .ok (.getfield 47, 3) := by decide +kernel
theorem dX2_pickNext_12 : decode cX2_pickNext 12 = .ok (.if_icmp .ge 41, 3) := by decide +kernel
theorem dX2_pickNext_15 : decode cX2_pickNext 15 = .ok (.aload_n 0, 1) := by decide +kernel
theorem dX2_pickNext_16 : decode cX2_pickNext 16 = .ok (.iload_n 3, 1) := by decide +kernel
theorem dX2_pickNext_17 : decode cX2_pickNext 17 = .ok (.invokevirtual 80, 3) := by decide +kernel
theorem dX2_pickNext_20 : decode cX2_pickNext 20 = .ok (.ifCond .eq 27, 3) := by decide +kernel
theorem dX2_pickNext_23 : decode cX2_pickNext 23 = .ok (.aload_n 0, 1) := by decide +kernel
theorem dX2_pickNext_24 : decode cX2_pickNext 24 = .ok (.iload_n 3, 1) := by decide +kernel
theorem dX2_pickNext_25 : decode cX2_pickNext 25 = .ok (.invokevirtual 92, 3) := by decide +kernel
theorem dX2_pickNext_28 : decode cX2_pickNext 28 = .ok (.aload_n 0, 1) := by decide +kernel
theorem dX2_pickNext_29 : decode cX2_pickNext 29 = .ok (.iload_n 3, 1) := by decide +kernel
theorem dX2_pickNext_30 : decode cX2_pickNext 30 = .ok (.invokevirtual 96, 3) := by decide +kernel
theorem dX2_pickNext_33 : decode cX2_pickNext 33 = .ok (.isub, 1) := by decide +kernel
theorem dX2_pickNext_34 : decode cX2_pickNext 34 = .ok (.istore 4, 2) := by decide +kernel
theorem dX2_pickNext_36 : decode cX2_pickNext 36 = .ok (.iload 4, 2) := by decide +kernel
theorem dX2_pickNext_38 : decode cX2_pickNext 38 = .ok (.iload_n 2, 1) := by decide +kernel
theorem dX2_pickNext_39 : decode cX2_pickNext 39 = .ok (.if_icmp .ge 8, 3) := by decide +kernel
theorem dX2_pickNext_42 : decode cX2_pickNext 42 = .ok (.iload_n 3, 1) := by decide +kernel
theorem dX2_pickNext_43 : decode cX2_pickNext 43 = .ok (.istore_n 1, 1) := by decide +kernel
theorem dX2_pickNext_44 : decode cX2_pickNext 44 = .ok (.iload 4, 2) := by decide +kernel
theorem dX2_pickNext_46 : decode cX2_pickNext 46 = .ok (.istore_n 2, 1) := by decide +kernel
theorem dX2_pickNext_47 : decode cX2_pickNext 47 = .ok (.iinc 3 1, 3) := by decide +kernel
theorem dX2_pickNext_50 : decode cX2_pickNext 50 = .ok (.goto (-43), 3) := by decide +kernel
theorem dX2_pickNext_53 : decode cX2_pickNext 53 = .ok (.iload_n 1, 1) := by decide +kernel
theorem dX2_pickNext_54 : decode cX2_pickNext 54 = .ok (.ireturn, 1) := by decide +kernel
theorem dX2_countFreeArcs_0 : decode cX2_countFreeArcs 0 = .ok (.iconst 0, 1) := by decide +kernel
theorem dX2_countFreeArcs_1 : decode cX2_countFreeArcs 1 = .ok (.istore_n 2, 1) := by decide +kernel
theorem dX2_countFreeArcs_2 : decode cX2_countFreeArcs 2 = .ok (.iconst 0, 1) := by decide +kernel
theorem dX2_countFreeArcs_3 : decode cX2_countFreeArcs 3 = .ok (.istore_n 3, 1) := by decide +kernel
theorem dX2_countFreeArcs_4 : decode cX2_countFreeArcs 4 = .ok (.iload_n 3, 1) := by decide +kernel
theorem dX2_countFreeArcs_5 : decode cX2_countFreeArcs 5 = .ok (.aload_n 0, 1) := by decide +kernel
theorem dX2_countFreeArcs_6 : decode cX2_countFreeArcs 6 = .ok (.getfield 47, 3) := by decide +kernel
theorem dX2_countFreeArcs_9 : decode cX2_countFreeArcs 9 = .ok (.if_icmp .ge 51, 3) := by decide +kernel
theorem dX2_countFreeArcs_12 : decode cX2_countFreeArcs 12 = .ok (.aload_n 0, 1) := by decide +kernel
theorem dX2_countFreeArcs_13 : decode cX2_countFreeArcs 13 = .ok (.iload_n 3, 1) := by decide +kernel
theorem dX2_countFreeArcs_14 : decode cX2_countFreeArcs 14 = .ok (.invokevirtual 80, 3) := by decide +kernel
theorem dX2_countFreeArcs_17 : decode cX2_countFreeArcs 17 = .ok (.ifCond .eq 37, 3) := by decide +kernel
theorem dX2_countFreeArcs_20 : decode cX2_countFreeArcs 20 = .ok (.iload_n 2, 1) := by decide +kernel
theorem dX2_countFreeArcs_21 : decode cX2_countFreeArcs 21 = .ok (.aload_n 0, 1) := by decide +kernel
theorem dX2_countFreeArcs_22 : decode cX2_countFreeArcs 22 = .ok (.iload_n 1, 1) := by decide +kernel
theorem dX2_countFreeArcs_23 : decode cX2_countFreeArcs 23 = .ok (.iload_n 3, 1) := by decide +kernel
theorem dX2_countFreeArcs_24 : decode cX2_countFreeArcs 24 = .ok (.invokevirtual 99, 3) := by decide +kernel
theorem dX2_countFreeArcs_27 : decode cX2_countFreeArcs 27 = .ok (.ifCond .eq 7, 3) := by decide +kernel
theorem dX2_countFreeArcs_30 : decode cX2_countFreeArcs 30 = .ok (.iconst 1, 1) := by decide +kernel
theorem dX2_countFreeArcs_31 : decode cX2_countFreeArcs 31 = .ok (.goto 4, 3) := by decide +kernel
theorem dX2_countFreeArcs_34 : decode cX2_countFreeArcs 34 = .ok (.iconst 0, 1) := by decide +kernel
theorem dX2_countFreeArcs_35 : decode cX2_countFreeArcs 35 = .ok (.iadd, 1) := by decide +kernel
theorem dX2_countFreeArcs_36 : decode cX2_countFreeArcs 36 = .ok (.istore_n 2, 1) := by decide +kernel
theorem dX2_countFreeArcs_37 : decode cX2_countFreeArcs 37 = .ok (.iload_n 2, 1) := by decide +kernel
theorem dX2_countFreeArcs_38 : decode cX2_countFreeArcs 38 = .ok (.aload_n 0, 1) := by decide +kernel
theorem dX2_countFreeArcs_39 : decode cX2_countFreeArcs 39 = .ok (.iload_n 3, 1) := by decide +kernel
theorem dX2_countFreeArcs_40 : decode cX2_countFreeArcs 40 = .ok (.iload_n 1, 1) := by decide +kernel
theorem dX2_countFreeArcs_41 : decode cX2_countFreeArcs 41 = .ok (.invokevirtual 99, 3) := by decide +kernel
theorem dX2_countFreeArcs_44 : decode cX2_countFreeArcs 44 = .ok (.ifCond .eq 7, 3) := by decide +kernel
theorem dX2_countFreeArcs_47 : decode cX2_countFreeArcs 47 = .ok (.iconst 1, 1) := by decide +kernel
theorem dX2_countFreeArcs_48 : decode cX2_countFreeArcs 48 = .ok (.goto 4, 3) := by decide +kernel
theorem dX2_countFreeArcs_51 : decode cX2_countFreeArcs 51 = .ok (.iconst 0, 1) := by decide +kernel
theorem dX2_countFreeArcs_52 : decode cX2_countFreeArcs 52 = .ok (.iadd, 1) := by decide +kernel
theorem dX2_countFreeArcs_53 : decode cX2_countFreeArcs 53 = .ok (.istore_n 2, 1) := by decide +kernel
theorem dX2_countFreeArcs_54 : decode cX2_countFreeArcs 54 = .ok (.iinc 3 1, 3) := by decide +kernel
theorem dX2_countFreeArcs_57 : decode cX2_countFreeArcs 57 = .ok (.goto (-53), 3) := by decide +kernel
theorem dX2_countFreeArcs_60 : decode cX2_countFreeArcs 60 = .ok (.iload_n 2, 1) := by decide +kernel
theorem dX2_countFreeArcs_61 : decode cX2_countFreeArcs 61 = .ok (.ireturn, 1) := by decide +kernel
theorem dX2_markNeeded_0 : decode cX2_markNeeded 0 = .ok (.aload_n 0, 1) := by decide +kernel
theorem dX2_markNeeded_1 : decode cX2_markNeeded 1 = .ok (.aload_n 0, 1) := by decide +kernel
theorem dX2_markNeeded_2 : decode cX2_markNeeded 2 = .ok (.getfield 37, 3) := by decide +kernel
theorem dX2_markNeeded_5 : decode cX2_markNeeded 5 = .ok (.iload_n 1, 1) := by decide +kernel
theorem dX2_markNeeded_6 : decode cX2_markNeeded 6 = .ok (.invokevirtual 51, 3) := by decide +kernel
theorem dX2_markNeeded_9 : decode cX2_markNeeded 9 = .ok (.iconst 0, 1) := by decide +kernel
theorem dX2_markNeeded_10 : decode cX2_markNeeded 10 = .ok (.istore_n 2, 1) := by decide +kernel
theorem dX2_markNeeded_11 : decode cX2_markNeeded 11 = .ok (.iconst 0, 1) := by decide +kernel
theorem dX2_markNeeded_12 : decode cX2_markNeeded 12 = .ok (.istore_n 3, 1) := by decide +kernel
theorem dX2_markNeeded_13 : decode cX2_markNeeded 13 = .ok (.iload_n 3, 1) := by decide +kernel
theorem dX2_markNeeded_14 : decode cX2_markNeeded 14 = .ok (.aload_n 0, 1) := by decide +kernel
theorem dX2_markNeeded_15 : decode cX2_markNeeded 15 = .ok (.getfield 47, 3) := by decide +kernel
theorem dX2_markNeeded_18 : decode cX2_markNeeded 18 = .ok (.if_icmp .ge 62, 3) := by decide +kernel
theorem dX2_markNeeded_21 : decode cX2_markNeeded 21 = .ok (.iconst 0, 1) := by decide +kernel
theorem dX2_markNeeded_22 : decode cX2_markNeeded 22 = .ok (.istore 4, 2) := by decide +kernel
theorem dX2_markNeeded_24 : decode cX2_markNeeded 24 = .ok (.iload 4, 2) := by decide +kernel
theorem dX2_markNeeded_26 : decode cX2_markNeeded 26 = .ok (.aload_n 0, 1) := by decide +kernel
theorem dX2_markNeeded_27 : decode cX2_markNeeded 27 = .ok (.getfield 47, 3) := by decide +kernel
theorem dX2_markNeeded_30 : decode cX2_markNeeded 30 = .ok (.if_icmp .ge 44, 3) := by decide +kernel
theorem dX2_markNeeded_33 : decode cX2_markNeeded 33 = .ok (.aload_n 0, 1) := by decide +kernel
theorem dX2_markNeeded_34 : decode cX2_markNeeded 34 = .ok (.iload_n 3, 1) := by decide +kernel
theorem dX2_markNeeded_35 : decode cX2_markNeeded 35 = .ok (.iload_n 1, 1) := by decide +kernel
theorem dX2_markNeeded_36 : decode cX2_markNeeded 36 = .ok (.iload 4, 2) := by decide +kernel
theorem dX2_markNeeded_38 : decode cX2_markNeeded 38 = .ok (.invokevirtual 103, 3) := by decide +kernel
theorem dX2_markNeeded_41 : decode cX2_markNeeded 41 = .ok (.ifCond .eq 7, 3) := by decide +kernel
theorem dX2_markNeeded_44 : decode cX2_markNeeded 44 = .ok (.iconst 1, 1) := by decide +kernel
theorem dX2_markNeeded_45 : decode cX2_markNeeded 45 = .ok (.goto 4, 3) := by decide +kernel
theorem dX2_markNeeded_48 : decode cX2_markNeeded 48 = .ok (.iconst 0, 1) := by decide +kernel
theorem dX2_markNeeded_49 : decode cX2_markNeeded 49 = .ok (.istore 5, 2) := by decide +kernel
theorem dX2_markNeeded_51 : decode cX2_markNeeded 51 = .ok (.aload_n 0, 1) := by decide +kernel
theorem dX2_markNeeded_52 : decode cX2_markNeeded 52 = .ok (.getfield 40, 3) := by decide +kernel
theorem dX2_markNeeded_55 : decode cX2_markNeeded 55 = .ok (.iload_n 3, 1) := by decide +kernel
theorem dX2_markNeeded_56 : decode cX2_markNeeded 56 = .ok (.iload 4, 2) := by decide +kernel
theorem dX2_markNeeded_58 : decode cX2_markNeeded 58 = .ok (.iload 5, 2) := by decide +kernel
theorem dX2_markNeeded_60 : decode cX2_markNeeded 60 = .ok (.invokevirtual 76, 3) := by decide +kernel
theorem dX2_markNeeded_63 : decode cX2_markNeeded 63 = .ok (.iload_n 2, 1) := by decide +kernel
theorem dX2_markNeeded_64 : decode cX2_markNeeded 64 = .ok (.iload 5, 2) := by decide +kernel
theorem dX2_markNeeded_66 : decode cX2_markNeeded 66 = .ok (.iadd, 1) := by decide +kernel
theorem dX2_markNeeded_67 : decode cX2_markNeeded 67 = .ok (.istore_n 2, 1) := by decide +kernel
theorem dX2_markNeeded_68 : decode cX2_markNeeded 68 = .ok (.iinc 4 1, 3) := by decide +kernel
theorem dX2_markNeeded_71 : decode cX2_markNeeded 71 = .ok (.goto (-47), 3) := by decide +kernel
theorem dX2_markNeeded_74 : decode cX2_markNeeded 74 = .ok (.iinc 3 1, 3) := by decide +kernel
theorem dX2_markNeeded_77 : decode cX2_markNeeded 77 = .ok (.goto (-64), 3) := by decide +kernel
theorem dX2_markNeeded_80 : decode cX2_markNeeded 80 = .ok (.iload_n 2, 1) := by decide +kernel
theorem dX2_markNeeded_81 : decode cX2_markNeeded 81 = .ok (.ireturn, 1) := by decide +kernel
theorem dX2_isNeeded_0 : decode cX2_isNeeded 0 = .ok (.iload_n 1, 1) := by decide +kernel
theorem dX2_isNeeded_1 : decode cX2_isNeeded 1 = .ok (.iload_n 2, 1) := by decide +kernel
theorem dX2_isNeeded_2 : decode cX2_isNeeded 2 = .ok (.if_icmp .eq 13, 3) := by decide +kernel
theorem dX2_isNeeded_5 : decode cX2_isNeeded 5 = .ok (.iload_n 2, 1) := by decide +kernel
theorem dX2_isNeeded_6 : decode cX2_isNeeded 6 = .ok (.iload_n 3, 1) := by decide +kernel
theorem dX2_isNeeded_7 : decode cX2_isNeeded 7 = .ok (.if_icmp .eq 8, 3) := by decide +kernel
theorem dX2_isNeeded_10 : decode cX2_isNeeded 10 = .ok (.iload_n 1, 1) := by decide +kernel
theorem dX2_isNeeded_11 : decode cX2_isNeeded 11 = .ok (.iload_n 3, 1) := by decide +kernel
theorem dX2_isNeeded_12 : decode cX2_isNeeded 12 = .ok (.if_icmp .ne 5, 3) := by decide +kernel
theorem dX2_isNeeded_15 : decode cX2_isNeeded 15 = .ok (.iconst 0, 1) := by decide +kernel
theorem dX2_isNeeded_16 : decode cX2_isNeeded 16 = .ok (.ireturn, 1) := by decide +kernel
theorem dX2_isNeeded_17 : decode cX2_isNeeded 17 = .ok (.aload_n 0, 1) := by decide +kernel
theorem dX2_isNeeded_18 : decode cX2_isNeeded 18 = .ok (.iload_n 1, 1) := by decide +kernel
theorem dX2_isNeeded_19 : decode cX2_isNeeded 19 = .ok (.invokevirtual 80, 3) := by decide +kernel
theorem dX2_isNeeded_22 : decode cX2_isNeeded 22 = .ok (.ifCond .eq 29, 3) := by decide +kernel
theorem dX2_isNeeded_25 : decode cX2_isNeeded 25 = .ok (.aload_n 0, 1) := by decide +kernel
theorem dX2_isNeeded_26 : decode cX2_isNeeded 26 = .ok (.iload_n 3, 1) := by decide +kernel
theorem dX2_isNeeded_27 : decode cX2_isNeeded 27 = .ok (.invokevirtual 80, 3) := by decide +kernel
theorem dX2_isNeeded_30 : decode cX2_isNeeded 30 = .ok (.ifCond .eq 21, 3) := by decide +kernel
theorem dX2_isNeeded_33 : decode cX2_isNeeded 33 = .ok (.aload_n 0, 1) := by decide +kernel
theorem dX2_isNeeded_34 : decode cX2_isNeeded 34 = .ok (.iload_n 1, 1) := by decide +kernel
theorem dX2_isNeeded_35 : decode cX2_isNeeded 35 = .ok (.iload_n 2, 1) := by decide +kernel
theorem dX2_isNeeded_36 : decode cX2_isNeeded 36 = .ok (.invokevirtual 99, 3) := by decide +kernel
theorem dX2_isNeeded_39 : decode cX2_isNeeded 39 = .ok (.ifCond .eq 12, 3) := by decide +kernel
theorem dX2_isNeeded_42 : decode cX2_isNeeded 42 = .ok (.aload_n 0, 1) := by decide +kernel
theorem dX2_isNeeded_43 : decode cX2_isNeeded 43 = .ok (.iload_n 2, 1) := by decide +kernel
theorem dX2_isNeeded_44 : decode cX2_isNeeded 44 = .ok (.iload_n 3, 1) := by decide +kernel
theorem dX2_isNeeded_45 : decode cX2_isNeeded 45 = .ok (.invokevirtual 99, 3) := by decide +kernel
theorem dX2_isNeeded_48 : decode cX2_isNeeded 48 = .ok (.ifCond .ne 5, 3) := by decide +kernel
theorem dX2_isNeeded_51 : decode cX2_isNeeded 51 = .ok (.iconst 0, 1) := by decide +kernel
theorem dX2_isNeeded_52 : decode cX2_isNeeded 52 = .ok (.ireturn, 1) := by decide +kernel
theorem dX2_isNeeded_53 : decode cX2_isNeeded 53 = .ok (.aload_n 0, 1) := by decide +kernel
theorem dX2_isNeeded_54 : decode cX2_isNeeded 54 = .ok (.getfield 12, 3) := by decide +kernel
theorem dX2_isNeeded_57 : decode cX2_isNeeded 57 = .ok (.iload_n 1, 1) := by decide +kernel
theorem dX2_isNeeded_58 : decode cX2_isNeeded 58 = .ok (.iload_n 2, 1) := by decide +kernel
theorem dX2_isNeeded_59 : decode cX2_isNeeded 59 = .ok (.invokevirtual 84, 3) := by decide +kernel
theorem dX2_isNeeded_62 : decode cX2_isNeeded 62 = .ok (.aload_n 0, 1) := by decide +kernel
theorem dX2_isNeeded_63 : decode cX2_isNeeded 63 = .ok (.getfield 12, 3) := by decide +kernel
theorem dX2_isNeeded_66 : decode cX2_isNeeded 66 = .ok (.iload_n 2, 1) := by decide +kernel
theorem dX2_isNeeded_67 : decode cX2_isNeeded 67 = .ok (.iload_n 3, 1) := by decide +kernel
theorem dX2_isNeeded_68 : decode cX2_isNeeded 68 = .ok (.invokevirtual 84, 3) := by decide +kernel
theorem dX2_isNeeded_71 : decode cX2_isNeeded 71 = .ok (.iadd, 1) := by decide +kernel
theorem dX2_isNeeded_72 : decode cX2_isNeeded 72 = .ok (.istore 4, 2) := by decide +kernel
theorem dX2_isNeeded_74 : decode cX2_isNeeded 74 = .ok (.aload_n 0, 1) := by decide +kernel
theorem dX2_isNeeded_75 : decode cX2_isNeeded 75 = .ok (.getfield 34, 3) := by decide +kernel
theorem dX2_isNeeded_78 : decode cX2_isNeeded 78 = .ok (.iload_n 1, 1) := by decide +kernel
theorem dX2_isNeeded_79 : decode cX2_isNeeded 79 = .ok (.iload_n 2, 1) := by decide +kernel
theorem dX2_isNeeded_80 : decode cX2_isNeeded 80 = .ok (.invokevirtual 84, 3) := by decide +kernel
theorem dX2_isNeeded_83 : decode cX2_isNeeded 83 = .ok (.aload_n 0, 1) := by decide +kernel
theorem dX2_isNeeded_84 : decode cX2_isNeeded 84 = .ok (.getfield 34, 3) := by decide +kernel
theorem dX2_isNeeded_87 : decode cX2_isNeeded 87 = .ok (.iload_n 2, 1) := by decide +kernel
theorem dX2_isNeeded_88 : decode cX2_isNeeded 88 = .ok (.iload_n 3, 1) := by decide +kernel
theorem dX2_isNeeded_89 : decode cX2_isNeeded 89 = .ok (.invokevirtual 84, 3) := by decide +kernel
theorem dX2_isNeeded_92 : decode cX2_isNeeded 92 = .ok (.iadd, 1) := by decide +kernel
theorem dX2_isNeeded_93 : decode cX2_isNeeded 93 = .ok (.iload 4, 2) := by decide +kernel
theorem dX2_isNeeded_95 : decode cX2_isNeeded 95 = .ok (.if_icmp .lt 21, 3) := by decide +kernel
theorem dX2_isNeeded_98 : decode cX2_isNeeded 98 = .ok (.aload_n 0, 1) := by decide +kernel
theorem dX2_isNeeded_99 : decode cX2_isNeeded 99 = .ok (.getfield 37, 3) := by decide +kernel
theorem dX2_isNeeded_102 : decode cX2_isNeeded 102 = .ok (.iload_n 1, 1) := by decide +kernel
theorem dX2_isNeeded_103 : decode cX2_isNeeded 103 = .ok (.iload_n 3, 1) := by decide +kernel
theorem dX2_isNeeded_104 : decode cX2_isNeeded 104 = .ok (.invokevirtual 84, 3) := by decide +kernel
theorem dX2_isNeeded_107 : decode cX2_isNeeded 107 = .ok (.iload 4, 2) := by decide +kernel
theorem dX2_isNeeded_109 : decode cX2_isNeeded 109 = .ok (.if_icmp .le 7, 3) := by decide +kernel
theorem dX2_isNeeded_112 : decode cX2_isNeeded 112 = .ok (.iconst 1, 1) := by decide +kernel
theorem dX2_isNeeded_113 : decode cX2_isNeeded 113 = .ok (.goto 4, 3) := by decide +kernel
theorem dX2_isNeeded_116 : decode cX2_isNeeded 116 = .ok (.iconst 0, 1) := by decide +kernel
theorem dX2_isNeeded_117 : decode cX2_isNeeded 117 = .ok (.ireturn, 1) := by decide +kernel
theorem dX2_giveRank_0 : decode cX2_giveRank 0 = .ok (.aload_n 0, 1) := by decide +kernel
theorem dX2_giveRank_1 : decode cX2_giveRank 1 = .ok (.iload_n 1, 1) := by decide +kernel
theorem dX2_giveRank_2 : decode cX2_giveRank 2 = .ok (.invokevirtual 92, 3) := by decide +kernel
theorem dX2_giveRank_5 : decode cX2_giveRank 5 = .ok (.pop, 1) := by decide +kernel
theorem dX2_giveRank_6 : decode cX2_giveRank 6 = .ok (.iconst 0, 1) := by decide +kernel
theorem dX2_giveRank_7 : decode cX2_giveRank 7 = .ok (.istore_n 3, 1) := by decide +kernel
theorem dX2_giveRank_8 : decode cX2_giveRank 8 = .ok (.iload_n 3, 1) := by decide +kernel
theorem dX2_giveRank_9 : decode cX2_giveRank 9 = .ok (.aload_n 0, 1) := by decide +kernel
theorem dX2_giveRank_10 : decode cX2_giveRank 10 = .ok (.getfield 47, 3) := by decide +kernel
theorem dX2_giveRank_13 : decode cX2_giveRank 13 = .ok (.if_icmp .ge 82, 3) := by decide +kernel
theorem dX2_giveRank_16 : decode cX2_giveRank 16 = .ok (.iconst 0, 1) := by decide +kernel
theorem dX2_giveRank_17 : decode cX2_giveRank 17 = .ok (.istore 4, 2) := by decide +kernel
theorem dX2_giveRank_19 : decode cX2_giveRank 19 = .ok (.iload 4, 2) := by decide +kernel
theorem dX2_giveRank_21 : decode cX2_giveRank 21 = .ok (.aload_n 0, 1) := by decide +kernel
theorem dX2_giveRank_22 : decode cX2_giveRank 22 = .ok (.getfield 47, 3) := by decide +kernel
theorem dX2_giveRank_25 : decode cX2_giveRank 25 = .ok (.if_icmp .ge 64, 3) := by decide +kernel
theorem dX2_giveRank_28 : decode cX2_giveRank 28 = .ok (.aload_n 0, 1) := by decide +kernel
theorem dX2_giveRank_29 : decode cX2_giveRank 29 = .ok (.getfield 40, 3) := by decide +kernel
theorem dX2_giveRank_32 : decode cX2_giveRank 32 = .ok (.iload_n 3, 1) := by decide +kernel
theorem dX2_giveRank_33 : decode cX2_giveRank 33 = .ok (.iload 4, 2) := by decide +kernel
theorem dX2_giveRank_35 : decode cX2_giveRank 35 = .ok (.invokevirtual 84, 3) := by decide +kernel
theorem dX2_giveRank_38 : decode cX2_giveRank 38 = .ok (.iconst 1, 1) := by decide +kernel
theorem dX2_giveRank_39 : decode cX2_giveRank 39 = .ok (.if_icmp .ne 44, 3) := by decide +kernel
theorem dX2_giveRank_42 : decode cX2_giveRank 42 = .ok (.aload_n 0, 1) := by decide +kernel
theorem dX2_giveRank_43 : decode cX2_giveRank 43 = .ok (.getfield 12, 3) := by decide +kernel
theorem dX2_giveRank_46 : decode cX2_giveRank 46 = .ok (.iload_n 3, 1) := by decide +kernel
theorem dX2_giveRank_47 : decode cX2_giveRank 47 = .ok (.iload 4, 2) := by decide +kernel
theorem dX2_giveRank_49 : decode cX2_giveRank 49 = .ok (.aload_n 0, 1) := by decide +kernel
theorem dX2_giveRank_50 : decode cX2_giveRank 50 = .ok (.getfield 12, 3) := by decide +kernel
theorem dX2_giveRank_53 : decode cX2_giveRank 53 = .ok (.iload_n 3, 1) := by decide +kernel
theorem dX2_giveRank_54 : decode cX2_giveRank 54 = .ok (.iload_n 1, 1) := by decide +kernel
theorem dX2_giveRank_55 : decode cX2_giveRank 55 = .ok (.invokevirtual 84, 3) := by decide +kernel
theorem dX2_giveRank_58 : decode cX2_giveRank 58 = .ok (.aload_n 0, 1) := by decide +kernel
theorem dX2_giveRank_59 : decode cX2_giveRank 59 = .ok (.getfield 12, 3) := by decide +kernel
theorem dX2_giveRank_62 : decode cX2_giveRank 62 = .ok (.iload_n 1, 1) := by decide +kernel
theorem dX2_giveRank_63 : decode cX2_giveRank 63 = .ok (.iload 4, 2) := by decide +kernel
theorem dX2_giveRank_65 : decode cX2_giveRank 65 = .ok (.invokevirtual 84, 3) := by decide +kernel
theorem dX2_giveRank_68 : decode cX2_giveRank 68 = .ok (.iadd, 1) := by decide +kernel
theorem dX2_giveRank_69 : decode cX2_giveRank 69 = .ok (.invokevirtual 76, 3) := by decide +kernel
theorem dX2_giveRank_72 : decode cX2_giveRank 72 = .ok (.aload_n 0, 1) := by decide +kernel
theorem dX2_giveRank_73 : decode cX2_giveRank 73 = .ok (.getfield 18, 3) := by decide +kernel
theorem dX2_giveRank_76 : decode cX2_giveRank 76 = .ok (.iload_n 3, 1) := by decide +kernel
theorem dX2_giveRank_77 : decode cX2_giveRank 77 = .ok (.iload 4, 2) := by decide +kernel
theorem dX2_giveRank_79 : decode cX2_giveRank 79 = .ok (.iload_n 1, 1) := by decide +kernel
theorem dX2_giveRank_80 : decode cX2_giveRank 80 = .ok (.invokevirtual 76, 3) := by decide +kernel
theorem dX2_giveRank_83 : decode cX2_giveRank 83 = .ok (.iinc 4 1, 3) := by decide +kernel
theorem dX2_giveRank_86 : decode cX2_giveRank 86 = .ok (.goto (-67), 3) := by decide +kernel
theorem dX2_giveRank_89 : decode cX2_giveRank 89 = .ok (.iinc 3 1, 3) := by decide +kernel
theorem dX2_giveRank_92 : decode cX2_giveRank 92 = .ok (.goto (-84), 3) := by decide +kernel
theorem dX2_giveRank_95 : decode cX2_giveRank 95 = .ok (.aload_n 0, 1) := by decide +kernel
theorem dX2_giveRank_96 : decode cX2_giveRank 96 = .ok (.getfield 21, 3) := by decide +kernel
theorem dX2_giveRank_99 : decode cX2_giveRank 99 = .ok (.iload_n 1, 1) := by decide +kernel
theorem dX2_giveRank_100 : decode cX2_giveRank 100 = .ok (.iload_n 2, 1) := by decide +kernel
theorem dX2_giveRank_101 : decode cX2_giveRank 101 = .ok (.iastore, 1) := by decide +kernel
theorem dX2_giveRank_102 : decode cX2_giveRank 102 = .ok (.aload_n 0, 1) := by decide +kernel
theorem dX2_giveRank_103 : decode cX2_giveRank 103 = .ok (.getfield 25, 3) := by decide +kernel
theorem dX2_giveRank_106 : decode cX2_giveRank 106 = .ok (.iload_n 2, 1) := by decide +kernel
theorem dX2_giveRank_107 : decode cX2_giveRank 107 = .ok (.iload_n 1, 1) := by decide +kernel
theorem dX2_giveRank_108 : decode cX2_giveRank 108 = .ok (.iastore, 1) := by decide +kernel
theorem dX2_giveRank_109 : decode cX2_giveRank 109 = .ok (.return_, 1) := by decide +kernel
theorem dX2_hasArc_0 : decode cX2_hasArc 0 = .ok (.aload_n 0, 1) := by decide +kernel
theorem dX2_hasArc_1 : decode cX2_hasArc 1 = .ok (.getfield 12, 3) := by decide +kernel
theorem dX2_hasArc_4 : decode cX2_hasArc 4 = .ok (.iload_n 1, 1) := by decide +kernel
theorem dX2_hasArc_5 : decode cX2_hasArc 5 = .ok (.iload_n 2, 1) := by decide +kernel
theorem dX2_hasArc_6 : decode cX2_hasArc 6 = .ok (.invokevirtual 84, 3) := by decide +kernel
theorem dX2_hasArc_9 : decode cX2_hasArc 9 = .ok (.ldc 87, 2) := by decide +kernel
theorem dX2_hasArc_11 : decode cX2_hasArc 11 = .ok (.if_icmp .ge 7, 3) := by decide +kernel
theorem dX2_hasArc_14 : decode cX2_hasArc 14 = .ok (.iconst 1, 1) := by decide +kernel
theorem dX2_hasArc_15 : decode cX2_hasArc 15 = .ok (.goto 4, 3) := by decide +kernel
theorem dX2_hasArc_18 : decode cX2_hasArc 18 = .ok (.iconst 0, 1) := by decide +kernel
theorem dX2_hasArc_19 : decode cX2_hasArc 19 = .ok (.ireturn, 1) := by decide +kernel
theorem dX2_leadsUp_0 : decode cX2_leadsUp 0 = .ok (.aload_n 0, 1) := by decide +kernel
theorem dX2_leadsUp_1 : decode cX2_leadsUp 1 = .ok (.getfield 21, 3) := by decide +kernel
theorem dX2_leadsUp_4 : decode cX2_leadsUp 4 = .ok (.iload_n 2, 1) := by decide +kernel
theorem dX2_leadsUp_5 : decode cX2_leadsUp 5 = .ok (.iaload, 1) := by decide +kernel
theorem dX2_leadsUp_6 : decode cX2_leadsUp 6 = .ok (.aload_n 0, 1) := by decide +kernel
theorem dX2_leadsUp_7 : decode cX2_leadsUp 7 = .ok (.getfield 21, 3) := by decide +kernel
theorem dX2_leadsUp_10 : decode cX2_leadsUp 10 = .ok (.iload_n 1, 1) := by decide +kernel
theorem dX2_leadsUp_11 : decode cX2_leadsUp 11 = .ok (.iaload, 1) := by decide +kernel
theorem dX2_leadsUp_12 : decode cX2_leadsUp 12 = .ok (.if_icmp .le 7, 3) := by decide +kernel
theorem dX2_leadsUp_15 : decode cX2_leadsUp 15 = .ok (.iconst 1, 1) := by decide +kernel
theorem dX2_leadsUp_16 : decode cX2_leadsUp 16 = .ok (.goto 4, 3) := by decide +kernel
theorem dX2_leadsUp_19 : decode cX2_leadsUp 19 = .ok (.iconst 0, 1) := by decide +kernel
theorem dX2_leadsUp_20 : decode cX2_leadsUp 20 = .ok (.ireturn, 1) := by decide +kernel
theorem dX2_unpack_0 : decode cX2_unpack 0 = .ok (.aload_n 0, 1) := by decide +kernel
theorem dX2_unpack_1 : decode cX2_unpack 1 = .ok (.getfield 28, 3) := by decide +kernel
theorem dX2_unpack_4 : decode cX2_unpack 4 = .ok (.iconst 0, 1) := by decide +kernel
theorem dX2_unpack_5 : decode cX2_unpack 5 = .ok (.iload_n 1, 1) := by decide +kernel
theorem dX2_unpack_6 : decode cX2_unpack 6 = .ok (.iastore, 1) := by decide +kernel
theorem dX2_unpack_7 : decode cX2_unpack 7 = .ok (.aload_n 0, 1) := by decide +kernel
theorem dX2_unpack_8 : decode cX2_unpack 8 = .ok (.getfield 28, 3) := by decide +kernel
theorem dX2_unpack_11 : decode cX2_unpack 11 = .ok (.iconst 1, 1) := by decide +kernel
theorem dX2_unpack_12 : decode cX2_unpack 12 = .ok (.iload_n 2, 1) := by decide +kernel
theorem dX2_unpack_13 : decode cX2_unpack 13 = .ok (.iastore, 1) := by decide +kernel
theorem dX2_unpack_14 : decode cX2_unpack 14 = .ok (.iconst 2, 1) := by decide +kernel
theorem dX2_unpack_15 : decode cX2_unpack 15 = .ok (.istore_n 3, 1) := by decide +kernel
theorem dX2_unpack_16 : decode cX2_unpack 16 = .ok (.iconst 0, 1) := by decide +kernel
theorem dX2_unpack_17 : decode cX2_unpack 17 = .ok (.istore 4, 2) := by decide +kernel
theorem dX2_unpack_19 : decode cX2_unpack 19 = .ok (.iconst 0, 1) := by decide +kernel
theorem dX2_unpack_20 : decode cX2_unpack 20 = .ok (.istore 5, 2) := by decide +kernel
theorem dX2_unpack_22 : decode cX2_unpack 22 = .ok (.iload 5, 2) := by decide +kernel
theorem dX2_unpack_24 : decode cX2_unpack 24 = .ok (.bipush 24, 2) := by decide +kernel
theorem dX2_unpack_26 : decode cX2_unpack 26 = .ok (.if_icmp .ge 74, 3) := by decide +kernel
theorem dX2_unpack_29 : decode cX2_unpack 29 = .ok (.iload 4, 2) := by decide +kernel
theorem dX2_unpack_31 : decode cX2_unpack 31 = .ok (.iconst 1, 1) := by decide +kernel
theorem dX2_unpack_32 : decode cX2_unpack 32 = .ok (.iadd, 1) := by decide +kernel
theorem dX2_unpack_33 : decode cX2_unpack 33 = .ok (.iload_n 3, 1) := by decide +kernel
theorem dX2_unpack_34 : decode cX2_unpack 34 = .ok (.if_icmp .ge 66, 3) := by decide +kernel
theorem dX2_unpack_37 : decode cX2_unpack 37 = .ok (.aload_n 0, 1) := by decide +kernel
theorem dX2_unpack_38 : decode cX2_unpack 38 = .ok (.getfield 18, 3) := by decide +kernel
theorem dX2_unpack_41 : decode cX2_unpack 41 = .ok (.aload_n 0, 1) := by decide +kernel
theorem dX2_unpack_42 : decode cX2_unpack 42 = .ok (.getfield 28, 3) := by decide +kernel
theorem dX2_unpack_45 : decode cX2_unpack 45 = .ok (.iload 4, 2) := by decide +kernel
theorem dX2_unpack_47 : decode cX2_unpack 47 = .ok (.iaload, 1) := by decide +kernel
theorem dX2_unpack_48 : decode cX2_unpack 48 = .ok (.aload_n 0, 1) := by decide +kernel
theorem dX2_unpack_49 : decode cX2_unpack 49 = .ok (.getfield 28, 3) := by decide +kernel
theorem dX2_unpack_52 : decode cX2_unpack 52 = .ok (.iload 4, 2) := by decide +kernel
theorem dX2_unpack_54 : decode cX2_unpack 54 = .ok (.iconst 1, 1) := by decide +kernel
theorem dX2_unpack_55 : decode cX2_unpack 55 = .ok (.iadd, 1) := by decide +kernel
theorem dX2_unpack_56 : decode cX2_unpack 56 = .ok (.iaload, 1) := by decide +kernel
theorem dX2_unpack_57 : decode cX2_unpack 57 = .ok (.invokevirtual 84, 3) := by decide +kernel
theorem dX2_unpack_60 : decode cX2_unpack 60 = .ok (.istore 6, 2) := by decide +kernel
theorem dX2_unpack_62 : decode cX2_unpack 62 = .ok (.iload 6, 2) := by decide +kernel
theorem dX2_unpack_64 : decode cX2_unpack 64 = .ok (.iconst (-1), 1) := by decide +kernel
theorem dX2_unpack_65 : decode cX2_unpack 65 = .ok (.if_icmp .eq 9, 3) := by decide +kernel
theorem dX2_unpack_68 : decode cX2_unpack 68 = .ok (.iload_n 3, 1) := by decide +kernel
theorem dX2_unpack_69 : decode cX2_unpack 69 = .ok (.bipush 12, 2) := by decide +kernel
theorem dX2_unpack_71 : decode cX2_unpack 71 = .ok (.if_icmp .lt 9, 3) := by decide +kernel
theorem dX2_unpack_74 : decode cX2_unpack 74 = .ok (.iinc 4 1, 3) := by decide +kernel
theorem dX2_unpack_77 : decode cX2_unpack 77 = .ok (.goto 17, 3) := by decide +kernel
theorem dX2_unpack_80 : decode cX2_unpack 80 = .ok (.aload_n 0, 1) := by decide +kernel
theorem dX2_unpack_81 : decode cX2_unpack 81 = .ok (.iload 6, 2) := by decide +kernel
theorem dX2_unpack_83 : decode cX2_unpack 83 = .ok (.iload 4, 2) := by decide +kernel
theorem dX2_unpack_85 : decode cX2_unpack 85 = .ok (.iconst 1, 1) := by decide +kernel
theorem dX2_unpack_86 : decode cX2_unpack 86 = .ok (.iadd, 1) := by decide +kernel
theorem dX2_unpack_87 : decode cX2_unpack 87 = .ok (.iload_n 3, 1) := by decide +kernel
theorem dX2_unpack_88 : decode cX2_unpack 88 = .ok (.invokevirtual 107, 3) := by decide +kernel
theorem dX2_unpack_91 : decode cX2_unpack 91 = .ok (.iinc 3 1, 3) := by decide +kernel
theorem dX2_unpack_94 : decode cX2_unpack 94 = .ok (.iinc 5 1, 3) := by decide +kernel
theorem dX2_unpack_97 : decode cX2_unpack 97 = .ok (.goto (-75), 3) := by decide +kernel
theorem dX2_unpack_100 : decode cX2_unpack 100 = .ok (.iload_n 3, 1) := by decide +kernel
theorem dX2_unpack_101 : decode cX2_unpack 101 = .ok (.ireturn, 1) := by decide +kernel
theorem dX2_putIntoRow_0 : decode cX2_putIntoRow 0 = .ok (.iload_n 3, 1) := by decide +kernel
theorem dX2_putIntoRow_1 : decode cX2_putIntoRow 1 = .ok (.istore 4, 2) := by decide +kernel
theorem dX2_putIntoRow_3 : decode cX2_putIntoRow 3 = .ok (.iload 4, 2) := by decide +kernel
theorem dX2_putIntoRow_5 : decode cX2_putIntoRow 5 = .ok (.iload_n 2, 1) := by decide +kernel
theorem dX2_putIntoRow_6 : decode cX2_putIntoRow 6 = .ok (.if_icmp .le 25, 3) := by decide +kernel
theorem dX2_putIntoRow_9 : decode cX2_putIntoRow 9 = .ok (.aload_n 0, 1) := by decide +kernel
theorem dX2_putIntoRow_10 : decode cX2_putIntoRow 10 = .ok (.getfield 28, 3) := by decide +kernel
theorem dX2_putIntoRow_13 : decode cX2_putIntoRow 13 = .ok (.iload 4, 2) := by decide +kernel
theorem dX2_putIntoRow_15 : decode cX2_putIntoRow 15 = .ok (.aload_n 0, 1) := by decide +kernel
theorem dX2_putIntoRow_16 : decode cX2_putIntoRow 16 = .ok (.getfield 28, 3) := by decide +kernel
theorem dX2_putIntoRow_19 : decode cX2_putIntoRow 19 = .ok (.iload 4, 2) := by decide +kernel
theorem dX2_putIntoRow_21 : decode cX2_putIntoRow 21 = .ok (.iconst 1, 1) := by decide +kernel
theorem dX2_putIntoRow_22 : decode cX2_putIntoRow 22 = .ok (.isub, 1) := by decide +kernel
theorem dX2_putIntoRow_23 : decode cX2_putIntoRow 23 = .ok (.iaload, 1) := by decide +kernel
theorem dX2_putIntoRow_24 : decode cX2_putIntoRow 24 = .ok (.iastore, 1) := by decide +kernel
theorem dX2_putIntoRow_25 : decode cX2_putIntoRow 25 = .ok (.iinc 4 (-1), 3) := by decide +kernel
theorem dX2_putIntoRow_28 : decode cX2_putIntoRow 28 = .ok (.goto (-25), 3) := by decide +kernel
theorem dX2_putIntoRow_31 : decode cX2_putIntoRow 31 = .ok (.aload_n 0, 1) := by decide +kernel
theorem dX2_putIntoRow_32 : decode cX2_putIntoRow 32 = .ok (.getfield 28, 3) := by decide +kernel
theorem dX2_putIntoRow_35 : decode cX2_putIntoRow 35 = .ok (.iload_n 2, 1) := by decide +kernel
theorem dX2_putIntoRow_36 : decode cX2_putIntoRow 36 = .ok (.iload_n 1, 1) := by decide +kernel
theorem dX2_putIntoRow_37 : decode cX2_putIntoRow 37 = .ok (.iastore, 1) := by decide +kernel
theorem dX2_putIntoRow_38 : decode cX2_putIntoRow 38 = .ok (.return_, 1) := by decide +kernel
theorem dX2_countArcs_0 : decode cX2_countArcs 0 = .ok (.iconst 0, 1) := by decide +kernel
theorem dX2_countArcs_1 : decode cX2_countArcs 1 = .ok (.istore_n 1, 1) := by decide +kernel
theorem dX2_countArcs_2 : decode cX2_countArcs 2 = .ok (.iconst 0, 1) := by decide +kernel
theorem dX2_countArcs_3 : decode cX2_countArcs 3 = .ok (.istore_n 2, 1) := by decide +kernel
theorem dX2_countArcs_4 : decode cX2_countArcs 4 = .ok (.iload_n 2, 1) := by decide +kernel
theorem dX2_countArcs_5 : decode cX2_countArcs 5 = .ok (.aload_n 0, 1) := by decide +kernel
theorem dX2_countArcs_6 : decode cX2_countArcs 6 = .ok (.getfield 47, 3) := by decide +kernel
theorem dX2_countArcs_9 : decode cX2_countArcs 9 = .ok (.if_icmp .ge 42, 3) := by decide +kernel
theorem dX2_countArcs_12 : decode cX2_countArcs 12 = .ok (.iconst 0, 1) := by decide +kernel
theorem dX2_countArcs_13 : decode cX2_countArcs 13 = .ok (.istore_n 3, 1) := by decide +kernel
theorem dX2_countArcs_14 : decode cX2_countArcs 14 = .ok (.iload_n 3, 1) := by decide +kernel
theorem dX2_countArcs_15 : decode cX2_countArcs 15 = .ok (.aload_n 0, 1) := by decide +kernel
theorem dX2_countArcs_16 : decode cX2_countArcs 16 = .ok (.getfield 47, 3) := by decide +kernel
theorem dX2_countArcs_19 : decode cX2_countArcs 19 = .ok (.if_icmp .ge 26, 3) := by decide +kernel
theorem dX2_countArcs_22 : decode cX2_countArcs 22 = .ok (.iload_n 1, 1) := by decide +kernel
theorem dX2_countArcs_23 : decode cX2_countArcs 23 = .ok (.aload_n 0, 1) := by decide +kernel
theorem dX2_countArcs_24 : decode cX2_countArcs 24 = .ok (.iload_n 2, 1) := by decide +kernel
theorem dX2_countArcs_25 : decode cX2_countArcs 25 = .ok (.iload_n 3, 1) := by decide +kernel
theorem dX2_countArcs_26 : decode cX2_countArcs 26 = .ok (.invokevirtual 99, 3) := by decide +kernel
theorem dX2_countArcs_29 : decode cX2_countArcs 29 = .ok (.ifCond .eq 7, 3) := by decide +kernel
theorem dX2_countArcs_32 : decode cX2_countArcs 32 = .ok (.iconst 1, 1) := by decide +kernel
theorem dX2_countArcs_33 : decode cX2_countArcs 33 = .ok (.goto 4, 3) := by decide +kernel
theorem dX2_countArcs_36 : decode cX2_countArcs 36 = .ok (.iconst 0, 1) := by decide +kernel
theorem dX2_countArcs_37 : decode cX2_countArcs 37 = .ok (.iadd, 1) := by decide +kernel
theorem dX2_countArcs_38 : decode cX2_countArcs 38 = .ok (.istore_n 1, 1) := by decide +kernel
theorem dX2_countArcs_39 : decode cX2_countArcs 39 = .ok (.iinc 3 1, 3) := by decide +kernel
theorem dX2_countArcs_42 : decode cX2_countArcs 42 = .ok (.goto (-28), 3) := by decide +kernel
theorem dX2_countArcs_45 : decode cX2_countArcs 45 = .ok (.iinc 2 1, 3) := by decide +kernel
theorem dX2_countArcs_48 : decode cX2_countArcs 48 = .ok (.goto (-44), 3) := by decide +kernel
theorem dX2_countArcs_51 : decode cX2_countArcs 51 = .ok (.iload_n 1, 1) := by decide +kernel
theorem dX2_countArcs_52 : decode cX2_countArcs 52 = .ok (.ireturn, 1) := by decide +kernel
theorem dX2_countShortcuts_0 : decode cX2_countShortcuts 0 = .ok (.iconst 0, 1) := by decide +kernel
theorem dX2_countShortcuts_1 : decode cX2_countShortcuts 1 = .ok (.istore_n 1, 1) := by decide +kernel
theorem dX2_countShortcuts_2 : decode cX2_countShortcuts 2 = .ok (.iconst 0, 1) := by decide +kernel
theorem dX2_countShortcuts_3 : decode cX2_countShortcuts 3 = .ok (.istore_n 2, 1) := by decide +kernel
theorem dX2_countShortcuts_4 : decode cX2_countShortcuts 4 = .ok (.iload_n 2, 1) := by decide +kernel
theorem dX2_countShortcuts_5 : decode cX2_countShortcuts 5 = .ok (.aload_n 0, 1) := by decide +kernel
theorem dX2_countShortcuts_6 : decode cX2_countShortcuts 6 = .ok (.getfield 47, 3) := by decide +kernel
theorem dX2_countShortcuts_9 : decode cX2_countShortcuts 9 = .ok (.if_icmp .ge 17, 3) := by decide +kernel
theorem dX2_countShortcuts_12 : decode cX2_countShortcuts 12 = .ok (.iload_n 1, 1) := by decide +kernel
theorem dX2_countShortcuts_13 : decode cX2_countShortcuts 13 = .ok (.aload_n 0, 1) := by decide +kernel
theorem dX2_countShortcuts_14 : decode cX2_countShortcuts 14 = .ok (.iload_n 2, 1) := by decide +kernel
theorem dX2_countShortcuts_15 : decode cX2_countShortcuts 15 = .ok (.invokevirtual 110, 3) := by decide +kernel
theorem dX2_countShortcuts_18 : decode cX2_countShortcuts 18 = .ok (.iadd, 1) := by decide +kernel
theorem dX2_countShortcuts_19 : decode cX2_countShortcuts 19 = .ok (.istore_n 1, 1) := by decide +kernel
theorem dX2_countShortcuts_20 : decode cX2_countShortcuts 20 = .ok (.iinc 2 1, 3) := by decide +kernel
theorem dX2_countShortcuts_23 : decode cX2_countShortcuts 23 = .ok (.goto (-19), 3) := by decide +kernel
theorem dX2_countShortcuts_26 : decode cX2_countShortcuts 26 = .ok (.iload_n 1, 1) := by decide +kernel
theorem dX2_countShortcuts_27 : decode cX2_countShortcuts 27 = .ok (.ireturn, 1) := by decide +kernel
theorem dX2_countArcsOver_0 : decode cX2_countArcsOver 0 = .ok (.iconst 0, 1) := by decide +kernel
theorem dX2_countArcsOver_1 : decode cX2_countArcsOver 1 = .ok (.istore_n 2, 1) := by decide +kernel
theorem dX2_countArcsOver_2 : decode cX2_countArcsOver 2 = .ok (.iconst 0, 1) := by decide +kernel
theorem dX2_countArcsOver_3 : decode cX2_countArcsOver 3 = .ok (.istore_n 3, 1) := by decide +kernel
theorem dX2_countArcsOver_4 : decode cX2_countArcsOver 4 = .ok (.iload_n 3, 1) := by decide +kernel
theorem dX2_countArcsOver_5 : decode cX2_countArcsOver 5 = .ok (.aload_n 0, 1) := by decide +kernel
theorem dX2_countArcsOver_6 : decode cX2_countArcsOver 6 = .ok (.getfield 47, 3) := by decide +kernel
theorem dX2_countArcsOver_9 : decode cX2_countArcsOver 9 = .ok (.if_icmp .ge 49, 3) := by decide +kernel
theorem dX2_countArcsOver_12 : decode cX2_countArcsOver 12 = .ok (.iconst 0, 1) := by decide +kernel
theorem dX2_countArcsOver_13 : decode cX2_countArcsOver 13 = .ok (.istore 4, 2) := by decide +kernel
theorem dX2_countArcsOver_15 : decode cX2_countArcsOver 15 = .ok (.iload 4, 2) := by decide +kernel
theorem dX2_countArcsOver_17 : decode cX2_countArcsOver 17 = .ok (.aload_n 0, 1) := by decide +kernel
theorem dX2_countArcsOver_18 : decode cX2_countArcsOver 18 = .ok (.getfield 47, 3) := by decide +kernel
theorem dX2_countArcsOver_21 : decode cX2_countArcsOver 21 = .ok (.if_icmp .ge 31, 3) := by decide +kernel
theorem dX2_countArcsOver_24 : decode cX2_countArcsOver 24 = .ok (.iload_n 2, 1) := by decide +kernel
theorem dX2_countArcsOver_25 : decode cX2_countArcsOver 25 = .ok (.aload_n 0, 1) := by decide +kernel
theorem dX2_countArcsOver_26 : decode cX2_countArcsOver 26 = .ok (.getfield 18, 3) := by decide +kernel
theorem dX2_countArcsOver_29 : decode cX2_countArcsOver 29 = .ok (.iload_n 3, 1) := by decide +kernel
theorem dX2_countArcsOver_30 : decode cX2_countArcsOver 30 = .ok (.iload 4, 2) := by decide +kernel
theorem dX2_countArcsOver_32 : decode cX2_countArcsOver 32 = .ok (.invokevirtual 84, 3) := by decide +kernel
theorem dX2_countArcsOver_35 : decode cX2_countArcsOver 35 = .ok (.iload_n 1, 1) := by decide +kernel
theorem dX2_countArcsOver_36 : decode cX2_countArcsOver 36 = .ok (.if_icmp .ne 7, 3) := by decide +kernel
theorem dX2_countArcsOver_39 : decode cX2_countArcsOver 39 = .ok (.iconst 1, 1) := by decide +kernel
theorem dX2_countArcsOver_40 : decode cX2_countArcsOver 40 = .ok (.goto 4, 3) := by decide +kernel
theorem dX2_countArcsOver_43 : decode cX2_countArcsOver 43 = .ok (.iconst 0, 1) := by decide +kernel
theorem dX2_countArcsOver_44 : decode cX2_countArcsOver 44 = .ok (.iadd, 1) := by decide +kernel
theorem dX2_countArcsOver_45 : decode cX2_countArcsOver 45 = .ok (.istore_n 2, 1) := by decide +kernel
theorem dX2_countArcsOver_46 : decode cX2_countArcsOver 46 = .ok (.iinc 4 1, 3) := by decide +kernel
theorem dX2_countArcsOver_49 : decode cX2_countArcsOver 49 = .ok (.goto (-34), 3) := by decide +kernel
theorem dX2_countArcsOver_52 : decode cX2_countArcsOver 52 = .ok (.iinc 3 1, 3) := by decide +kernel
theorem dX2_countArcsOver_55 : decode cX2_countArcsOver 55 = .ok (.goto (-51), 3) := by decide +kernel
theorem dX2_countArcsOver_58 : decode cX2_countArcsOver 58 = .ok (.iload_n 2, 1) := by decide +kernel
theorem dX2_countArcsOver_59 : decode cX2_countArcsOver 59 = .ok (.ireturn, 1) := by decide +kernel
theorem dX3_init_0 : decode cX3_init 0 = .ok (.aload_n 0, 1) := by decide +kernel
theorem dX3_init_1 : decode cX3_init 1 = .ok (.invokespecial 3, 3) := by decide +kernel
theorem dX3_init_4 : decode cX3_init 4 = .ok (.aload_n 0, 1) := by decide +kernel
theorem dX3_init_5 : decode cX3_init 5 = .ok (.bipush 12, 2) := by decide +kernel
theorem dX3_init_7 : decode cX3_init 7 = .ok (.newarray .int, 2) := by decide +kernel
theorem dX3_init_9 : decode cX3_init 9 = .ok (.putfield 9, 3) := by decide +kernel
theorem dX3_init_12 : decode cX3_init 12 = .ok (.aload_n 0, 1) := by decide +kernel
theorem dX3_init_13 : decode cX3_init 13 = .ok (.bipush 12, 2) := by decide +kernel
theorem dX3_init_15 : decode cX3_init 15 = .ok (.newarray .int, 2) := by decide +kernel
theorem dX3_init_17 : decode cX3_init 17 = .ok (.putfield 15, 3) := by decide +kernel
theorem dX3_init_20 : decode cX3_init 20 = .ok (.aload_n 0, 1) := by decide +kernel
theorem dX3_init_21 : decode cX3_init 21 = .ok (.bipush 12, 2) := by decide +kernel
theorem dX3_init_23 : decode cX3_init 23 = .ok (.newarray .int, 2) := by decide +kernel
theorem dX3_init_25 : decode cX3_init 25 = .ok (.putfield 18, 3) := by decide +kernel
theorem dX3_init_28 : decode cX3_init 28 = .ok (.aload_n 0, 1) := by decide +kernel
theorem dX3_init_29 : decode cX3_init 29 = .ok (.new 21, 3) := by decide +kernel
theorem dX3_init_32 : decode cX3_init 32 = .ok (.dup, 1) := by decide +kernel
theorem dX3_init_33 : decode cX3_init 33 = .ok (.invokespecial 23, 3) := by decide +kernel
theorem dX3_init_36 : decode cX3_init 36 = .ok (.putfield 24, 3) := by decide +kernel
theorem dX3_init_39 : decode cX3_init 39 = .ok (.return_, 1) := by decide +kernel
theorem dX3_take_0 : decode cX3_take 0 = .ok (.aload_n 0, 1) := by decide +kernel
theorem dX3_take_1 : decode cX3_take 1 = .ok (.aload_n 1, 1) := by decide +kernel
theorem dX3_take_2 : decode cX3_take 2 = .ok (.invokevirtual 28, 3) := by decide +kernel
theorem dX3_take_5 : decode cX3_take 5 = .ok (.putfield 34, 3) := by decide +kernel
theorem dX3_take_8 : decode cX3_take 8 = .ok (.aload_n 1, 1) := by decide +kernel
theorem dX3_take_9 : decode cX3_take 9 = .ok (.getfield 38, 3) := by decide +kernel
theorem dX3_take_12 : decode cX3_take 12 = .ok (.iconst 0, 1) := by decide +kernel
theorem dX3_take_13 : decode cX3_take 13 = .ok (.aload_n 0, 1) := by decide +kernel
theorem dX3_take_14 : decode cX3_take 14 = .ok (.getfield 9, 3) := by decide +kernel
theorem dX3_take_17 : decode cX3_take 17 = .ok (.iconst 0, 1) := by decide +kernel
theorem dX3_take_18 : decode cX3_take 18 = .ok (.bipush 12, 2) := by decide +kernel
theorem dX3_take_20 : decode cX3_take 20 = .ok (.invokestatic 39, 3) := by decide +kernel
theorem dX3_take_23 : decode cX3_take 23 = .ok (.aload_n 1, 1) := by decide +kernel
theorem dX3_take_24 : decode cX3_take 24 = .ok (.getfield 45, 3) := by decide +kernel
theorem dX3_take_27 : decode cX3_take 27 = .ok (.iconst 0, 1) := by decide +kernel
theorem dX3_take_28 : decode cX3_take 28 = .ok (.aload_n 0, 1) := by decide +kernel
theorem dX3_take_29 : decode cX3_take 29 = .ok (.getfield 15, 3) := by decide +kernel
theorem dX3_take_32 : decode cX3_take 32 = .ok (.iconst 0, 1) := by decide +kernel
theorem dX3_take_33 : decode cX3_take 33 = .ok (.bipush 12, 2) := by decide +kernel
theorem dX3_take_35 : decode cX3_take 35 = .ok (.invokestatic 39, 3) := by decide +kernel
theorem dX3_take_38 : decode cX3_take 38 = .ok (.aload_n 1, 1) := by decide +kernel
theorem dX3_take_39 : decode cX3_take 39 = .ok (.getfield 46, 3) := by decide +kernel
theorem dX3_take_42 : decode cX3_take 42 = .ok (.iconst 0, 1) := by decide +kernel
theorem dX3_take_43 : decode cX3_take 43 = .ok (.aload_n 0, 1) := by decide +kernel
theorem dX3_take_44 : decode cX3_take 44 = .ok (.getfield 18, 3) := by decide +kernel
theorem dX3_take_47 : decode cX3_take 47 = .ok (.iconst 0, 1) := by decide +kernel
theorem dX3_take_48 : decode cX3_take 48 = .ok (.bipush 12, 2) := by decide +kernel
theorem dX3_take_50 : decode cX3_take 50 = .ok (.invokestatic 39, 3) := by decide +kernel
theorem dX3_take_53 : decode cX3_take 53 = .ok (.iconst 0, 1) := by decide +kernel
theorem dX3_take_54 : decode cX3_take 54 = .ok (.istore_n 2, 1) := by decide +kernel
theorem dX3_take_55 : decode cX3_take 55 = .ok (.iload_n 2, 1) := by decide +kernel
theorem dX3_take_56 : decode cX3_take 56 = .ok (.aload_n 0, 1) := by decide +kernel
theorem dX3_take_57 : decode cX3_take 57 = .ok (.getfield 34, 3) := by decide +kernel
theorem dX3_take_60 : decode cX3_take 60 = .ok (.if_icmp .ge 40, 3) := by decide +kernel
theorem dX3_take_63 : decode cX3_take 63 = .ok (.iconst 0, 1) := by decide +kernel
theorem dX3_take_64 : decode cX3_take 64 = .ok (.istore_n 3, 1) := by decide +kernel
theorem dX3_take_65 : decode cX3_take 65 = .ok (.iload_n 3, 1) := by decide +kernel
theorem dX3_take_66 : decode cX3_take 66 = .ok (.aload_n 0, 1) := by decide +kernel
theorem dX3_take_67 : decode cX3_take 67 = .ok (.getfield 34, 3) := by decide +kernel
theorem dX3_take_70 : decode cX3_take 70 = .ok (.if_icmp .ge 24, 3) := by decide +kernel
theorem dX3_take_73 : decode cX3_take 73 = .ok (.aload_n 0, 1) := by decide +kernel
theorem dX3_take_74 : decode cX3_take 74 = .ok (.getfield 24, 3) := by decide +kernel
theorem dX3_take_77 : decode cX3_take 77 = .ok (.iload_n 2, 1) := by decide +kernel
theorem dX3_take_78 : decode cX3_take 78 = .ok (.iload_n 3, 1) := by decide +kernel
theorem dX3_take_79 : decode cX3_take 79 = .ok (.aload_n 0, 1) := by decide +kernel
theorem dX3_take_80 : decode cX3_take 80 = .ok (.iload_n 2, 1) := by decide +kernel
theorem dX3_take_81 : decode cX3_take 81 = .ok (.iload_n 3, 1) := by decide +kernel
theorem dX3_take_82 : decode cX3_take 82 = .ok (.invokevirtual 47, 3) := by decide +kernel
theorem dX3_take_85 : decode cX3_take 85 = .ok (.invokevirtual 51, 3) := by decide +kernel
theorem dX3_take_88 : decode cX3_take 88 = .ok (.iinc 3 1, 3) := by decide +kernel
theorem dX3_take_91 : decode cX3_take 91 = .ok (.goto (-26), 3) := by decide +kernel
theorem dX3_take_94 : decode cX3_take 94 = .ok (.iinc 2 1, 3) := by decide +kernel
theorem dX3_take_97 : decode cX3_take 97 = .ok (.goto (-42), 3) := by decide +kernel
theorem dX3_take_100 : decode cX3_take 100 = .ok (.return_, 1) := by decide +kernel
theorem dX3_firstCost_0 : decode cX3_firstCost 0 = .ok (.aload_n 0, 1) := by decide +kernel
theorem dX3_firstCost_1 : decode cX3_firstCost 1 = .ok (.getfield 15, 3) := by decide +kernel
theorem dX3_firstCost_4 : decode cX3_firstCost 4 = .ok (.iload_n 1, 1) := by decide +kernel
theorem dX3_firstCost_5 : decode cX3_firstCost 5 = .ok (.iaload, 1) := by decide +kernel
theorem dX3_firstCost_6 : decode cX3_firstCost 6 = .ok (.aload_n 0, 1) := by decide +kernel
theorem dX3_firstCost_7 : decode cX3_firstCost 7 = .ok (.getfield 9, 3) := by decide +kernel
theorem dX3_firstCost_10 : decode cX3_firstCost 10 = .ok (.iload_n 2, 1) := by decide +kernel
theorem dX3_firstCost_11 : decode cX3_firstCost 11 = .ok (.iaload, 1) := by decide +kernel
theorem dX3_firstCost_12 : decode cX3_firstCost 12 = .ok (.if_icmp .eq 6, 3) := by decide +kernel
theorem dX3_firstCost_15 : decode cX3_firstCost 15 = .ok (.bipush (-6), 2) := by decide +kernel
theorem dX3_firstCost_17 : decode cX3_firstCost 17 = .ok (.ireturn, 1) := by decide +kernel
theorem dX3_firstCost_18 : decode cX3_firstCost 18 = .ok (.aload_n 0, 1) := by decide +kernel
theorem dX3_firstCost_19 : decode cX3_firstCost 19 = .ok (.getfield 15, 3) := by decide +kernel
theorem dX3_firstCost_22 : decode cX3_firstCost 22 = .ok (.iload_n 2, 1) := by decide +kernel
theorem dX3_firstCost_23 : decode cX3_firstCost 23 = .ok (.iaload, 1) := by decide +kernel
theorem dX3_firstCost_24 : decode cX3_firstCost 24 = .ok (.aload_n 0, 1) := by decide +kernel
theorem dX3_firstCost_25 : decode cX3_firstCost 25 = .ok (.getfield 9, 3) := by decide +kernel
theorem dX3_firstCost_28 : decode cX3_firstCost 28 = .ok (.iload_n 1, 1) := by decide +kernel
theorem dX3_firstCost_29 : decode cX3_firstCost 29 = .ok (.iaload, 1) := by decide +kernel
theorem dX3_firstCost_30 : decode cX3_firstCost 30 = .ok (.if_icmp .ne 8, 3) := by decide +kernel
theorem dX3_firstCost_33 : decode cX3_firstCost 33 = .ok (.bipush (-5), 2) := by decide +kernel
theorem dX3_firstCost_35 : decode cX3_firstCost 35 = .ok (.goto 4, 3) := by decide +kernel
theorem dX3_firstCost_38 : decode cX3_firstCost 38 = .ok (.iconst 0, 1) := by decide +kernel
theorem dX3_firstCost_39 : decode cX3_firstCost 39 = .ok (.ireturn, 1) := by decide +kernel
theorem dX3_has_0 : decode cX3_has 0 = .ok (.iload_n 1, 1) := by decide +kernel
theorem dX3_has_1 : decode cX3_has 1 = .ok (.ifCond .lt 15, 3) := by decide +kernel
theorem dX3_has_4 : decode cX3_has 4 = .ok (.iload_n 1, 1) := by decide +kernel
theorem dX3_has_5 : decode cX3_has 5 = .ok (.aload_n 0, 1) := by decide +kernel
theorem dX3_has_6 : decode cX3_has 6 = .ok (.getfield 34, 3) := by decide +kernel
theorem dX3_has_9 : decode cX3_has 9 = .ok (.if_icmp .ge 7, 3) := by decide +kernel
theorem dX3_has_12 : decode cX3_has 12 = .ok (.iconst 1, 1) := by decide +kernel
theorem dX3_has_13 : decode cX3_has 13 = .ok (.goto 4, 3) := by decide +kernel
theorem dX3_has_16 : decode cX3_has 16 = .ok (.iconst 0, 1) := by decide +kernel
theorem dX3_has_17 : decode cX3_has 17 = .ok (.ireturn, 1) := by decide +kernel
theorem dX3_hasBoth_0 : decode cX3_hasBoth 0 = .ok (.aload_n 0, 1) := by decide +kernel
theorem dX3_hasBoth_1 : decode cX3_hasBoth 1 = .ok (.iload_n 1, 1) := by decide +kernel
theorem dX3_hasBoth_2 : decode cX3_hasBoth 2 = .ok (.invokevirtual 55, 3) := by decide +kernel
theorem dX3_hasBoth_5 : decode cX3_hasBoth 5 = .ok (.ifCond .eq 15, 3) := by decide +kernel
theorem dX3_hasBoth_8 : decode cX3_hasBoth 8 = .ok (.aload_n 0, 1) := by decide +kernel
theorem dX3_hasBoth_9 : decode cX3_hasBoth 9 = .ok (.iload_n 2, 1) := by decide +kernel
theorem dX3_hasBoth_10 : decode cX3_hasBoth 10 = .ok (.invokevirtual 55, 3) := by decide +kernel
theorem dX3_hasBoth_13 : decode cX3_hasBoth 13 = .ok (.ifCond .eq 7, 3) := by decide +kernel
theorem dX3_hasBoth_16 : decode cX3_hasBoth 16 = .ok (.iconst 1, 1) := by decide +kernel
theorem dX3_hasBoth_17 : decode cX3_hasBoth 17 = .ok (.goto 4, 3) := by decide +kernel
theorem dX3_hasBoth_20 : decode cX3_hasBoth 20 = .ok (.iconst 0, 1) := by decide +kernel
theorem dX3_hasBoth_21 : decode cX3_hasBoth 21 = .ok (.ireturn, 1) := by decide +kernel
theorem dX3_hasTurn_0 : decode cX3_hasTurn 0 = .ok (.aload_n 0, 1) := by decide +kernel
theorem dX3_hasTurn_1 : decode cX3_hasTurn 1 = .ok (.getfield 24, 3) := by decide +kernel
theorem dX3_hasTurn_4 : decode cX3_hasTurn 4 = .ok (.iload_n 1, 1) := by decide +kernel
theorem dX3_hasTurn_5 : decode cX3_hasTurn 5 = .ok (.iload_n 2, 1) := by decide +kernel
theorem dX3_hasTurn_6 : decode cX3_hasTurn 6 = .ok (.invokevirtual 59, 3) := by decide +kernel
theorem dX3_hasTurn_9 : decode cX3_hasTurn 9 = .ok (.bipush (-6), 2) := by decide +kernel
theorem dX3_hasTurn_11 : decode cX3_hasTurn 11 = .ok (.if_icmp .eq 7, 3) := by decide +kernel
theorem dX3_hasTurn_14 : decode cX3_hasTurn 14 = .ok (.iconst 1, 1) := by decide +kernel
theorem dX3_hasTurn_15 : decode cX3_hasTurn 15 = .ok (.goto 4, 3) := by decide +kernel
theorem dX3_hasTurn_18 : decode cX3_hasTurn 18 = .ok (.iconst 0, 1) := by decide +kernel
theorem dX3_hasTurn_19 : decode cX3_hasTurn 19 = .ok (.ireturn, 1) := by decide +kernel
theorem dX3_hasStep_0 : decode cX3_hasStep 0 = .ok (.aload_n 0, 1) := by decide +kernel
theorem dX3_hasStep_1 : decode cX3_hasStep 1 = .ok (.getfield 24, 3) := by decide +kernel
theorem dX3_hasStep_4 : decode cX3_hasStep 4 = .ok (.iload_n 1, 1) := by decide +kernel
theorem dX3_hasStep_5 : decode cX3_hasStep 5 = .ok (.iload_n 2, 1) := by decide +kernel
theorem dX3_hasStep_6 : decode cX3_hasStep 6 = .ok (.invokevirtual 59, 3) := by decide +kernel
theorem dX3_hasStep_9 : decode cX3_hasStep 9 = .ok (.ifCond .lt 7, 3) := by decide +kernel
theorem dX3_hasStep_12 : decode cX3_hasStep 12 = .ok (.iconst 1, 1) := by decide +kernel
theorem dX3_hasStep_13 : decode cX3_hasStep 13 = .ok (.goto 4, 3) := by decide +kernel
theorem dX3_hasStep_16 : decode cX3_hasStep 16 = .ok (.iconst 0, 1) := by decide +kernel
theorem dX3_hasStep_17 : decode cX3_hasStep 17 = .ok (.ireturn, 1) := by decide +kernel
theorem dX3_stepWorth_0 : decode cX3_stepWorth 0 = .ok (.aload_n 0, 1) := by decide +kernel
theorem dX3_stepWorth_1 : decode cX3_stepWorth 1 = .ok (.iload_n 1, 1) := by decide +kernel
theorem dX3_stepWorth_2 : decode cX3_stepWorth 2 = .ok (.iload_n 2, 1) := by decide +kernel
theorem dX3_stepWorth_3 : decode cX3_stepWorth 3 = .ok (.invokevirtual 62, 3) := by decide +kernel
theorem dX3_stepWorth_6 : decode cX3_stepWorth 6 = .ok (.ifCond .eq 22, 3) := by decide +kernel
theorem dX3_stepWorth_9 : decode cX3_stepWorth 9 = .ok (.aload_n 0, 1) := by decide +kernel
theorem dX3_stepWorth_10 : decode cX3_stepWorth 10 = .ok (.getfield 24, 3) := by decide +kernel
theorem dX3_stepWorth_13 : decode cX3_stepWorth 13 = .ok (.iload_n 1, 1) := by decide +kernel
theorem dX3_stepWorth_14 : decode cX3_stepWorth 14 = .ok (.iload_n 2, 1) := by decide +kernel
theorem dX3_stepWorth_15 : decode cX3_stepWorth 15 = .ok (.invokevirtual 59, 3) := by decide +kernel
theorem dX3_stepWorth_18 : decode cX3_stepWorth 18 = .ok (.aload_n 0, 1) := by decide +kernel
theorem dX3_stepWorth_19 : decode cX3_stepWorth 19 = .ok (.getfield 18, 3) := by decide +kernel
theorem dX3_stepWorth_22 : decode cX3_stepWorth 22 = .ok (.iload_n 2, 1) := by decide +kernel
theorem dX3_stepWorth_23 : decode cX3_stepWorth 23 = .ok (.iaload, 1) := by decide +kernel
theorem dX3_stepWorth_24 : decode cX3_stepWorth 24 = .ok (.iadd, 1) := by decide +kernel
theorem dX3_stepWorth_25 : decode cX3_stepWorth 25 = .ok (.goto 5, 3) := by decide +kernel
theorem dX3_stepWorth_28 : decode cX3_stepWorth 28 = .ok (.ldc 66, 2) := by decide +kernel
theorem dX3_stepWorth_30 : decode cX3_stepWorth 30 = .ok (.ireturn, 1) := by decide +kernel
theorem dX3_stepKey_0 : decode cX3_stepKey 0 = .ok (.aload_n 0, 1) := by decide +kernel
theorem dX3_stepKey_1 : decode cX3_stepKey 1 = .ok (.iload_n 1, 1) := by decide +kernel
theorem dX3_stepKey_2 : decode cX3_stepKey 2 = .ok (.iload_n 2, 1) := by decide +kernel
theorem dX3_stepKey_3 : decode cX3_stepKey 3 = .ok (.invokevirtual 62, 3) := by decide +kernel
theorem dX3_stepKey_6 : decode cX3_stepKey 6 = .ok (.ifCond .eq 17, 3) := by decide +kernel
theorem dX3_stepKey_9 : decode cX3_stepKey 9 = .ok (.aload_n 0, 1) := by decide +kernel
theorem dX3_stepKey_10 : decode cX3_stepKey 10 = .ok (.iload_n 1, 1) := by decide +kernel
theorem dX3_stepKey_11 : decode cX3_stepKey 11 = .ok (.iload_n 2, 1) := by decide +kernel
theorem dX3_stepKey_12 : decode cX3_stepKey 12 = .ok (.invokevirtual 67, 3) := by decide +kernel
theorem dX3_stepKey_15 : decode cX3_stepKey 15 = .ok (.bipush 64, 2) := by decide +kernel
theorem dX3_stepKey_17 : decode cX3_stepKey 17 = .ok (.imul, 1) := by decide +kernel
theorem dX3_stepKey_18 : decode cX3_stepKey 18 = .ok (.iconst 1, 1) := by decide +kernel
theorem dX3_stepKey_19 : decode cX3_stepKey 19 = .ok (.iadd, 1) := by decide +kernel
theorem dX3_stepKey_20 : decode cX3_stepKey 20 = .ok (.goto 5, 3) := by decide +kernel
theorem dX3_stepKey_23 : decode cX3_stepKey 23 = .ok (.ldc 66, 2) := by decide +kernel
theorem dX3_stepKey_25 : decode cX3_stepKey 25 = .ok (.ireturn, 1) := by decide +kernel
theorem dX3_fillLeastKeys_0 : decode cX3_fillLeastKeys 0 = .ok (.iconst 0, 1) := by decide +kernel
theorem dX3_fillLeastKeys_1 : decode cX3_fillLeastKeys 1 = .ok (.istore_n 3, 1) := by decide +kernel
theorem dX3_fillLeastKeys_2 : decode cX3_fillLeastKeys 2 = .ok (.iload_n 3, 1) := by decide +kernel
theorem dX3_fillLeastKeys_3 : decode cX3_fillLeastKeys 3 = .ok (.aload_n 0, 1) := by decide +kernel
theorem dX3_fillLeastKeys_4 : decode cX3_fillLeastKeys 4 = .ok (.getfield 34, 3) := by decide +kernel
theorem dX3_fillLeastKeys_7 : decode cX3_fillLeastKeys 7 = .ok (.if_icmp .ge 76, 3) := by decide +kernel
theorem dX3_fillLeastKeys_10 : decode cX3_fillLeastKeys 10 = .ok (.iconst 0, 1) := by decide +kernel
theorem dX3_fillLeastKeys_11 : decode cX3_fillLeastKeys 11 = .ok (.istore 4, 2) := by decide +kernel
theorem dX3_fillLeastKeys_13 : decode cX3_fillLeastKeys 13 = .ok (.iload 4, 2) := by decide +kernel
theorem dX3_fillLeastKeys_15 : decode cX3_fillLeastKeys 15 = .ok (.aload_n 0, 1) := by decide +kernel
theorem dX3_fillLeastKeys_16 : decode cX3_fillLeastKeys 16 = .ok (.getfield 34, 3) := by decide +kernel
theorem dX3_fillLeastKeys_19 : decode cX3_fillLeastKeys 19 = .ok (.if_icmp .ge 51, 3) := by decide +kernel
theorem dX3_fillLeastKeys_22 : decode cX3_fillLeastKeys 22 = .ok (.iload_n 3, 1) := by decide +kernel
theorem dX3_fillLeastKeys_23 : decode cX3_fillLeastKeys 23 = .ok (.iload_n 2, 1) := by decide +kernel
theorem dX3_fillLeastKeys_24 : decode cX3_fillLeastKeys 24 = .ok (.if_icmp .eq 13, 3) := by decide +kernel
theorem dX3_fillLeastKeys_27 : decode cX3_fillLeastKeys 27 = .ok (.iload 4, 2) := by decide +kernel
theorem dX3_fillLeastKeys_29 : decode cX3_fillLeastKeys 29 = .ok (.iload_n 2, 1) := by decide +kernel
theorem dX3_fillLeastKeys_30 : decode cX3_fillLeastKeys 30 = .ok (.if_icmp .eq 7, 3) := by decide +kernel
theorem dX3_fillLeastKeys_33 : decode cX3_fillLeastKeys 33 = .ok (.iconst 1, 1) := by decide +kernel
theorem dX3_fillLeastKeys_34 : decode cX3_fillLeastKeys 34 = .ok (.goto 4, 3) := by decide +kernel
theorem dX3_fillLeastKeys_37 : decode cX3_fillLeastKeys 37 = .ok (.iconst 0, 1) := by decide +kernel
theorem dX3_fillLeastKeys_38 : decode cX3_fillLeastKeys 38 = .ok (.istore 5, 2) := by decide +kernel
theorem dX3_fillLeastKeys_40 : decode cX3_fillLeastKeys 40 = .ok (.aload_n 1, 1) := by decide +kernel
theorem dX3_fillLeastKeys_41 : decode cX3_fillLeastKeys 41 = .ok (.iload_n 3, 1) := by decide +kernel
theorem dX3_fillLeastKeys_42 : decode cX3_fillLeastKeys 42 = .ok (.iload 4, 2) := by decide +kernel
theorem dX3_fillLeastKeys_44 : decode cX3_fillLeastKeys 44 = .ok (.iload 5, 2) := by decide +kernel
theorem dX3_fillLeastKeys_46 : decode cX3_fillLeastKeys 46 = .ok (.ifCond .eq 13, 3) := by decide +kernel
theorem dX3_fillLeastKeys_49 : decode cX3_fillLeastKeys 49 = .ok (.aload_n 0, 1) := by decide +kernel
theorem dX3_fillLeastKeys_50 : decode cX3_fillLeastKeys 50 = .ok (.iload_n 3, 1) := by decide +kernel
theorem dX3_fillLeastKeys_51 : decode cX3_fillLeastKeys 51 = .ok (.iload 4, 2) := by decide +kernel
theorem dX3_fillLeastKeys_53 : decode cX3_fillLeastKeys 53 = .ok (.invokevirtual 70, 3) := by decide +kernel
theorem dX3_fillLeastKeys_56 : decode cX3_fillLeastKeys 56 = .ok (.goto 5, 3) := by decide +kernel
theorem dX3_fillLeastKeys_59 : decode cX3_fillLeastKeys 59 = .ok (.ldc 66, 2) := by decide +kernel
theorem dX3_fillLeastKeys_61 : decode cX3_fillLeastKeys 61 = .ok (.invokevirtual 51, 3) := by decide +kernel
theorem dX3_fillLeastKeys_64 : decode cX3_fillLeastKeys 64 = .ok (.iinc 4 1, 3) := by decide +kernel
theorem dX3_fillLeastKeys_67 : decode cX3_fillLeastKeys 67 = .ok (.goto (-54), 3) := by decide +kernel
theorem dX3_fillLeastKeys_70 : decode cX3_fillLeastKeys 70 = .ok (.aload_n 1, 1) := by decide +kernel
theorem dX3_fillLeastKeys_71 : decode cX3_fillLeastKeys 71 = .ok (.iload_n 3, 1) := by decide +kernel
theorem dX3_fillLeastKeys_72 : decode cX3_fillLeastKeys 72 = .ok (.iload_n 3, 1) := by decide +kernel
theorem dX3_fillLeastKeys_73 : decode cX3_fillLeastKeys 73 = .ok (.iconst 0, 1) := by decide +kernel
theorem dX3_fillLeastKeys_74 : decode cX3_fillLeastKeys 74 = .ok (.invokevirtual 51, 3) := by decide +kernel
theorem dX3_fillLeastKeys_77 : decode cX3_fillLeastKeys 77 = .ok (.iinc 3 1, 3) := by decide +kernel
theorem dX3_fillLeastKeys_80 : decode cX3_fillLeastKeys 80 = .ok (.goto (-78), 3) := by decide +kernel
theorem dX3_fillLeastKeys_83 : decode cX3_fillLeastKeys 83 = .ok (.aload_n 1, 1) := by decide +kernel
theorem dX3_fillLeastKeys_84 : decode cX3_fillLeastKeys 84 = .ok (.aload_n 0, 1) := by decide +kernel
theorem dX3_fillLeastKeys_85 : decode cX3_fillLeastKeys 85 = .ok (.getfield 34, 3) := by decide +kernel
theorem dX3_fillLeastKeys_88 : decode cX3_fillLeastKeys 88 = .ok (.invokevirtual 73, 3) := by decide +kernel
theorem dX3_fillLeastKeys_91 : decode cX3_fillLeastKeys 91 = .ok (.return_, 1) := by decide +kernel
theorem dX3_countTurns_0 : decode cX3_countTurns 0 = .ok (.iconst 0, 1) := by decide +kernel
theorem dX3_countTurns_1 : decode cX3_countTurns 1 = .ok (.istore_n 1, 1) := by decide +kernel
theorem dX3_countTurns_2 : decode cX3_countTurns 2 = .ok (.iconst 0, 1) := by decide +kernel
theorem dX3_countTurns_3 : decode cX3_countTurns 3 = .ok (.istore_n 2, 1) := by decide +kernel
theorem dX3_countTurns_4 : decode cX3_countTurns 4 = .ok (.iload_n 2, 1) := by decide +kernel
theorem dX3_countTurns_5 : decode cX3_countTurns 5 = .ok (.aload_n 0, 1) := by decide +kernel
theorem dX3_countTurns_6 : decode cX3_countTurns 6 = .ok (.getfield 34, 3) := by decide +kernel
theorem dX3_countTurns_9 : decode cX3_countTurns 9 = .ok (.if_icmp .ge 42, 3) := by decide +kernel
theorem dX3_countTurns_12 : decode cX3_countTurns 12 = .ok (.iconst 0, 1) := by decide +kernel
theorem dX3_countTurns_13 : decode cX3_countTurns 13 = .ok (.istore_n 3, 1) := by decide +kernel
theorem dX3_countTurns_14 : decode cX3_countTurns 14 = .ok (.iload_n 3, 1) := by decide +kernel
theorem dX3_countTurns_15 : decode cX3_countTurns 15 = .ok (.aload_n 0, 1) := by decide +kernel
theorem dX3_countTurns_16 : decode cX3_countTurns 16 = .ok (.getfield 34, 3) := by decide +kernel
theorem dX3_countTurns_19 : decode cX3_countTurns 19 = .ok (.if_icmp .ge 26, 3) := by decide +kernel
theorem dX3_countTurns_22 : decode cX3_countTurns 22 = .ok (.iload_n 1, 1) := by decide +kernel
theorem dX3_countTurns_23 : decode cX3_countTurns 23 = .ok (.aload_n 0, 1) := by decide +kernel
theorem dX3_countTurns_24 : decode cX3_countTurns 24 = .ok (.iload_n 2, 1) := by decide +kernel
theorem dX3_countTurns_25 : decode cX3_countTurns 25 = .ok (.iload_n 3, 1) := by decide +kernel
theorem dX3_countTurns_26 : decode cX3_countTurns 26 = .ok (.invokevirtual 77, 3) := by decide +kernel
theorem dX3_countTurns_29 : decode cX3_countTurns 29 = .ok (.ifCond .eq 7, 3) := by decide +kernel
theorem dX3_countTurns_32 : decode cX3_countTurns 32 = .ok (.iconst 1, 1) := by decide +kernel
theorem dX3_countTurns_33 : decode cX3_countTurns 33 = .ok (.goto 4, 3) := by decide +kernel
theorem dX3_countTurns_36 : decode cX3_countTurns 36 = .ok (.iconst 0, 1) := by decide +kernel
theorem dX3_countTurns_37 : decode cX3_countTurns 37 = .ok (.iadd, 1) := by decide +kernel
theorem dX3_countTurns_38 : decode cX3_countTurns 38 = .ok (.istore_n 1, 1) := by decide +kernel
theorem dX3_countTurns_39 : decode cX3_countTurns 39 = .ok (.iinc 3 1, 3) := by decide +kernel
theorem dX3_countTurns_42 : decode cX3_countTurns 42 = .ok (.goto (-28), 3) := by decide +kernel
theorem dX3_countTurns_45 : decode cX3_countTurns 45 = .ok (.iinc 2 1, 3) := by decide +kernel
theorem dX3_countTurns_48 : decode cX3_countTurns 48 = .ok (.goto (-44), 3) := by decide +kernel
theorem dX3_countTurns_51 : decode cX3_countTurns 51 = .ok (.iload_n 1, 1) := by decide +kernel
theorem dX3_countTurns_52 : decode cX3_countTurns 52 = .ok (.ireturn, 1) := by decide +kernel
theorem dX3_countBarred_0 : decode cX3_countBarred 0 = .ok (.iconst 0, 1) := by decide +kernel
theorem dX3_countBarred_1 : decode cX3_countBarred 1 = .ok (.istore_n 1, 1) := by decide +kernel
theorem dX3_countBarred_2 : decode cX3_countBarred 2 = .ok (.iconst 0, 1) := by decide +kernel
theorem dX3_countBarred_3 : decode cX3_countBarred 3 = .ok (.istore_n 2, 1) := by decide +kernel
theorem dX3_countBarred_4 : decode cX3_countBarred 4 = .ok (.iload_n 2, 1) := by decide +kernel
theorem dX3_countBarred_5 : decode cX3_countBarred 5 = .ok (.aload_n 0, 1) := by decide +kernel
theorem dX3_countBarred_6 : decode cX3_countBarred 6 = .ok (.getfield 34, 3) := by decide +kernel
theorem dX3_countBarred_9 : decode cX3_countBarred 9 = .ok (.if_icmp .ge 47, 3) := by decide +kernel
theorem dX3_countBarred_12 : decode cX3_countBarred 12 = .ok (.iconst 0, 1) := by decide +kernel
theorem dX3_countBarred_13 : decode cX3_countBarred 13 = .ok (.istore_n 3, 1) := by decide +kernel
theorem dX3_countBarred_14 : decode cX3_countBarred 14 = .ok (.iload_n 3, 1) := by decide +kernel
theorem dX3_countBarred_15 : decode cX3_countBarred 15 = .ok (.aload_n 0, 1) := by decide +kernel
theorem dX3_countBarred_16 : decode cX3_countBarred 16 = .ok (.getfield 34, 3) := by decide +kernel
theorem dX3_countBarred_19 : decode cX3_countBarred 19 = .ok (.if_icmp .ge 31, 3) := by decide +kernel
theorem dX3_countBarred_22 : decode cX3_countBarred 22 = .ok (.iload_n 1, 1) := by decide +kernel
theorem dX3_countBarred_23 : decode cX3_countBarred 23 = .ok (.aload_n 0, 1) := by decide +kernel
theorem dX3_countBarred_24 : decode cX3_countBarred 24 = .ok (.getfield 24, 3) := by decide +kernel
theorem dX3_countBarred_27 : decode cX3_countBarred 27 = .ok (.iload_n 2, 1) := by decide +kernel
theorem dX3_countBarred_28 : decode cX3_countBarred 28 = .ok (.iload_n 3, 1) := by decide +kernel
theorem dX3_countBarred_29 : decode cX3_countBarred 29 = .ok (.invokevirtual 59, 3) := by decide +kernel
theorem dX3_countBarred_32 : decode cX3_countBarred 32 = .ok (.bipush (-5), 2) := by decide +kernel
theorem dX3_countBarred_34 : decode cX3_countBarred 34 = .ok (.if_icmp .ne 7, 3) := by decide +kernel
theorem dX3_countBarred_37 : decode cX3_countBarred 37 = .ok (.iconst 1, 1) := by decide +kernel
theorem dX3_countBarred_38 : decode cX3_countBarred 38 = .ok (.goto 4, 3) := by decide +kernel
theorem dX3_countBarred_41 : decode cX3_countBarred 41 = .ok (.iconst 0, 1) := by decide +kernel
theorem dX3_countBarred_42 : decode cX3_countBarred 42 = .ok (.iadd, 1) := by decide +kernel
theorem dX3_countBarred_43 : decode cX3_countBarred 43 = .ok (.istore_n 1, 1) := by decide +kernel
theorem dX3_countBarred_44 : decode cX3_countBarred 44 = .ok (.iinc 3 1, 3) := by decide +kernel
theorem dX3_countBarred_47 : decode cX3_countBarred 47 = .ok (.goto (-33), 3) := by decide +kernel
theorem dX3_countBarred_50 : decode cX3_countBarred 50 = .ok (.iinc 2 1, 3) := by decide +kernel
theorem dX3_countBarred_53 : decode cX3_countBarred 53 = .ok (.goto (-49), 3) := by decide +kernel
theorem dX3_countBarred_56 : decode cX3_countBarred 56 = .ok (.iload_n 1, 1) := by decide +kernel
theorem dX3_countBarred_57 : decode cX3_countBarred 57 = .ok (.ireturn, 1) := by decide +kernel
theorem dX4_init_0 : decode cX4_init 0 = .ok (.aload_n 0, 1) := by decide +kernel
theorem dX4_init_1 : decode cX4_init 1 = .ok (.invokespecial 3, 3) := by decide +kernel
theorem dX4_init_4 : decode cX4_init 4 = .ok (.aload_n 0, 1) := by decide +kernel
theorem dX4_init_5 : decode cX4_init 5 = .ok (.bipush 60, 2) := by decide +kernel
theorem dX4_init_7 : decode cX4_init 7 = .ok (.newarray .int, 2) := by decide +kernel
theorem dX4_init_9 : decode cX4_init 9 = .ok (.putfield 9, 3) := by decide +kernel
theorem dX4_init_12 : decode cX4_init 12 = .ok (.aload_n 0, 1) := by decide +kernel
theorem dX4_init_13 : decode cX4_init 13 = .ok (.bipush 12, 2) := by decide +kernel
theorem dX4_init_15 : decode cX4_init 15 = .ok (.newarray .int, 2) := by decide +kernel
theorem dX4_init_17 : decode cX4_init 17 = .ok (.putfield 15, 3) := by decide +kernel
theorem dX4_init_20 : decode cX4_init 20 = .ok (.aload_n 0, 1) := by decide +kernel
theorem dX4_init_21 : decode cX4_init 21 = .ok (.bipush 12, 2) := by decide +kernel
theorem dX4_init_23 : decode cX4_init 23 = .ok (.newarray .int, 2) := by decide +kernel
theorem dX4_init_25 : decode cX4_init 25 = .ok (.putfield 18, 3) := by decide +kernel
theorem dX4_init_28 : decode cX4_init 28 = .ok (.aload_n 0, 1) := by decide +kernel
theorem dX4_init_29 : decode cX4_init 29 = .ok (.bipush 12, 2) := by decide +kernel
theorem dX4_init_31 : decode cX4_init 31 = .ok (.newarray .int, 2) := by decide +kernel
theorem dX4_init_33 : decode cX4_init 33 = .ok (.putfield 21, 3) := by decide +kernel
theorem dX4_init_36 : decode cX4_init 36 = .ok (.return_, 1) := by decide +kernel
theorem dX4_put_0 : decode cX4_put 0 = .ok (.aload_n 0, 1) := by decide +kernel
theorem dX4_put_1 : decode cX4_put 1 = .ok (.getfield 24, 3) := by decide +kernel
theorem dX4_put_4 : decode cX4_put 4 = .ok (.bipush 60, 2) := by decide +kernel
theorem dX4_put_6 : decode cX4_put 6 = .ok (.if_icmp .ge 23, 3) := by decide +kernel
theorem dX4_put_9 : decode cX4_put 9 = .ok (.aload_n 0, 1) := by decide +kernel
theorem dX4_put_10 : decode cX4_put 10 = .ok (.getfield 9, 3) := by decide +kernel
theorem dX4_put_13 : decode cX4_put 13 = .ok (.aload_n 0, 1) := by decide +kernel
theorem dX4_put_14 : decode cX4_put 14 = .ok (.getfield 24, 3) := by decide +kernel
theorem dX4_put_17 : decode cX4_put 17 = .ok (.iload_n 1, 1) := by decide +kernel
theorem dX4_put_18 : decode cX4_put 18 = .ok (.iastore, 1) := by decide +kernel
theorem dX4_put_19 : decode cX4_put 19 = .ok (.aload_n 0, 1) := by decide +kernel
theorem dX4_put_20 : decode cX4_put 20 = .ok (.dup, 1) := by decide +kernel
theorem dX4_put_21 : decode cX4_put 21 = .ok (.getfield 24, 3) := by decide +kernel
theorem dX4_put_24 : decode cX4_put 24 = .ok (.iconst 1, 1) := by decide +kernel
theorem dX4_put_25 : decode cX4_put 25 = .ok (.iadd, 1) := by decide +kernel
theorem dX4_put_26 : decode cX4_put 26 = .ok (.putfield 24, 3) := by decide +kernel
theorem dX4_put_29 : decode cX4_put 29 = .ok (.return_, 1) := by decide +kernel
theorem dX4_scan_0 : decode cX4_scan 0 = .ok (.aload_n 0, 1) := by decide +kernel
theorem dX4_scan_1 : decode cX4_scan 1 = .ok (.iconst 0, 1) := by decide +kernel
theorem dX4_scan_2 : decode cX4_scan 2 = .ok (.putfield 28, 3) := by decide +kernel
theorem dX4_scan_5 : decode cX4_scan 5 = .ok (.aload_n 0, 1) := by decide +kernel
theorem dX4_scan_6 : decode cX4_scan 6 = .ok (.iconst 0, 1) := by decide +kernel
theorem dX4_scan_7 : decode cX4_scan 7 = .ok (.putfield 31, 3) := by decide +kernel
theorem dX4_scan_10 : decode cX4_scan 10 = .ok (.iconst 0, 1) := by decide +kernel
theorem dX4_scan_11 : decode cX4_scan 11 = .ok (.istore_n 1, 1) := by decide +kernel
theorem dX4_scan_12 : decode cX4_scan 12 = .ok (.iload_n 1, 1) := by decide +kernel
theorem dX4_scan_13 : decode cX4_scan 13 = .ok (.aload_n 0, 1) := by decide +kernel
theorem dX4_scan_14 : decode cX4_scan 14 = .ok (.getfield 24, 3) := by decide +kernel
theorem dX4_scan_17 : decode cX4_scan 17 = .ok (.if_icmp .ge 24, 3) := by decide +kernel
theorem dX4_scan_20 : decode cX4_scan 20 = .ok (.aload_n 0, 1) := by decide +kernel
theorem dX4_scan_21 : decode cX4_scan 21 = .ok (.aload_n 0, 1) := by decide +kernel
theorem dX4_scan_22 : decode cX4_scan 22 = .ok (.getfield 9, 3) := by decide +kernel
theorem dX4_scan_25 : decode cX4_scan 25 = .ok (.iload_n 1, 1) := by decide +kernel
theorem dX4_scan_26 : decode cX4_scan 26 = .ok (.iaload, 1) := by decide +kernel
theorem dX4_scan_27 : decode cX4_scan 27 = .ok (.invokevirtual 34, 3) := by decide +kernel
theorem dX4_scan_30 : decode cX4_scan 30 = .ok (.ifCond .ne 5, 3) := by decide +kernel
theorem dX4_scan_33 : decode cX4_scan 33 = .ok (.iload_n 1, 1) := by decide +kernel
theorem dX4_scan_34 : decode cX4_scan 34 = .ok (.ireturn, 1) := by decide +kernel
theorem dX4_scan_35 : decode cX4_scan 35 = .ok (.iinc 1 1, 3) := by decide +kernel
theorem dX4_scan_38 : decode cX4_scan 38 = .ok (.goto (-26), 3) := by decide +kernel
theorem dX4_scan_41 : decode cX4_scan 41 = .ok (.aload_n 0, 1) := by decide +kernel
theorem dX4_scan_42 : decode cX4_scan 42 = .ok (.getfield 24, 3) := by decide +kernel
theorem dX4_scan_45 : decode cX4_scan 45 = .ok (.ireturn, 1) := by decide +kernel
theorem dX4_isWhole_0 : decode cX4_isWhole 0 = .ok (.aload_n 0, 1) := by decide +kernel
theorem dX4_isWhole_1 : decode cX4_isWhole 1 = .ok (.invokevirtual 38, 3) := by decide +kernel
theorem dX4_isWhole_4 : decode cX4_isWhole 4 = .ok (.aload_n 0, 1) := by decide +kernel
theorem dX4_isWhole_5 : decode cX4_isWhole 5 = .ok (.getfield 24, 3) := by decide +kernel
theorem dX4_isWhole_8 : decode cX4_isWhole 8 = .ok (.if_icmp .ne 23, 3) := by decide +kernel
theorem dX4_isWhole_11 : decode cX4_isWhole 11 = .ok (.aload_n 0, 1) := by decide +kernel
theorem dX4_isWhole_12 : decode cX4_isWhole 12 = .ok (.getfield 31, 3) := by decide +kernel
theorem dX4_isWhole_15 : decode cX4_isWhole 15 = .ok (.iconst 3, 1) := by decide +kernel
theorem dX4_isWhole_16 : decode cX4_isWhole 16 = .ok (.if_icmp .eq 11, 3) := by decide +kernel
theorem dX4_isWhole_19 : decode cX4_isWhole 19 = .ok (.aload_n 0, 1) := by decide +kernel
theorem dX4_isWhole_20 : decode cX4_isWhole 20 = .ok (.getfield 31, 3) := by decide +kernel
theorem dX4_isWhole_23 : decode cX4_isWhole 23 = .ok (.iconst 4, 1) := by decide +kernel
theorem dX4_isWhole_24 : decode cX4_isWhole 24 = .ok (.if_icmp .ne 7, 3) := by decide +kernel
theorem dX4_isWhole_27 : decode cX4_isWhole 27 = .ok (.iconst 1, 1) := by decide +kernel
theorem dX4_isWhole_28 : decode cX4_isWhole 28 = .ok (.goto 4, 3) := by decide +kernel
theorem dX4_isWhole_31 : decode cX4_isWhole 31 = .ok (.iconst 0, 1) := by decide +kernel
theorem dX4_isWhole_32 : decode cX4_isWhole 32 = .ok (.ireturn, 1) := by decide +kernel
theorem dX4_howManyRoads_0 : decode cX4_howManyRoads 0 = .ok (.aload_n 0, 1) := by decide +kernel
theorem dX4_howManyRoads_1 : decode cX4_howManyRoads 1 = .ok (.getfield 28, 3) := by decide +kernel
theorem dX4_howManyRoads_4 : decode cX4_howManyRoads 4 = .ok (.iconst 1, 1) := by decide +kernel
theorem dX4_howManyRoads_5 : decode cX4_howManyRoads 5 = .ok (.iadd, 1) := by decide +kernel
theorem dX4_howManyRoads_6 : decode cX4_howManyRoads 6 = .ok (.ireturn, 1) := by decide +kernel
theorem dX4_takes_0 : decode cX4_takes 0 = .ok (.aload_n 0, 1) := by decide +kernel
theorem dX4_takes_1 : decode cX4_takes 1 = .ok (.getfield 31, 3) := by decide +kernel
theorem dX4_takes_4 : decode cX4_takes 4 = .ok (.tableswitch 72 0 3 #[32, 38, 44, 50], 32) := by decide +kernel
theorem dX4_takes_36 : decode cX4_takes 36 = .ok (.aload_n 0, 1) := by decide +kernel
theorem dX4_takes_37 : decode cX4_takes 37 = .ok (.iload_n 1, 1) := by decide +kernel
theorem dX4_takes_38 : decode cX4_takes 38 = .ok (.invokevirtual 42, 3) := by decide +kernel
theorem dX4_takes_41 : decode cX4_takes 41 = .ok (.ireturn, 1) := by decide +kernel
theorem dX4_takes_42 : decode cX4_takes 42 = .ok (.aload_n 0, 1) := by decide +kernel
theorem dX4_takes_43 : decode cX4_takes 43 = .ok (.iload_n 1, 1) := by decide +kernel
theorem dX4_takes_44 : decode cX4_takes 44 = .ok (.invokevirtual 45, 3) := by decide +kernel
theorem dX4_takes_47 : decode cX4_takes 47 = .ok (.ireturn, 1) := by decide +kernel
theorem dX4_takes_48 : decode cX4_takes 48 = .ok (.aload_n 0, 1) := by decide +kernel
theorem dX4_takes_49 : decode cX4_takes 49 = .ok (.iload_n 1, 1) := by decide +kernel
theorem dX4_takes_50 : decode cX4_takes 50 = .ok (.invokevirtual 48, 3) := by decide +kernel
theorem dX4_takes_53 : decode cX4_takes 53 = .ok (.ireturn, 1) := by decide +kernel
theorem dX4_takes_54 : decode cX4_takes 54 = .ok (.aload_n 0, 1) := by decide +kernel
theorem dX4_takes_55 : decode cX4_takes 55 = .ok (.iload_n 1, 1) := by decide +kernel
theorem dX4_takes_56 : decode cX4_takes 56 = .ok (.invokevirtual 51, 3) := by decide +kernel
theorem dX4_takes_59 : decode cX4_takes 59 = .ok (.ifCond .ne 11, 3) := by decide +kernel
theorem dX4_takes_62 : decode cX4_takes 62 = .ok (.aload_n 0, 1) := by decide +kernel
theorem dX4_takes_63 : decode cX4_takes 63 = .ok (.iload_n 1, 1) := by decide +kernel
theorem dX4_takes_64 : decode cX4_takes 64 = .ok (.invokevirtual 54, 3) := by decide +kernel
theorem dX4_takes_67 : decode cX4_takes 67 = .ok (.ifCond .eq 7, 3) := by decide +kernel
theorem dX4_takes_70 : decode cX4_takes 70 = .ok (.iconst 1, 1) := by decide +kernel
theorem dX4_takes_71 : decode cX4_takes 71 = .ok (.goto 4, 3) := by decide +kernel
theorem dX4_takes_74 : decode cX4_takes 74 = .ok (.iconst 0, 1) := by decide +kernel
theorem dX4_takes_75 : decode cX4_takes 75 = .ok (.ireturn, 1) := by decide +kernel
theorem dX4_takes_76 : decode cX4_takes 76 = .ok (.aload_n 0, 1) := by decide +kernel
theorem dX4_takes_77 : decode cX4_takes 77 = .ok (.iload_n 1, 1) := by decide +kernel
theorem dX4_takes_78 : decode cX4_takes 78 = .ok (.invokevirtual 54, 3) := by decide +kernel
theorem dX4_takes_81 : decode cX4_takes 81 = .ok (.ireturn, 1) := by decide +kernel
theorem dX4_takesBegin_0 : decode cX4_takesBegin 0 = .ok (.iload_n 1, 1) := by decide +kernel
theorem dX4_takesBegin_1 : decode cX4_takesBegin 1 = .ok (.bipush 97, 2) := by decide +kernel
theorem dX4_takesBegin_3 : decode cX4_takesBegin 3 = .ok (.isub, 1) := by decide +kernel
theorem dX4_takesBegin_4 : decode cX4_takesBegin 4 = .ok (.istore_n 2, 1) := by decide +kernel
theorem dX4_takesBegin_5 : decode cX4_takesBegin 5 = .ok (.iload_n 2, 1) := by decide +kernel
theorem dX4_takesBegin_6 : decode cX4_takesBegin 6 = .ok (.invokestatic 57, 3) := by decide +kernel
theorem dX4_takesBegin_9 : decode cX4_takesBegin 9 = .ok (.ifCond .ne 5, 3) := by decide +kernel
theorem dX4_takesBegin_12 : decode cX4_takesBegin 12 = .ok (.iconst 0, 1) := by decide +kernel
theorem dX4_takesBegin_13 : decode cX4_takesBegin 13 = .ok (.ireturn, 1) := by decide +kernel
theorem dX4_takesBegin_14 : decode cX4_takesBegin 14 = .ok (.aload_n 0, 1) := by decide +kernel
theorem dX4_takesBegin_15 : decode cX4_takesBegin 15 = .ok (.getfield 15, 3) := by decide +kernel
theorem dX4_takesBegin_18 : decode cX4_takesBegin 18 = .ok (.aload_n 0, 1) := by decide +kernel
theorem dX4_takesBegin_19 : decode cX4_takesBegin 19 = .ok (.getfield 28, 3) := by decide +kernel
theorem dX4_takesBegin_22 : decode cX4_takesBegin 22 = .ok (.iload_n 2, 1) := by decide +kernel
theorem dX4_takesBegin_23 : decode cX4_takesBegin 23 = .ok (.iastore, 1) := by decide +kernel
theorem dX4_takesBegin_24 : decode cX4_takesBegin 24 = .ok (.aload_n 0, 1) := by decide +kernel
theorem dX4_takesBegin_25 : decode cX4_takesBegin 25 = .ok (.iconst 1, 1) := by decide +kernel
theorem dX4_takesBegin_26 : decode cX4_takesBegin 26 = .ok (.putfield 31, 3) := by decide +kernel
theorem dX4_takesBegin_29 : decode cX4_takesBegin 29 = .ok (.iconst 1, 1) := by decide +kernel
theorem dX4_takesBegin_30 : decode cX4_takesBegin 30 = .ok (.ireturn, 1) := by decide +kernel
theorem dX4_takesEnd_0 : decode cX4_takesEnd 0 = .ok (.iload_n 1, 1) := by decide +kernel
theorem dX4_takesEnd_1 : decode cX4_takesEnd 1 = .ok (.bipush 97, 2) := by decide +kernel
theorem dX4_takesEnd_3 : decode cX4_takesEnd 3 = .ok (.isub, 1) := by decide +kernel
theorem dX4_takesEnd_4 : decode cX4_takesEnd 4 = .ok (.istore_n 2, 1) := by decide +kernel
theorem dX4_takesEnd_5 : decode cX4_takesEnd 5 = .ok (.iload_n 2, 1) := by decide +kernel
theorem dX4_takesEnd_6 : decode cX4_takesEnd 6 = .ok (.invokestatic 57, 3) := by decide +kernel
theorem dX4_takesEnd_9 : decode cX4_takesEnd 9 = .ok (.ifCond .eq 16, 3) := by decide +kernel
theorem dX4_takesEnd_12 : decode cX4_takesEnd 12 = .ok (.iload_n 2, 1) := by decide +kernel
theorem dX4_takesEnd_13 : decode cX4_takesEnd 13 = .ok (.aload_n 0, 1) := by decide +kernel
theorem dX4_takesEnd_14 : decode cX4_takesEnd 14 = .ok (.getfield 15, 3) := by decide +kernel
theorem dX4_takesEnd_17 : decode cX4_takesEnd 17 = .ok (.aload_n 0, 1) := by decide +kernel
theorem dX4_takesEnd_18 : decode cX4_takesEnd 18 = .ok (.getfield 28, 3) := by decide +kernel
theorem dX4_takesEnd_21 : decode cX4_takesEnd 21 = .ok (.iaload, 1) := by decide +kernel
theorem dX4_takesEnd_22 : decode cX4_takesEnd 22 = .ok (.if_icmp .ne 5, 3) := by decide +kernel
theorem dX4_takesEnd_25 : decode cX4_takesEnd 25 = .ok (.iconst 0, 1) := by decide +kernel
theorem dX4_takesEnd_26 : decode cX4_takesEnd 26 = .ok (.ireturn, 1) := by decide +kernel
theorem dX4_takesEnd_27 : decode cX4_takesEnd 27 = .ok (.aload_n 0, 1) := by decide +kernel
theorem dX4_takesEnd_28 : decode cX4_takesEnd 28 = .ok (.getfield 18, 3) := by decide +kernel
theorem dX4_takesEnd_31 : decode cX4_takesEnd 31 = .ok (.aload_n 0, 1) := by decide +kernel
theorem dX4_takesEnd_32 : decode cX4_takesEnd 32 = .ok (.getfield 28, 3) := by decide +kernel
theorem dX4_takesEnd_35 : decode cX4_takesEnd 35 = .ok (.iload_n 2, 1) := by decide +kernel
theorem dX4_takesEnd_36 : decode cX4_takesEnd 36 = .ok (.iastore, 1) := by decide +kernel
theorem dX4_takesEnd_37 : decode cX4_takesEnd 37 = .ok (.aload_n 0, 1) := by decide +kernel
theorem dX4_takesEnd_38 : decode cX4_takesEnd 38 = .ok (.iconst 2, 1) := by decide +kernel
theorem dX4_takesEnd_39 : decode cX4_takesEnd 39 = .ok (.putfield 31, 3) := by decide +kernel
theorem dX4_takesEnd_42 : decode cX4_takesEnd 42 = .ok (.iconst 1, 1) := by decide +kernel
theorem dX4_takesEnd_43 : decode cX4_takesEnd 43 = .ok (.ireturn, 1) := by decide +kernel
theorem dX4_takesFirstFigure_0 : decode cX4_takesFirstFigure 0 = .ok (.iload_n 1, 1) := by decide +kernel
theorem dX4_takesFirstFigure_1 : decode cX4_takesFirstFigure 1 = .ok (.bipush 49, 2) := by decide +kernel
theorem dX4_takesFirstFigure_3 : decode cX4_takesFirstFigure 3 = .ok (.if_icmp .lt 9, 3) := by decide +kernel
theorem dX4_takesFirstFigure_6 : decode cX4_takesFirstFigure 6 = .ok (.iload_n 1, 1) := by decide +kernel
theorem dX4_takesFirstFigure_7 : decode cX4_takesFirstFigure 7 = .ok (.bipush 57, 2) := by decide +kernel
theorem dX4_takesFirstFigure_9 : decode cX4_takesFirstFigure 9 = .ok (.if_icmp .le 5, 3) := by decide +kernel
theorem dX4_takesFirstFigure_12 : decode cX4_takesFirstFigure 12 = .ok (.iconst 0, 1) := by decide +kernel
theorem dX4_takesFirstFigure_13 : decode cX4_takesFirstFigure 13 = .ok (.ireturn, 1) := by decide +kernel
theorem dX4_takesFirstFigure_14 : decode cX4_takesFirstFigure 14 = .ok (.aload_n 0, 1) := by decide +kernel
theorem dX4_takesFirstFigure_15 : decode cX4_takesFirstFigure 15 = .ok (.getfield 21, 3) := by decide +kernel
theorem dX4_takesFirstFigure_18 : decode cX4_takesFirstFigure 18 = .ok (.aload_n 0, 1) := by decide +kernel
theorem dX4_takesFirstFigure_19 : decode cX4_takesFirstFigure 19 = .ok (.getfield 28, 3) := by decide +kernel
theorem dX4_takesFirstFigure_22 : decode cX4_takesFirstFigure 22 = .ok (.iload_n 1, 1) := by decide +kernel
theorem dX4_takesFirstFigure_23 : decode cX4_takesFirstFigure 23 = .ok (.bipush 48, 2) := by decide +kernel
theorem dX4_takesFirstFigure_25 : decode cX4_takesFirstFigure 25 = .ok (.isub, 1) := by decide +kernel
theorem dX4_takesFirstFigure_26 : decode cX4_takesFirstFigure 26 = .ok (.iastore, 1) := by decide +kernel
theorem dX4_takesFirstFigure_27 : decode cX4_takesFirstFigure 27 = .ok (.aload_n 0, 1) := by decide +kernel
theorem dX4_takesFirstFigure_28 : decode cX4_takesFirstFigure 28 = .ok (.iconst 3, 1) := by decide +kernel
theorem dX4_takesFirstFigure_29 : decode cX4_takesFirstFigure 29 = .ok (.putfield 31, 3) := by decide +kernel
theorem dX4_takesFirstFigure_32 : decode cX4_takesFirstFigure 32 = .ok (.iconst 1, 1) := by decide +kernel
theorem dX4_takesFirstFigure_33 : decode cX4_takesFirstFigure 33 = .ok (.ireturn, 1) := by decide +kernel
theorem dX4_takesSecondFigure_0 : decode cX4_takesSecondFigure 0 = .ok (.iload_n 1, 1) := by decide +kernel
theorem dX4_takesSecondFigure_1 : decode cX4_takesSecondFigure 1 = .ok (.bipush 48, 2) := by decide +kernel
theorem dX4_takesSecondFigure_3 : decode cX4_takesSecondFigure 3 = .ok (.if_icmp .lt 9, 3) := by decide +kernel
theorem dX4_takesSecondFigure_6 : decode cX4_takesSecondFigure 6 = .ok (.iload_n 1, 1) := by decide +kernel
theorem dX4_takesSecondFigure_7 : decode cX4_takesSecondFigure 7 = .ok (.bipush 57, 2) := by decide +kernel
theorem dX4_takesSecondFigure_9 : decode cX4_takesSecondFigure 9 = .ok (.if_icmp .le 5, 3) := by decide +kernel
theorem dX4_takesSecondFigure_12 : decode cX4_takesSecondFigure 12 = .ok (.iconst 0, 1) := by decide +kernel
theorem dX4_takesSecondFigure_13 : decode cX4_takesSecondFigure 13 = .ok (.ireturn, 1) := by decide +kernel
theorem dX4_takesSecondFigure_14 : decode cX4_takesSecondFigure 14 = .ok (.aload_n 0, 1) := by decide +kernel
theorem dX4_takesSecondFigure_15 : decode cX4_takesSecondFigure 15 = .ok (.getfield 21, 3) := by decide +kernel
theorem dX4_takesSecondFigure_18 : decode cX4_takesSecondFigure 18 = .ok (.aload_n 0, 1) := by decide +kernel
theorem dX4_takesSecondFigure_19 : decode cX4_takesSecondFigure 19 = .ok (.getfield 28, 3) := by decide +kernel
theorem dX4_takesSecondFigure_22 : decode cX4_takesSecondFigure 22 = .ok (.aload_n 0, 1) := by decide +kernel
theorem dX4_takesSecondFigure_23 : decode cX4_takesSecondFigure 23 = .ok (.getfield 21, 3) := by decide +kernel
theorem dX4_takesSecondFigure_26 : decode cX4_takesSecondFigure 26 = .ok (.aload_n 0, 1) := by decide +kernel
theorem dX4_takesSecondFigure_27 : decode cX4_takesSecondFigure 27 = .ok (.getfield 28, 3) := by decide +kernel
theorem dX4_takesSecondFigure_30 : decode cX4_takesSecondFigure 30 = .ok (.iaload, 1) := by decide +kernel
theorem dX4_takesSecondFigure_31 : decode cX4_takesSecondFigure 31 = .ok (.bipush 10, 2) := by decide +kernel
theorem dX4_takesSecondFigure_33 : decode cX4_takesSecondFigure 33 = .ok (.imul, 1) := by decide +kernel
theorem dX4_takesSecondFigure_34 : decode cX4_takesSecondFigure 34 = .ok (.iload_n 1, 1) := by decide +kernel
theorem dX4_takesSecondFigure_35 : decode cX4_takesSecondFigure 35 = .ok (.iadd, 1) := by decide +kernel
theorem dX4_takesSecondFigure_36 : decode cX4_takesSecondFigure 36 = .ok (.bipush 48, 2) := by decide +kernel
theorem dX4_takesSecondFigure_38 : decode cX4_takesSecondFigure 38 = .ok (.isub, 1) := by decide +kernel
theorem dX4_takesSecondFigure_39 : decode cX4_takesSecondFigure 39 = .ok (.iastore, 1) := by decide +kernel
theorem dX4_takesSecondFigure_40 : decode cX4_takesSecondFigure 40 = .ok (.aload_n 0, 1) := by decide +kernel
theorem dX4_takesSecondFigure_41 : decode cX4_takesSecondFigure 41 = .ok (.iconst 4, 1) := by decide +kernel
theorem dX4_takesSecondFigure_42 : decode cX4_takesSecondFigure 42 = .ok (.putfield 31, 3) := by decide +kernel
theorem dX4_takesSecondFigure_45 : decode cX4_takesSecondFigure 45 = .ok (.iconst 1, 1) := by decide +kernel
theorem dX4_takesSecondFigure_46 : decode cX4_takesSecondFigure 46 = .ok (.ireturn, 1) := by decide +kernel
theorem dX4_takesComma_0 : decode cX4_takesComma 0 = .ok (.iload_n 1, 1) := by decide +kernel
theorem dX4_takesComma_1 : decode cX4_takesComma 1 = .ok (.bipush 44, 2) := by decide +kernel
theorem dX4_takesComma_3 : decode cX4_takesComma 3 = .ok (.if_icmp .ne 14, 3) := by decide +kernel
theorem dX4_takesComma_6 : decode cX4_takesComma 6 = .ok (.aload_n 0, 1) := by decide +kernel
theorem dX4_takesComma_7 : decode cX4_takesComma 7 = .ok (.getfield 28, 3) := by decide +kernel
theorem dX4_takesComma_10 : decode cX4_takesComma 10 = .ok (.iconst 1, 1) := by decide +kernel
theorem dX4_takesComma_11 : decode cX4_takesComma 11 = .ok (.iadd, 1) := by decide +kernel
theorem dX4_takesComma_12 : decode cX4_takesComma 12 = .ok (.bipush 12, 2) := by decide +kernel
theorem dX4_takesComma_14 : decode cX4_takesComma 14 = .ok (.if_icmp .lt 5, 3) := by decide +kernel
theorem dX4_takesComma_17 : decode cX4_takesComma 17 = .ok (.iconst 0, 1) := by decide +kernel
theorem dX4_takesComma_18 : decode cX4_takesComma 18 = .ok (.ireturn, 1) := by decide +kernel
theorem dX4_takesComma_19 : decode cX4_takesComma 19 = .ok (.aload_n 0, 1) := by decide +kernel
theorem dX4_takesComma_20 : decode cX4_takesComma 20 = .ok (.dup, 1) := by decide +kernel
theorem dX4_takesComma_21 : decode cX4_takesComma 21 = .ok (.getfield 28, 3) := by decide +kernel
theorem dX4_takesComma_24 : decode cX4_takesComma 24 = .ok (.iconst 1, 1) := by decide +kernel
theorem dX4_takesComma_25 : decode cX4_takesComma 25 = .ok (.iadd, 1) := by decide +kernel
theorem dX4_takesComma_26 : decode cX4_takesComma 26 = .ok (.putfield 28, 3) := by decide +kernel
theorem dX4_takesComma_29 : decode cX4_takesComma 29 = .ok (.aload_n 0, 1) := by decide +kernel
theorem dX4_takesComma_30 : decode cX4_takesComma 30 = .ok (.iconst 0, 1) := by decide +kernel
theorem dX4_takesComma_31 : decode cX4_takesComma 31 = .ok (.putfield 31, 3) := by decide +kernel
theorem dX4_takesComma_34 : decode cX4_takesComma 34 = .ok (.iconst 1, 1) := by decide +kernel
theorem dX4_takesComma_35 : decode cX4_takesComma 35 = .ok (.ireturn, 1) := by decide +kernel
theorem dX5_init_0 : decode cX5_init 0 = .ok (.aload_n 0, 1) := by decide +kernel
theorem dX5_init_1 : decode cX5_init 1 = .ok (.invokespecial 3, 3) := by decide +kernel
theorem dX5_init_4 : decode cX5_init 4 = .ok (.aload_n 0, 1) := by decide +kernel
theorem dX5_init_5 : decode cX5_init 5 = .ok (.bipush 64, 2) := by decide +kernel
theorem dX5_init_7 : decode cX5_init 7 = .ok (.newarray .int, 2) := by decide +kernel
theorem dX5_init_9 : decode cX5_init 9 = .ok (.putfield 9, 3) := by decide +kernel
theorem dX5_init_12 : decode cX5_init 12 = .ok (.aload_n 0, 1) := by decide +kernel
theorem dX5_init_13 : decode cX5_init 13 = .ok (.bipush 64, 2) := by decide +kernel
theorem dX5_init_15 : decode cX5_init 15 = .ok (.newarray .int, 2) := by decide +kernel
theorem dX5_init_17 : decode cX5_init 17 = .ok (.putfield 15, 3) := by decide +kernel
theorem dX5_init_20 : decode cX5_init 20 = .ok (.aload_n 0, 1) := by decide +kernel
theorem dX5_init_21 : decode cX5_init 21 = .ok (.new 18, 3) := by decide +kernel
theorem dX5_init_24 : decode cX5_init 24 = .ok (.dup, 1) := by decide +kernel
theorem dX5_init_25 : decode cX5_init 25 = .ok (.invokespecial 20, 3) := by decide +kernel
theorem dX5_init_28 : decode cX5_init 28 = .ok (.putfield 21, 3) := by decide +kernel
theorem dX5_init_31 : decode cX5_init 31 = .ok (.aload_n 0, 1) := by decide +kernel
theorem dX5_init_32 : decode cX5_init 32 = .ok (.getfield 9, 3) := by decide +kernel
theorem dX5_init_35 : decode cX5_init 35 = .ok (.ldc 25, 2) := by decide +kernel
theorem dX5_init_37 : decode cX5_init 37 = .ok (.invokestatic 26, 3) := by decide +kernel
theorem dX5_init_40 : decode cX5_init 40 = .ok (.return_, 1) := by decide +kernel
theorem dX5_measure_0 : decode cX5_measure 0 = .ok (.aload_n 0, 1) := by decide +kernel
theorem dX5_measure_1 : decode cX5_measure 1 = .ok (.getfield 9, 3) := by decide +kernel
theorem dX5_measure_4 : decode cX5_measure 4 = .ok (.aload_n 1, 1) := by decide +kernel
theorem dX5_measure_5 : decode cX5_measure 5 = .ok (.aload_n 2, 1) := by decide +kernel
theorem dX5_measure_6 : decode cX5_measure 6 = .ok (.iconst (-1), 1) := by decide +kernel
theorem dX5_measure_7 : decode cX5_measure 7 = .ok (.invokestatic 32, 3) := by decide +kernel
theorem dX5_measure_10 : decode cX5_measure 10 = .ok (.return_, 1) := by decide +kernel
theorem dX5_fillWith_0 : decode cX5_fillWith 0 = .ok (.aload_n 0, 1) := by decide +kernel
theorem dX5_fillWith_1 : decode cX5_fillWith 1 = .ok (.ldc 25, 2) := by decide +kernel
theorem dX5_fillWith_3 : decode cX5_fillWith 3 = .ok (.invokestatic 26, 3) := by decide +kernel
theorem dX5_fillWith_6 : decode cX5_fillWith 6 = .ok (.iconst 0, 1) := by decide +kernel
theorem dX5_fillWith_7 : decode cX5_fillWith 7 = .ok (.istore 4, 2) := by decide +kernel
theorem dX5_fillWith_9 : decode cX5_fillWith 9 = .ok (.iload 4, 2) := by decide +kernel
theorem dX5_fillWith_11 : decode cX5_fillWith 11 = .ok (.aload_n 1, 1) := by decide +kernel
theorem dX5_fillWith_12 : decode cX5_fillWith 12 = .ok (.getfield 36, 3) := by decide +kernel
theorem dX5_fillWith_15 : decode cX5_fillWith 15 = .ok (.if_icmp .ge 117, 3) := by decide +kernel
theorem dX5_fillWith_18 : decode cX5_fillWith 18 = .ok (.iconst 0, 1) := by decide +kernel
theorem dX5_fillWith_19 : decode cX5_fillWith 19 = .ok (.istore 5, 2) := by decide +kernel
theorem dX5_fillWith_21 : decode cX5_fillWith 21 = .ok (.iload 5, 2) := by decide +kernel
theorem dX5_fillWith_23 : decode cX5_fillWith 23 = .ok (.aload_n 1, 1) := by decide +kernel
theorem dX5_fillWith_24 : decode cX5_fillWith 24 = .ok (.getfield 36, 3) := by decide +kernel
theorem dX5_fillWith_27 : decode cX5_fillWith 27 = .ok (.if_icmp .ge 99, 3) := by decide +kernel
theorem dX5_fillWith_30 : decode cX5_fillWith 30 = .ok (.aload_n 2, 1) := by decide +kernel
theorem dX5_fillWith_31 : decode cX5_fillWith 31 = .ok (.iload 4, 2) := by decide +kernel
theorem dX5_fillWith_33 : decode cX5_fillWith 33 = .ok (.iload 5, 2) := by decide +kernel
theorem dX5_fillWith_35 : decode cX5_fillWith 35 = .ok (.invokevirtual 42, 3) := by decide +kernel
theorem dX5_fillWith_38 : decode cX5_fillWith 38 = .ok (.istore 6, 2) := by decide +kernel
theorem dX5_fillWith_40 : decode cX5_fillWith 40 = .ok (.aload_n 1, 1) := by decide +kernel
theorem dX5_fillWith_41 : decode cX5_fillWith 41 = .ok (.getfield 46, 3) := by decide +kernel
theorem dX5_fillWith_44 : decode cX5_fillWith 44 = .ok (.iload 4, 2) := by decide +kernel
theorem dX5_fillWith_46 : decode cX5_fillWith 46 = .ok (.iaload, 1) := by decide +kernel
theorem dX5_fillWith_47 : decode cX5_fillWith 47 = .ok (.bipush 8, 2) := by decide +kernel
theorem dX5_fillWith_49 : decode cX5_fillWith 49 = .ok (.imul, 1) := by decide +kernel
theorem dX5_fillWith_50 : decode cX5_fillWith 50 = .ok (.aload_n 1, 1) := by decide +kernel
theorem dX5_fillWith_51 : decode cX5_fillWith 51 = .ok (.getfield 49, 3) := by decide +kernel
theorem dX5_fillWith_54 : decode cX5_fillWith 54 = .ok (.iload 5, 2) := by decide +kernel
theorem dX5_fillWith_56 : decode cX5_fillWith 56 = .ok (.iaload, 1) := by decide +kernel
theorem dX5_fillWith_57 : decode cX5_fillWith 57 = .ok (.iadd, 1) := by decide +kernel
theorem dX5_fillWith_58 : decode cX5_fillWith 58 = .ok (.istore 7, 2) := by decide +kernel
theorem dX5_fillWith_60 : decode cX5_fillWith 60 = .ok (.iload 6, 2) := by decide +kernel
theorem dX5_fillWith_62 : decode cX5_fillWith 62 = .ok (.ldc 25, 2) := by decide +kernel
theorem dX5_fillWith_64 : decode cX5_fillWith 64 = .ok (.if_icmp .ge 56, 3) := by decide +kernel
theorem dX5_fillWith_67 : decode cX5_fillWith 67 = .ok (.iload 4, 2) := by decide +kernel
theorem dX5_fillWith_69 : decode cX5_fillWith 69 = .ok (.iload_n 3, 1) := by decide +kernel
theorem dX5_fillWith_70 : decode cX5_fillWith 70 = .ok (.if_icmp .eq 50, 3) := by decide +kernel
theorem dX5_fillWith_73 : decode cX5_fillWith 73 = .ok (.iload 5, 2) := by decide +kernel
theorem dX5_fillWith_75 : decode cX5_fillWith 75 = .ok (.iload_n 3, 1) := by decide +kernel
theorem dX5_fillWith_76 : decode cX5_fillWith 76 = .ok (.if_icmp .eq 44, 3) := by decide +kernel
theorem dX5_fillWith_79 : decode cX5_fillWith 79 = .ok (.aload_n 1, 1) := by decide +kernel
theorem dX5_fillWith_80 : decode cX5_fillWith 80 = .ok (.getfield 46, 3) := by decide +kernel
theorem dX5_fillWith_83 : decode cX5_fillWith 83 = .ok (.iload 4, 2) := by decide +kernel
theorem dX5_fillWith_85 : decode cX5_fillWith 85 = .ok (.iaload, 1) := by decide +kernel
theorem dX5_fillWith_86 : decode cX5_fillWith 86 = .ok (.aload_n 1, 1) := by decide +kernel
theorem dX5_fillWith_87 : decode cX5_fillWith 87 = .ok (.getfield 49, 3) := by decide +kernel
theorem dX5_fillWith_90 : decode cX5_fillWith 90 = .ok (.iload 5, 2) := by decide +kernel
theorem dX5_fillWith_92 : decode cX5_fillWith 92 = .ok (.iaload, 1) := by decide +kernel
theorem dX5_fillWith_93 : decode cX5_fillWith 93 = .ok (.if_icmp .eq 27, 3) := by decide +kernel
theorem dX5_fillWith_96 : decode cX5_fillWith 96 = .ok (.aload_n 0, 1) := by decide +kernel
theorem dX5_fillWith_97 : decode cX5_fillWith 97 = .ok (.iload 7, 2) := by decide +kernel
theorem dX5_fillWith_99 : decode cX5_fillWith 99 = .ok (.aload_n 0, 1) := by decide +kernel
theorem dX5_fillWith_100 : decode cX5_fillWith 100 = .ok (.iload 7, 2) := by decide +kernel
theorem dX5_fillWith_102 : decode cX5_fillWith 102 = .ok (.iaload, 1) := by decide +kernel
theorem dX5_fillWith_103 : decode cX5_fillWith 103 = .ok (.aload_n 1, 1) := by decide +kernel
theorem dX5_fillWith_104 : decode cX5_fillWith 104 = .ok (.getfield 52, 3) := by decide +kernel
theorem dX5_fillWith_107 : decode cX5_fillWith 107 = .ok (.iload 4, 2) := by decide +kernel
theorem dX5_fillWith_109 : decode cX5_fillWith 109 = .ok (.iaload, 1) := by decide +kernel
theorem dX5_fillWith_110 : decode cX5_fillWith 110 = .ok (.iload 6, 2) := by decide +kernel
theorem dX5_fillWith_112 : decode cX5_fillWith 112 = .ok (.bipush 64, 2) := by decide +kernel
theorem dX5_fillWith_114 : decode cX5_fillWith 114 = .ok (.idiv, 1) := by decide +kernel
theorem dX5_fillWith_115 : decode cX5_fillWith 115 = .ok (.iadd, 1) := by decide +kernel
theorem dX5_fillWith_116 : decode cX5_fillWith 116 = .ok (.invokestatic 55, 3) := by decide +kernel
theorem dX5_fillWith_119 : decode cX5_fillWith 119 = .ok (.iastore, 1) := by decide +kernel
theorem dX5_fillWith_120 : decode cX5_fillWith 120 = .ok (.iinc 5 1, 3) := by decide +kernel
theorem dX5_fillWith_123 : decode cX5_fillWith 123 = .ok (.goto (-102), 3) := by decide +kernel
theorem dX5_fillWith_126 : decode cX5_fillWith 126 = .ok (.iinc 4 1, 3) := by decide +kernel
theorem dX5_fillWith_129 : decode cX5_fillWith 129 = .ok (.goto (-120), 3) := by decide +kernel
theorem dX5_fillWith_132 : decode cX5_fillWith 132 = .ok (.return_, 1) := by decide +kernel
theorem dX5_lossWithout_0 : decode cX5_lossWithout 0 = .ok (.aload_n 1, 1) := by decide +kernel
theorem dX5_lossWithout_1 : decode cX5_lossWithout 1 = .ok (.aload_n 0, 1) := by decide +kernel
theorem dX5_lossWithout_2 : decode cX5_lossWithout 2 = .ok (.getfield 21, 3) := by decide +kernel
theorem dX5_lossWithout_5 : decode cX5_lossWithout 5 = .ok (.iload_n 2, 1) := by decide +kernel
theorem dX5_lossWithout_6 : decode cX5_lossWithout 6 = .ok (.invokevirtual 60, 3) := by decide +kernel
theorem dX5_lossWithout_9 : decode cX5_lossWithout 9 = .ok (.aload_n 0, 1) := by decide +kernel
theorem dX5_lossWithout_10 : decode cX5_lossWithout 10 = .ok (.getfield 15, 3) := by decide +kernel
theorem dX5_lossWithout_13 : decode cX5_lossWithout 13 = .ok (.aload_n 1, 1) := by decide +kernel
theorem dX5_lossWithout_14 : decode cX5_lossWithout 14 = .ok (.aload_n 0, 1) := by decide +kernel
theorem dX5_lossWithout_15 : decode cX5_lossWithout 15 = .ok (.getfield 21, 3) := by decide +kernel
theorem dX5_lossWithout_18 : decode cX5_lossWithout 18 = .ok (.iload_n 2, 1) := by decide +kernel
theorem dX5_lossWithout_19 : decode cX5_lossWithout 19 = .ok (.invokestatic 32, 3) := by decide +kernel
theorem dX5_lossWithout_22 : decode cX5_lossWithout 22 = .ok (.iconst 0, 1) := by decide +kernel
theorem dX5_lossWithout_23 : decode cX5_lossWithout 23 = .ok (.istore 4, 2) := by decide +kernel
theorem dX5_lossWithout_25 : decode cX5_lossWithout 25 = .ok (.iconst 0, 1) := by decide +kernel
theorem dX5_lossWithout_26 : decode cX5_lossWithout 26 = .ok (.istore 5, 2) := by decide +kernel
theorem dX5_lossWithout_28 : decode cX5_lossWithout 28 = .ok (.iload 5, 2) := by decide +kernel
theorem dX5_lossWithout_30 : decode cX5_lossWithout 30 = .ok (.bipush 64, 2) := by decide +kernel
theorem dX5_lossWithout_32 : decode cX5_lossWithout 32 = .ok (.if_icmp .ge 57, 3) := by decide +kernel
theorem dX5_lossWithout_35 : decode cX5_lossWithout 35 = .ok (.aload_n 0, 1) := by decide +kernel
theorem dX5_lossWithout_36 : decode cX5_lossWithout 36 = .ok (.getfield 9, 3) := by decide +kernel
theorem dX5_lossWithout_39 : decode cX5_lossWithout 39 = .ok (.iload 5, 2) := by decide +kernel
theorem dX5_lossWithout_41 : decode cX5_lossWithout 41 = .ok (.iaload, 1) := by decide +kernel
theorem dX5_lossWithout_42 : decode cX5_lossWithout 42 = .ok (.ldc 25, 2) := by decide +kernel
theorem dX5_lossWithout_44 : decode cX5_lossWithout 44 = .ok (.if_icmp .ge 39, 3) := by decide +kernel
theorem dX5_lossWithout_47 : decode cX5_lossWithout 47 = .ok (.iload 4, 2) := by decide +kernel
theorem dX5_lossWithout_49 : decode cX5_lossWithout 49 = .ok (.aload_n 0, 1) := by decide +kernel
theorem dX5_lossWithout_50 : decode cX5_lossWithout 50 = .ok (.getfield 15, 3) := by decide +kernel
theorem dX5_lossWithout_53 : decode cX5_lossWithout 53 = .ok (.iload 5, 2) := by decide +kernel
theorem dX5_lossWithout_55 : decode cX5_lossWithout 55 = .ok (.iaload, 1) := by decide +kernel
theorem dX5_lossWithout_56 : decode cX5_lossWithout 56 = .ok (.ldc 25, 2) := by decide +kernel
theorem dX5_lossWithout_58 : decode cX5_lossWithout 58 = .ok (.if_icmp .ge 21, 3) := by decide +kernel
theorem dX5_lossWithout_61 : decode cX5_lossWithout 61 = .ok (.aload_n 0, 1) := by decide +kernel
theorem dX5_lossWithout_62 : decode cX5_lossWithout 62 = .ok (.getfield 15, 3) := by decide +kernel
theorem dX5_lossWithout_65 : decode cX5_lossWithout 65 = .ok (.iload 5, 2) := by decide +kernel
theorem dX5_lossWithout_67 : decode cX5_lossWithout 67 = .ok (.iaload, 1) := by decide +kernel
theorem dX5_lossWithout_68 : decode cX5_lossWithout 68 = .ok (.aload_n 0, 1) := by decide +kernel
theorem dX5_lossWithout_69 : decode cX5_lossWithout 69 = .ok (.getfield 9, 3) := by decide +kernel
theorem dX5_lossWithout_72 : decode cX5_lossWithout 72 = .ok (.iload 5, 2) := by decide +kernel
theorem dX5_lossWithout_74 : decode cX5_lossWithout 74 = .ok (.iaload, 1) := by decide +kernel
theorem dX5_lossWithout_75 : decode cX5_lossWithout 75 = .ok (.isub, 1) := by decide +kernel
theorem dX5_lossWithout_76 : decode cX5_lossWithout 76 = .ok (.goto 4, 3) := by decide +kernel
theorem dX5_lossWithout_79 : decode cX5_lossWithout 79 = .ok (.iload_n 3, 1) := by decide +kernel
theorem dX5_lossWithout_80 : decode cX5_lossWithout 80 = .ok (.iadd, 1) := by decide +kernel
theorem dX5_lossWithout_81 : decode cX5_lossWithout 81 = .ok (.istore 4, 2) := by decide +kernel
theorem dX5_lossWithout_83 : decode cX5_lossWithout 83 = .ok (.iinc 5 1, 3) := by decide +kernel
theorem dX5_lossWithout_86 : decode cX5_lossWithout 86 = .ok (.goto (-58), 3) := by decide +kernel
theorem dX5_lossWithout_89 : decode cX5_lossWithout 89 = .ok (.iload 4, 2) := by decide +kernel
theorem dX5_lossWithout_91 : decode cX5_lossWithout 91 = .ok (.ireturn, 1) := by decide +kernel
theorem dX5_countOpen_0 : decode cX5_countOpen 0 = .ok (.iconst 0, 1) := by decide +kernel
theorem dX5_countOpen_1 : decode cX5_countOpen 1 = .ok (.istore_n 1, 1) := by decide +kernel
theorem dX5_countOpen_2 : decode cX5_countOpen 2 = .ok (.iconst 0, 1) := by decide +kernel
theorem dX5_countOpen_3 : decode cX5_countOpen 3 = .ok (.istore_n 2, 1) := by decide +kernel
theorem dX5_countOpen_4 : decode cX5_countOpen 4 = .ok (.iload_n 2, 1) := by decide +kernel
theorem dX5_countOpen_5 : decode cX5_countOpen 5 = .ok (.bipush 64, 2) := by decide +kernel
theorem dX5_countOpen_7 : decode cX5_countOpen 7 = .ok (.if_icmp .ge 28, 3) := by decide +kernel
theorem dX5_countOpen_10 : decode cX5_countOpen 10 = .ok (.iload_n 1, 1) := by decide +kernel
theorem dX5_countOpen_11 : decode cX5_countOpen 11 = .ok (.aload_n 0, 1) := by decide +kernel
theorem dX5_countOpen_12 : decode cX5_countOpen 12 = .ok (.getfield 9, 3) := by decide +kernel
theorem dX5_countOpen_15 : decode cX5_countOpen 15 = .ok (.iload_n 2, 1) := by decide +kernel
theorem dX5_countOpen_16 : decode cX5_countOpen 16 = .ok (.iaload, 1) := by decide +kernel
theorem dX5_countOpen_17 : decode cX5_countOpen 17 = .ok (.ldc 25, 2) := by decide +kernel
theorem dX5_countOpen_19 : decode cX5_countOpen 19 = .ok (.if_icmp .ge 7, 3) := by decide +kernel
theorem dX5_countOpen_22 : decode cX5_countOpen 22 = .ok (.iconst 1, 1) := by decide +kernel
theorem dX5_countOpen_23 : decode cX5_countOpen 23 = .ok (.goto 4, 3) := by decide +kernel
theorem dX5_countOpen_26 : decode cX5_countOpen 26 = .ok (.iconst 0, 1) := by decide +kernel
theorem dX5_countOpen_27 : decode cX5_countOpen 27 = .ok (.iadd, 1) := by decide +kernel
theorem dX5_countOpen_28 : decode cX5_countOpen 28 = .ok (.istore_n 1, 1) := by decide +kernel
theorem dX5_countOpen_29 : decode cX5_countOpen 29 = .ok (.iinc 2 1, 3) := by decide +kernel
theorem dX5_countOpen_32 : decode cX5_countOpen 32 = .ok (.goto (-28), 3) := by decide +kernel
theorem dX5_countOpen_35 : decode cX5_countOpen 35 = .ok (.iload_n 1, 1) := by decide +kernel
theorem dX5_countOpen_36 : decode cX5_countOpen 36 = .ok (.ireturn, 1) := by decide +kernel
theorem dX5_sumOpen_0 : decode cX5_sumOpen 0 = .ok (.iconst 0, 1) := by decide +kernel
theorem dX5_sumOpen_1 : decode cX5_sumOpen 1 = .ok (.istore_n 1, 1) := by decide +kernel
theorem dX5_sumOpen_2 : decode cX5_sumOpen 2 = .ok (.iconst 0, 1) := by decide +kernel
theorem dX5_sumOpen_3 : decode cX5_sumOpen 3 = .ok (.istore_n 2, 1) := by decide +kernel
theorem dX5_sumOpen_4 : decode cX5_sumOpen 4 = .ok (.iload_n 2, 1) := by decide +kernel
theorem dX5_sumOpen_5 : decode cX5_sumOpen 5 = .ok (.bipush 64, 2) := by decide +kernel
theorem dX5_sumOpen_7 : decode cX5_sumOpen 7 = .ok (.if_icmp .ge 33, 3) := by decide +kernel
theorem dX5_sumOpen_10 : decode cX5_sumOpen 10 = .ok (.iload_n 1, 1) := by decide +kernel
theorem dX5_sumOpen_11 : decode cX5_sumOpen 11 = .ok (.aload_n 0, 1) := by decide +kernel
theorem dX5_sumOpen_12 : decode cX5_sumOpen 12 = .ok (.getfield 9, 3) := by decide +kernel
theorem dX5_sumOpen_15 : decode cX5_sumOpen 15 = .ok (.iload_n 2, 1) := by decide +kernel
theorem dX5_sumOpen_16 : decode cX5_sumOpen 16 = .ok (.iaload, 1) := by decide +kernel
theorem dX5_sumOpen_17 : decode cX5_sumOpen 17 = .ok (.ldc 25, 2) := by decide +kernel
theorem dX5_sumOpen_19 : decode cX5_sumOpen 19 = .ok (.if_icmp .ge 12, 3) := by decide +kernel
theorem dX5_sumOpen_22 : decode cX5_sumOpen 22 = .ok (.aload_n 0, 1) := by decide +kernel
theorem dX5_sumOpen_23 : decode cX5_sumOpen 23 = .ok (.getfield 9, 3) := by decide +kernel
theorem dX5_sumOpen_26 : decode cX5_sumOpen 26 = .ok (.iload_n 2, 1) := by decide +kernel
theorem dX5_sumOpen_27 : decode cX5_sumOpen 27 = .ok (.iaload, 1) := by decide +kernel
theorem dX5_sumOpen_28 : decode cX5_sumOpen 28 = .ok (.goto 4, 3) := by decide +kernel
theorem dX5_sumOpen_31 : decode cX5_sumOpen 31 = .ok (.iconst 0, 1) := by decide +kernel
theorem dX5_sumOpen_32 : decode cX5_sumOpen 32 = .ok (.iadd, 1) := by decide +kernel
theorem dX5_sumOpen_33 : decode cX5_sumOpen 33 = .ok (.istore_n 1, 1) := by decide +kernel
theorem dX5_sumOpen_34 : decode cX5_sumOpen 34 = .ok (.iinc 2 1, 3) := by decide +kernel
theorem dX5_sumOpen_37 : decode cX5_sumOpen 37 = .ok (.goto (-33), 3) := by decide +kernel
theorem dX5_sumOpen_40 : decode cX5_sumOpen 40 = .ok (.iload_n 1, 1) := by decide +kernel
theorem dX5_sumOpen_41 : decode cX5_sumOpen 41 = .ok (.ireturn, 1) := by decide +kernel
theorem dX6_init_0 : decode cX6_init 0 = .ok (.aload_n 0, 1) := by decide +kernel
theorem dX6_init_1 : decode cX6_init 1 = .ok (.invokespecial 3, 3) := by decide +kernel
theorem dX6_init_4 : decode cX6_init 4 = .ok (.aload_n 0, 1) := by decide +kernel
theorem dX6_init_5 : decode cX6_init 5 = .ok (.new 9, 3) := by decide +kernel
theorem dX6_init_8 : decode cX6_init 8 = .ok (.dup, 1) := by decide +kernel
theorem dX6_init_9 : decode cX6_init 9 = .ok (.invokespecial 11, 3) := by decide +kernel
theorem dX6_init_12 : decode cX6_init 12 = .ok (.putfield 12, 3) := by decide +kernel
theorem dX6_init_15 : decode cX6_init 15 = .ok (.aload_n 0, 1) := by decide +kernel
theorem dX6_init_16 : decode cX6_init 16 = .ok (.new 9, 3) := by decide +kernel
theorem dX6_init_19 : decode cX6_init 19 = .ok (.dup, 1) := by decide +kernel
theorem dX6_init_20 : decode cX6_init 20 = .ok (.invokespecial 11, 3) := by decide +kernel
theorem dX6_init_23 : decode cX6_init 23 = .ok (.putfield 18, 3) := by decide +kernel
theorem dX6_init_26 : decode cX6_init 26 = .ok (.aload_n 0, 1) := by decide +kernel
theorem dX6_init_27 : decode cX6_init 27 = .ok (.bipush 12, 2) := by decide +kernel
theorem dX6_init_29 : decode cX6_init 29 = .ok (.newarray .int, 2) := by decide +kernel
theorem dX6_init_31 : decode cX6_init 31 = .ok (.putfield 21, 3) := by decide +kernel
theorem dX6_init_34 : decode cX6_init 34 = .ok (.return_, 1) := by decide +kernel
theorem dX6_measure_0 : decode cX6_measure 0 = .ok (.aload_n 1, 1) := by decide +kernel
theorem dX6_measure_1 : decode cX6_measure 1 = .ok (.aload_n 0, 1) := by decide +kernel
theorem dX6_measure_2 : decode cX6_measure 2 = .ok (.getfield 12, 3) := by decide +kernel
theorem dX6_measure_5 : decode cX6_measure 5 = .ok (.iconst (-1), 1) := by decide +kernel
theorem dX6_measure_6 : decode cX6_measure 6 = .ok (.invokevirtual 25, 3) := by decide +kernel
theorem dX6_measure_9 : decode cX6_measure 9 = .ok (.iconst 0, 1) := by decide +kernel
theorem dX6_measure_10 : decode cX6_measure 10 = .ok (.istore_n 2, 1) := by decide +kernel
theorem dX6_measure_11 : decode cX6_measure 11 = .ok (.iload_n 2, 1) := by decide +kernel
theorem dX6_measure_12 : decode cX6_measure 12 = .ok (.aload_n 1, 1) := by decide +kernel
theorem dX6_measure_13 : decode cX6_measure 13 = .ok (.getfield 31, 3) := by decide +kernel
theorem dX6_measure_16 : decode cX6_measure 16 = .ok (.if_icmp .ge 50, 3) := by decide +kernel
theorem dX6_measure_19 : decode cX6_measure 19 = .ok (.iconst 0, 1) := by decide +kernel
theorem dX6_measure_20 : decode cX6_measure 20 = .ok (.istore_n 3, 1) := by decide +kernel
theorem dX6_measure_21 : decode cX6_measure 21 = .ok (.iload_n 3, 1) := by decide +kernel
theorem dX6_measure_22 : decode cX6_measure 22 = .ok (.aload_n 1, 1) := by decide +kernel
theorem dX6_measure_23 : decode cX6_measure 23 = .ok (.getfield 31, 3) := by decide +kernel
theorem dX6_measure_26 : decode cX6_measure 26 = .ok (.if_icmp .ge 34, 3) := by decide +kernel
theorem dX6_measure_29 : decode cX6_measure 29 = .ok (.aload_n 0, 1) := by decide +kernel
theorem dX6_measure_30 : decode cX6_measure 30 = .ok (.getfield 18, 3) := by decide +kernel
theorem dX6_measure_33 : decode cX6_measure 33 = .ok (.iload_n 2, 1) := by decide +kernel
theorem dX6_measure_34 : decode cX6_measure 34 = .ok (.iload_n 3, 1) := by decide +kernel
theorem dX6_measure_35 : decode cX6_measure 35 = .ok (.iload_n 2, 1) := by decide +kernel
theorem dX6_measure_36 : decode cX6_measure 36 = .ok (.iload_n 3, 1) := by decide +kernel
theorem dX6_measure_37 : decode cX6_measure 37 = .ok (.if_icmp .ne 7, 3) := by decide +kernel
theorem dX6_measure_40 : decode cX6_measure 40 = .ok (.iconst (-1), 1) := by decide +kernel
theorem dX6_measure_41 : decode cX6_measure 41 = .ok (.goto 10, 3) := by decide +kernel
theorem dX6_measure_44 : decode cX6_measure 44 = .ok (.aload_n 0, 1) := by decide +kernel
theorem dX6_measure_45 : decode cX6_measure 45 = .ok (.aload_n 1, 1) := by decide +kernel
theorem dX6_measure_46 : decode cX6_measure 46 = .ok (.iload_n 2, 1) := by decide +kernel
theorem dX6_measure_47 : decode cX6_measure 47 = .ok (.iload_n 3, 1) := by decide +kernel
theorem dX6_measure_48 : decode cX6_measure 48 = .ok (.invokevirtual 35, 3) := by decide +kernel
theorem dX6_measure_51 : decode cX6_measure 51 = .ok (.invokevirtual 39, 3) := by decide +kernel
theorem dX6_measure_54 : decode cX6_measure 54 = .ok (.iinc 3 1, 3) := by decide +kernel
theorem dX6_measure_57 : decode cX6_measure 57 = .ok (.goto (-36), 3) := by decide +kernel
theorem dX6_measure_60 : decode cX6_measure 60 = .ok (.iinc 2 1, 3) := by decide +kernel
theorem dX6_measure_63 : decode cX6_measure 63 = .ok (.goto (-52), 3) := by decide +kernel
theorem dX6_measure_66 : decode cX6_measure 66 = .ok (.aload_n 0, 1) := by decide +kernel
theorem dX6_measure_67 : decode cX6_measure 67 = .ok (.aload_n 1, 1) := by decide +kernel
theorem dX6_measure_68 : decode cX6_measure 68 = .ok (.getfield 31, 3) := by decide +kernel
theorem dX6_measure_71 : decode cX6_measure 71 = .ok (.invokevirtual 43, 3) := by decide +kernel
theorem dX6_measure_74 : decode cX6_measure 74 = .ok (.return_, 1) := by decide +kernel
theorem dX6_firstNext_0 : decode cX6_firstNext 0 = .ok (.aload_n 0, 1) := by decide +kernel
theorem dX6_firstNext_1 : decode cX6_firstNext 1 = .ok (.getfield 12, 3) := by decide +kernel
theorem dX6_firstNext_4 : decode cX6_firstNext 4 = .ok (.iload_n 2, 1) := by decide +kernel
theorem dX6_firstNext_5 : decode cX6_firstNext 5 = .ok (.iload_n 3, 1) := by decide +kernel
theorem dX6_firstNext_6 : decode cX6_firstNext 6 = .ok (.invokevirtual 47, 3) := by decide +kernel
theorem dX6_firstNext_9 : decode cX6_firstNext 9 = .ok (.istore 4, 2) := by decide +kernel
theorem dX6_firstNext_11 : decode cX6_firstNext 11 = .ok (.iload 4, 2) := by decide +kernel
theorem dX6_firstNext_13 : decode cX6_firstNext 13 = .ok (.ldc 51, 2) := by decide +kernel
theorem dX6_firstNext_15 : decode cX6_firstNext 15 = .ok (.if_icmp .lt 5, 3) := by decide +kernel
theorem dX6_firstNext_18 : decode cX6_firstNext 18 = .ok (.iconst (-1), 1) := by decide +kernel
theorem dX6_firstNext_19 : decode cX6_firstNext 19 = .ok (.ireturn, 1) := by decide +kernel
theorem dX6_firstNext_20 : decode cX6_firstNext 20 = .ok (.iconst 0, 1) := by decide +kernel
theorem dX6_firstNext_21 : decode cX6_firstNext 21 = .ok (.istore 5, 2) := by decide +kernel
theorem dX6_firstNext_23 : decode cX6_firstNext 23 = .ok (.iload 5, 2) := by decide +kernel
theorem dX6_firstNext_25 : decode cX6_firstNext 25 = .ok (.aload_n 1, 1) := by decide +kernel
theorem dX6_firstNext_26 : decode cX6_firstNext 26 = .ok (.getfield 31, 3) := by decide +kernel
theorem dX6_firstNext_29 : decode cX6_firstNext 29 = .ok (.if_icmp .ge 45, 3) := by decide +kernel
theorem dX6_firstNext_32 : decode cX6_firstNext 32 = .ok (.aload_n 1, 1) := by decide +kernel
theorem dX6_firstNext_33 : decode cX6_firstNext 33 = .ok (.iload_n 2, 1) := by decide +kernel
theorem dX6_firstNext_34 : decode cX6_firstNext 34 = .ok (.iload 5, 2) := by decide +kernel
theorem dX6_firstNext_36 : decode cX6_firstNext 36 = .ok (.invokevirtual 52, 3) := by decide +kernel
theorem dX6_firstNext_39 : decode cX6_firstNext 39 = .ok (.ifCond .eq 29, 3) := by decide +kernel
theorem dX6_firstNext_42 : decode cX6_firstNext 42 = .ok (.aload_n 1, 1) := by decide +kernel
theorem dX6_firstNext_43 : decode cX6_firstNext 43 = .ok (.iload_n 2, 1) := by decide +kernel
theorem dX6_firstNext_44 : decode cX6_firstNext 44 = .ok (.iload 5, 2) := by decide +kernel
theorem dX6_firstNext_46 : decode cX6_firstNext 46 = .ok (.invokevirtual 56, 3) := by decide +kernel
theorem dX6_firstNext_49 : decode cX6_firstNext 49 = .ok (.aload_n 0, 1) := by decide +kernel
theorem dX6_firstNext_50 : decode cX6_firstNext 50 = .ok (.getfield 12, 3) := by decide +kernel
theorem dX6_firstNext_53 : decode cX6_firstNext 53 = .ok (.iload 5, 2) := by decide +kernel
theorem dX6_firstNext_55 : decode cX6_firstNext 55 = .ok (.iload_n 3, 1) := by decide +kernel
theorem dX6_firstNext_56 : decode cX6_firstNext 56 = .ok (.invokevirtual 47, 3) := by decide +kernel
theorem dX6_firstNext_59 : decode cX6_firstNext 59 = .ok (.iadd, 1) := by decide +kernel
theorem dX6_firstNext_60 : decode cX6_firstNext 60 = .ok (.iload 4, 2) := by decide +kernel
theorem dX6_firstNext_62 : decode cX6_firstNext 62 = .ok (.if_icmp .ne 6, 3) := by decide +kernel
theorem dX6_firstNext_65 : decode cX6_firstNext 65 = .ok (.iload 5, 2) := by decide +kernel
theorem dX6_firstNext_67 : decode cX6_firstNext 67 = .ok (.ireturn, 1) := by decide +kernel
theorem dX6_firstNext_68 : decode cX6_firstNext 68 = .ok (.iinc 5 1, 3) := by decide +kernel
theorem dX6_firstNext_71 : decode cX6_firstNext 71 = .ok (.goto (-48), 3) := by decide +kernel
theorem dX6_firstNext_74 : decode cX6_firstNext 74 = .ok (.iconst (-1), 1) := by decide +kernel
theorem dX6_firstNext_75 : decode cX6_firstNext 75 = .ok (.ireturn, 1) := by decide +kernel
theorem dX6_countBusy_0 : decode cX6_countBusy 0 = .ok (.aload_n 0, 1) := by decide +kernel
theorem dX6_countBusy_1 : decode cX6_countBusy 1 = .ok (.getfield 21, 3) := by decide +kernel
theorem dX6_countBusy_4 : decode cX6_countBusy 4 = .ok (.iconst 0, 1) := by decide +kernel
theorem dX6_countBusy_5 : decode cX6_countBusy 5 = .ok (.invokestatic 59, 3) := by decide +kernel
theorem dX6_countBusy_8 : decode cX6_countBusy 8 = .ok (.iconst 0, 1) := by decide +kernel
theorem dX6_countBusy_9 : decode cX6_countBusy 9 = .ok (.istore_n 2, 1) := by decide +kernel
theorem dX6_countBusy_10 : decode cX6_countBusy 10 = .ok (.iload_n 2, 1) := by decide +kernel
theorem dX6_countBusy_11 : decode cX6_countBusy 11 = .ok (.iload_n 1, 1) := by decide +kernel
theorem dX6_countBusy_12 : decode cX6_countBusy 12 = .ok (.if_icmp .ge 28, 3) := by decide +kernel
theorem dX6_countBusy_15 : decode cX6_countBusy 15 = .ok (.iconst 0, 1) := by decide +kernel
theorem dX6_countBusy_16 : decode cX6_countBusy 16 = .ok (.istore_n 3, 1) := by decide +kernel
theorem dX6_countBusy_17 : decode cX6_countBusy 17 = .ok (.iload_n 3, 1) := by decide +kernel
theorem dX6_countBusy_18 : decode cX6_countBusy 18 = .ok (.iload_n 1, 1) := by decide +kernel
theorem dX6_countBusy_19 : decode cX6_countBusy 19 = .ok (.if_icmp .ge 15, 3) := by decide +kernel
theorem dX6_countBusy_22 : decode cX6_countBusy 22 = .ok (.aload_n 0, 1) := by decide +kernel
theorem dX6_countBusy_23 : decode cX6_countBusy 23 = .ok (.iload_n 2, 1) := by decide +kernel
theorem dX6_countBusy_24 : decode cX6_countBusy 24 = .ok (.iload_n 3, 1) := by decide +kernel
theorem dX6_countBusy_25 : decode cX6_countBusy 25 = .ok (.invokevirtual 65, 3) := by decide +kernel
theorem dX6_countBusy_28 : decode cX6_countBusy 28 = .ok (.iinc 3 1, 3) := by decide +kernel
theorem dX6_countBusy_31 : decode cX6_countBusy 31 = .ok (.goto (-14), 3) := by decide +kernel
theorem dX6_countBusy_34 : decode cX6_countBusy 34 = .ok (.iinc 2 1, 3) := by decide +kernel
theorem dX6_countBusy_37 : decode cX6_countBusy 37 = .ok (.goto (-27), 3) := by decide +kernel
theorem dX6_countBusy_40 : decode cX6_countBusy 40 = .ok (.return_, 1) := by decide +kernel
theorem dX6_countBusyBetween_0 : decode cX6_countBusyBetween 0 = .ok (.aload_n 0, 1) := by decide +kernel
theorem dX6_countBusyBetween_1 : decode cX6_countBusyBetween 1 = .ok (.getfield 18, 3) := by decide +kernel
theorem dX6_countBusyBetween_4 : decode cX6_countBusyBetween 4 = .ok (.iload_n 1, 1) := by decide +kernel
theorem dX6_countBusyBetween_5 : decode cX6_countBusyBetween 5 = .ok (.iload_n 2, 1) := by decide +kernel
theorem dX6_countBusyBetween_6 : decode cX6_countBusyBetween 6 = .ok (.invokevirtual 47, 3) := by decide +kernel
theorem dX6_countBusyBetween_9 : decode cX6_countBusyBetween 9 = .ok (.istore_n 3, 1) := by decide +kernel
theorem dX6_countBusyBetween_10 : decode cX6_countBusyBetween 10 = .ok (.iconst 0, 1) := by decide +kernel
theorem dX6_countBusyBetween_11 : decode cX6_countBusyBetween 11 = .ok (.istore 4, 2) := by decide +kernel
theorem dX6_countBusyBetween_13 : decode cX6_countBusyBetween 13 = .ok (.iload 4, 2) := by decide +kernel
theorem dX6_countBusyBetween_15 : decode cX6_countBusyBetween 15 = .ok (.bipush 12, 2) := by decide +kernel
theorem dX6_countBusyBetween_17 : decode cX6_countBusyBetween 17 = .ok (.if_icmp .ge 39, 3) := by decide +kernel
theorem dX6_countBusyBetween_20 : decode cX6_countBusyBetween 20 = .ok (.iload_n 3, 1) := by decide +kernel
theorem dX6_countBusyBetween_21 : decode cX6_countBusyBetween 21 = .ok (.iconst (-1), 1) := by decide +kernel
theorem dX6_countBusyBetween_22 : decode cX6_countBusyBetween 22 = .ok (.if_icmp .eq 34, 3) := by decide +kernel
theorem dX6_countBusyBetween_25 : decode cX6_countBusyBetween 25 = .ok (.iload_n 3, 1) := by decide +kernel
theorem dX6_countBusyBetween_26 : decode cX6_countBusyBetween 26 = .ok (.iload_n 2, 1) := by decide +kernel
theorem dX6_countBusyBetween_27 : decode cX6_countBusyBetween 27 = .ok (.if_icmp .eq 29, 3) := by decide +kernel
theorem dX6_countBusyBetween_30 : decode cX6_countBusyBetween 30 = .ok (.aload_n 0, 1) := by decide +kernel
theorem dX6_countBusyBetween_31 : decode cX6_countBusyBetween 31 = .ok (.getfield 21, 3) := by decide +kernel
theorem dX6_countBusyBetween_34 : decode cX6_countBusyBetween 34 = .ok (.iload_n 3, 1) := by decide +kernel
theorem dX6_countBusyBetween_35 : decode cX6_countBusyBetween 35 = .ok (.dup2, 1) := by decide +kernel
theorem dX6_countBusyBetween_36 : decode cX6_countBusyBetween 36 = .ok (.iaload, 1) := by decide +kernel
theorem dX6_countBusyBetween_37 : decode cX6_countBusyBetween 37 = .ok (.iconst 1, 1) := by decide +kernel
theorem dX6_countBusyBetween_38 : decode cX6_countBusyBetween 38 = .ok (.iadd, 1) := by decide +kernel
theorem dX6_countBusyBetween_39 : decode cX6_countBusyBetween 39 = .ok (.iastore, 1) := by decide +kernel
theorem dX6_countBusyBetween_40 : decode cX6_countBusyBetween 40 = .ok (.aload_n 0, 1) := by decide +kernel
theorem dX6_countBusyBetween_41 : decode cX6_countBusyBetween 41 = .ok (.getfield 18, 3) := by decide +kernel
theorem dX6_countBusyBetween_44 : decode cX6_countBusyBetween 44 = .ok (.iload_n 3, 1) := by decide +kernel
theorem dX6_countBusyBetween_45 : decode cX6_countBusyBetween 45 = .ok (.iload_n 2, 1) := by decide +kernel
theorem dX6_countBusyBetween_46 : decode cX6_countBusyBetween 46 = .ok (.invokevirtual 47, 3) := by decide +kernel
theorem dX6_countBusyBetween_49 : decode cX6_countBusyBetween 49 = .ok (.istore_n 3, 1) := by decide +kernel
theorem dX6_countBusyBetween_50 : decode cX6_countBusyBetween 50 = .ok (.iinc 4 1, 3) := by decide +kernel
theorem dX6_countBusyBetween_53 : decode cX6_countBusyBetween 53 = .ok (.goto (-40), 3) := by decide +kernel
theorem dX6_countBusyBetween_56 : decode cX6_countBusyBetween 56 = .ok (.return_, 1) := by decide +kernel
theorem dX6_worth_0 : decode cX6_worth 0 = .ok (.aload_n 0, 1) := by decide +kernel
theorem dX6_worth_1 : decode cX6_worth 1 = .ok (.getfield 12, 3) := by decide +kernel
theorem dX6_worth_4 : decode cX6_worth 4 = .ok (.iload_n 1, 1) := by decide +kernel
theorem dX6_worth_5 : decode cX6_worth 5 = .ok (.iload_n 2, 1) := by decide +kernel
theorem dX6_worth_6 : decode cX6_worth 6 = .ok (.invokevirtual 47, 3) := by decide +kernel
theorem dX6_worth_9 : decode cX6_worth 9 = .ok (.istore_n 3, 1) := by decide +kernel
theorem dX6_worth_10 : decode cX6_worth 10 = .ok (.iload_n 3, 1) := by decide +kernel
theorem dX6_worth_11 : decode cX6_worth 11 = .ok (.ldc 51, 2) := by decide +kernel
theorem dX6_worth_13 : decode cX6_worth 13 = .ok (.if_icmp .lt 7, 3) := by decide +kernel
theorem dX6_worth_16 : decode cX6_worth 16 = .ok (.iconst (-1), 1) := by decide +kernel
theorem dX6_worth_17 : decode cX6_worth 17 = .ok (.goto 7, 3) := by decide +kernel
theorem dX6_worth_20 : decode cX6_worth 20 = .ok (.iload_n 3, 1) := by decide +kernel
theorem dX6_worth_21 : decode cX6_worth 21 = .ok (.bipush 64, 2) := by decide +kernel
theorem dX6_worth_23 : decode cX6_worth 23 = .ok (.idiv, 1) := by decide +kernel
theorem dX6_worth_24 : decode cX6_worth 24 = .ok (.ireturn, 1) := by decide +kernel
theorem dX6_roadOn_0 : decode cX6_roadOn 0 = .ok (.aload_n 0, 1) := by decide +kernel
theorem dX6_roadOn_1 : decode cX6_roadOn 1 = .ok (.getfield 12, 3) := by decide +kernel
theorem dX6_roadOn_4 : decode cX6_roadOn 4 = .ok (.iload_n 1, 1) := by decide +kernel
theorem dX6_roadOn_5 : decode cX6_roadOn 5 = .ok (.iload_n 2, 1) := by decide +kernel
theorem dX6_roadOn_6 : decode cX6_roadOn 6 = .ok (.invokevirtual 47, 3) := by decide +kernel
theorem dX6_roadOn_9 : decode cX6_roadOn 9 = .ok (.istore 4, 2) := by decide +kernel
theorem dX6_roadOn_11 : decode cX6_roadOn 11 = .ok (.iload 4, 2) := by decide +kernel
theorem dX6_roadOn_13 : decode cX6_roadOn 13 = .ok (.ldc 51, 2) := by decide +kernel
theorem dX6_roadOn_15 : decode cX6_roadOn 15 = .ok (.if_icmp .ge 16, 3) := by decide +kernel
theorem dX6_roadOn_18 : decode cX6_roadOn 18 = .ok (.iload_n 3, 1) := by decide +kernel
theorem dX6_roadOn_19 : decode cX6_roadOn 19 = .ok (.ifCond .lt 12, 3) := by decide +kernel
theorem dX6_roadOn_22 : decode cX6_roadOn 22 = .ok (.iload_n 3, 1) := by decide +kernel
theorem dX6_roadOn_23 : decode cX6_roadOn 23 = .ok (.iload 4, 2) := by decide +kernel
theorem dX6_roadOn_25 : decode cX6_roadOn 25 = .ok (.bipush 64, 2) := by decide +kernel
theorem dX6_roadOn_27 : decode cX6_roadOn 27 = .ok (.irem, 1) := by decide +kernel
theorem dX6_roadOn_28 : decode cX6_roadOn 28 = .ok (.if_icmp .le 5, 3) := by decide +kernel
theorem dX6_roadOn_31 : decode cX6_roadOn 31 = .ok (.iconst (-1), 1) := by decide +kernel
theorem dX6_roadOn_32 : decode cX6_roadOn 32 = .ok (.ireturn, 1) := by decide +kernel
theorem dX6_roadOn_33 : decode cX6_roadOn 33 = .ok (.iload_n 1, 1) := by decide +kernel
theorem dX6_roadOn_34 : decode cX6_roadOn 34 = .ok (.istore 5, 2) := by decide +kernel
theorem dX6_roadOn_36 : decode cX6_roadOn 36 = .ok (.iconst 0, 1) := by decide +kernel
theorem dX6_roadOn_37 : decode cX6_roadOn 37 = .ok (.istore 6, 2) := by decide +kernel
theorem dX6_roadOn_39 : decode cX6_roadOn 39 = .ok (.iload 6, 2) := by decide +kernel
theorem dX6_roadOn_41 : decode cX6_roadOn 41 = .ok (.iload_n 3, 1) := by decide +kernel
theorem dX6_roadOn_42 : decode cX6_roadOn 42 = .ok (.if_icmp .ge 27, 3) := by decide +kernel
theorem dX6_roadOn_45 : decode cX6_roadOn 45 = .ok (.iload 5, 2) := by decide +kernel
theorem dX6_roadOn_47 : decode cX6_roadOn 47 = .ok (.iconst (-1), 1) := by decide +kernel
theorem dX6_roadOn_48 : decode cX6_roadOn 48 = .ok (.if_icmp .eq 21, 3) := by decide +kernel
theorem dX6_roadOn_51 : decode cX6_roadOn 51 = .ok (.aload_n 0, 1) := by decide +kernel
theorem dX6_roadOn_52 : decode cX6_roadOn 52 = .ok (.getfield 18, 3) := by decide +kernel
theorem dX6_roadOn_55 : decode cX6_roadOn 55 = .ok (.iload 5, 2) := by decide +kernel
theorem dX6_roadOn_57 : decode cX6_roadOn 57 = .ok (.iload_n 2, 1) := by decide +kernel
theorem dX6_roadOn_58 : decode cX6_roadOn 58 = .ok (.invokevirtual 47, 3) := by decide +kernel
theorem dX6_roadOn_61 : decode cX6_roadOn 61 = .ok (.istore 5, 2) := by decide +kernel
theorem dX6_roadOn_63 : decode cX6_roadOn 63 = .ok (.iinc 6 1, 3) := by decide +kernel
theorem dX6_roadOn_66 : decode cX6_roadOn 66 = .ok (.goto (-27), 3) := by decide +kernel
theorem dX6_roadOn_69 : decode cX6_roadOn 69 = .ok (.iload 5, 2) := by decide +kernel
theorem dX6_roadOn_71 : decode cX6_roadOn 71 = .ok (.ireturn, 1) := by decide +kernel
theorem dX6_busiest_0 : decode cX6_busiest 0 = .ok (.iconst (-1), 1) := by decide +kernel
theorem dX6_busiest_1 : decode cX6_busiest 1 = .ok (.istore_n 2, 1) := by decide +kernel
theorem dX6_busiest_2 : decode cX6_busiest 2 = .ok (.iconst 0, 1) := by decide +kernel
theorem dX6_busiest_3 : decode cX6_busiest 3 = .ok (.istore_n 3, 1) := by decide +kernel
theorem dX6_busiest_4 : decode cX6_busiest 4 = .ok (.iload_n 3, 1) := by decide +kernel
theorem dX6_busiest_5 : decode cX6_busiest 5 = .ok (.iload_n 1, 1) := by decide +kernel
theorem dX6_busiest_6 : decode cX6_busiest 6 = .ok (.if_icmp .ge 31, 3) := by decide +kernel
theorem dX6_busiest_9 : decode cX6_busiest 9 = .ok (.iload_n 2, 1) := by decide +kernel
theorem dX6_busiest_10 : decode cX6_busiest 10 = .ok (.iconst (-1), 1) := by decide +kernel
theorem dX6_busiest_11 : decode cX6_busiest 11 = .ok (.if_icmp .eq 18, 3) := by decide +kernel
theorem dX6_busiest_14 : decode cX6_busiest 14 = .ok (.aload_n 0, 1) := by decide +kernel
theorem dX6_busiest_15 : decode cX6_busiest 15 = .ok (.getfield 21, 3) := by decide +kernel
theorem dX6_busiest_18 : decode cX6_busiest 18 = .ok (.iload_n 3, 1) := by decide +kernel
theorem dX6_busiest_19 : decode cX6_busiest 19 = .ok (.iaload, 1) := by decide +kernel
theorem dX6_busiest_20 : decode cX6_busiest 20 = .ok (.aload_n 0, 1) := by decide +kernel
theorem dX6_busiest_21 : decode cX6_busiest 21 = .ok (.getfield 21, 3) := by decide +kernel
theorem dX6_busiest_24 : decode cX6_busiest 24 = .ok (.iload_n 2, 1) := by decide +kernel
theorem dX6_busiest_25 : decode cX6_busiest 25 = .ok (.iaload, 1) := by decide +kernel
theorem dX6_busiest_26 : decode cX6_busiest 26 = .ok (.if_icmp .le 5, 3) := by decide +kernel
theorem dX6_busiest_29 : decode cX6_busiest 29 = .ok (.iload_n 3, 1) := by decide +kernel
theorem dX6_busiest_30 : decode cX6_busiest 30 = .ok (.istore_n 2, 1) := by decide +kernel
theorem dX6_busiest_31 : decode cX6_busiest 31 = .ok (.iinc 3 1, 3) := by decide +kernel
theorem dX6_busiest_34 : decode cX6_busiest 34 = .ok (.goto (-30), 3) := by decide +kernel
theorem dX6_busiest_37 : decode cX6_busiest 37 = .ok (.iload_n 2, 1) := by decide +kernel
theorem dX6_busiest_38 : decode cX6_busiest 38 = .ok (.ireturn, 1) := by decide +kernel
theorem dX6_mostBusy_0 : decode cX6_mostBusy 0 = .ok (.aload_n 0, 1) := by decide +kernel
theorem dX6_mostBusy_1 : decode cX6_mostBusy 1 = .ok (.iload_n 1, 1) := by decide +kernel
theorem dX6_mostBusy_2 : decode cX6_mostBusy 2 = .ok (.invokevirtual 69, 3) := by decide +kernel
theorem dX6_mostBusy_5 : decode cX6_mostBusy 5 = .ok (.istore_n 2, 1) := by decide +kernel
theorem dX6_mostBusy_6 : decode cX6_mostBusy 6 = .ok (.iload_n 2, 1) := by decide +kernel
theorem dX6_mostBusy_7 : decode cX6_mostBusy 7 = .ok (.iconst (-1), 1) := by decide +kernel
theorem dX6_mostBusy_8 : decode cX6_mostBusy 8 = .ok (.if_icmp .ne 7, 3) := by decide +kernel
theorem dX6_mostBusy_11 : decode cX6_mostBusy 11 = .ok (.iconst 0, 1) := by decide +kernel
theorem dX6_mostBusy_12 : decode cX6_mostBusy 12 = .ok (.goto 9, 3) := by decide +kernel
theorem dX6_mostBusy_15 : decode cX6_mostBusy 15 = .ok (.aload_n 0, 1) := by decide +kernel
theorem dX6_mostBusy_16 : decode cX6_mostBusy 16 = .ok (.getfield 21, 3) := by decide +kernel
theorem dX6_mostBusy_19 : decode cX6_mostBusy 19 = .ok (.iload_n 2, 1) := by decide +kernel
theorem dX6_mostBusy_20 : decode cX6_mostBusy 20 = .ok (.iaload, 1) := by decide +kernel
theorem dX6_mostBusy_21 : decode cX6_mostBusy 21 = .ok (.ireturn, 1) := by decide +kernel
theorem dX7_init_0 : decode cX7_init 0 = .ok (.aload_n 0, 1) := by decide +kernel
theorem dX7_init_1 : decode cX7_init 1 = .ok (.invokespecial 1, 3) := by decide +kernel
theorem dX7_init_4 : decode cX7_init 4 = .ok (.aload_n 0, 1) := by decide +kernel
theorem dX7_init_5 : decode cX7_init 5 = .ok (.new 7, 3) := by decide +kernel
theorem dX7_init_8 : decode cX7_init 8 = .ok (.dup, 1) := by decide +kernel
theorem dX7_init_9 : decode cX7_init 9 = .ok (.invokespecial 9, 3) := by decide +kernel
theorem dX7_init_12 : decode cX7_init 12 = .ok (.putfield 10, 3) := by decide +kernel
theorem dX7_init_15 : decode cX7_init 15 = .ok (.aload_n 0, 1) := by decide +kernel
theorem dX7_init_16 : decode cX7_init 16 = .ok (.new 16, 3) := by decide +kernel
theorem dX7_init_19 : decode cX7_init 19 = .ok (.dup, 1) := by decide +kernel
theorem dX7_init_20 : decode cX7_init 20 = .ok (.invokespecial 18, 3) := by decide +kernel
theorem dX7_init_23 : decode cX7_init 23 = .ok (.putfield 19, 3) := by decide +kernel
theorem dX7_init_26 : decode cX7_init 26 = .ok (.aload_n 0, 1) := by decide +kernel
theorem dX7_init_27 : decode cX7_init 27 = .ok (.new 23, 3) := by decide +kernel
theorem dX7_init_30 : decode cX7_init 30 = .ok (.dup, 1) := by decide +kernel
theorem dX7_init_31 : decode cX7_init 31 = .ok (.invokespecial 25, 3) := by decide +kernel
theorem dX7_init_34 : decode cX7_init 34 = .ok (.putfield 26, 3) := by decide +kernel
theorem dX7_init_37 : decode cX7_init 37 = .ok (.aload_n 0, 1) := by decide +kernel
theorem dX7_init_38 : decode cX7_init 38 = .ok (.new 30, 3) := by decide +kernel
theorem dX7_init_41 : decode cX7_init 41 = .ok (.dup, 1) := by decide +kernel
theorem dX7_init_42 : decode cX7_init 42 = .ok (.invokespecial 32, 3) := by decide +kernel
theorem dX7_init_45 : decode cX7_init 45 = .ok (.putfield 33, 3) := by decide +kernel
theorem dX7_init_48 : decode cX7_init 48 = .ok (.aload_n 0, 1) := by decide +kernel
theorem dX7_init_49 : decode cX7_init 49 = .ok (.new 37, 3) := by decide +kernel
theorem dX7_init_52 : decode cX7_init 52 = .ok (.dup, 1) := by decide +kernel
theorem dX7_init_53 : decode cX7_init 53 = .ok (.invokespecial 39, 3) := by decide +kernel
theorem dX7_init_56 : decode cX7_init 56 = .ok (.putfield 40, 3) := by decide +kernel
theorem dX7_init_59 : decode cX7_init 59 = .ok (.aload_n 0, 1) := by decide +kernel
theorem dX7_init_60 : decode cX7_init 60 = .ok (.new 44, 3) := by decide +kernel
theorem dX7_init_63 : decode cX7_init 63 = .ok (.dup, 1) := by decide +kernel
theorem dX7_init_64 : decode cX7_init 64 = .ok (.invokespecial 46, 3) := by decide +kernel
theorem dX7_init_67 : decode cX7_init 67 = .ok (.putfield 47, 3) := by decide +kernel
theorem dX7_init_70 : decode cX7_init 70 = .ok (.return_, 1) := by decide +kernel
theorem dX7_letter_0 : decode cX7_letter 0 = .ok (.iload_n 1, 1) := by decide +kernel
theorem dX7_letter_1 : decode cX7_letter 1 = .ok (.bipush 32, 2) := by decide +kernel
theorem dX7_letter_3 : decode cX7_letter 3 = .ok (.if_icmp .lt 9, 3) := by decide +kernel
theorem dX7_letter_6 : decode cX7_letter 6 = .ok (.iload_n 1, 1) := by decide +kernel
theorem dX7_letter_7 : decode cX7_letter 7 = .ok (.bipush 126, 2) := by decide +kernel
theorem dX7_letter_9 : decode cX7_letter 9 = .ok (.if_icmp .le 6, 3) := by decide +kernel
theorem dX7_letter_12 : decode cX7_letter 12 = .ok (.bipush (-102), 2) := by decide +kernel
theorem dX7_letter_14 : decode cX7_letter 14 = .ok (.ireturn, 1) := by decide +kernel
theorem dX7_letter_15 : decode cX7_letter 15 = .ok (.aload_n 0, 1) := by decide +kernel
theorem dX7_letter_16 : decode cX7_letter 16 = .ok (.getfield 10, 3) := by decide +kernel
theorem dX7_letter_19 : decode cX7_letter 19 = .ok (.getfield 51, 3) := by decide +kernel
theorem dX7_letter_22 : decode cX7_letter 22 = .ok (.bipush 60, 2) := by decide +kernel
theorem dX7_letter_24 : decode cX7_letter 24 = .ok (.if_icmp .lt 6, 3) := by decide +kernel
theorem dX7_letter_27 : decode cX7_letter 27 = .ok (.bipush (-104), 2) := by decide +kernel
theorem dX7_letter_29 : decode cX7_letter 29 = .ok (.ireturn, 1) := by decide +kernel
theorem dX7_letter_30 : decode cX7_letter 30 = .ok (.aload_n 0, 1) := by decide +kernel
theorem dX7_letter_31 : decode cX7_letter 31 = .ok (.getfield 10, 3) := by decide +kernel
theorem dX7_letter_34 : decode cX7_letter 34 = .ok (.iload_n 1, 1) := by decide +kernel
theorem dX7_letter_35 : decode cX7_letter 35 = .ok (.invokevirtual 55, 3) := by decide +kernel
theorem dX7_letter_38 : decode cX7_letter 38 = .ok (.aload_n 0, 1) := by decide +kernel
theorem dX7_letter_39 : decode cX7_letter 39 = .ok (.getfield 10, 3) := by decide +kernel
theorem dX7_letter_42 : decode cX7_letter 42 = .ok (.getfield 51, 3) := by decide +kernel
theorem dX7_letter_45 : decode cX7_letter 45 = .ok (.ireturn, 1) := by decide +kernel
theorem dX7_blank_0 : decode cX7_blank 0 = .ok (.aload_n 0, 1) := by decide +kernel
theorem dX7_blank_1 : decode cX7_blank 1 = .ok (.getfield 10, 3) := by decide +kernel
theorem dX7_blank_4 : decode cX7_blank 4 = .ok (.getfield 51, 3) := by decide +kernel
theorem dX7_blank_7 : decode cX7_blank 7 = .ok (.istore_n 1, 1) := by decide +kernel
theorem dX7_blank_8 : decode cX7_blank 8 = .ok (.aload_n 0, 1) := by decide +kernel
theorem dX7_blank_9 : decode cX7_blank 9 = .ok (.getfield 10, 3) := by decide +kernel
theorem dX7_blank_12 : decode cX7_blank 12 = .ok (.iconst 0, 1) := by decide +kernel
theorem dX7_blank_13 : decode cX7_blank 13 = .ok (.putfield 51, 3) := by decide +kernel
theorem dX7_blank_16 : decode cX7_blank 16 = .ok (.iload_n 1, 1) := by decide +kernel
theorem dX7_blank_17 : decode cX7_blank 17 = .ok (.ireturn, 1) := by decide +kernel
theorem dX7_fault_0 : decode cX7_fault 0 = .ok (.aload_n 0, 1) := by decide +kernel
theorem dX7_fault_1 : decode cX7_fault 1 = .ok (.getfield 10, 3) := by decide +kernel
theorem dX7_fault_4 : decode cX7_fault 4 = .ok (.invokevirtual 59, 3) := by decide +kernel
theorem dX7_fault_7 : decode cX7_fault 7 = .ok (.ireturn, 1) := by decide +kernel
theorem dX7_roads_0 : decode cX7_roads 0 = .ok (.aload_n 0, 1) := by decide +kernel
theorem dX7_roads_1 : decode cX7_roads 1 = .ok (.getfield 10, 3) := by decide +kernel
theorem dX7_roads_4 : decode cX7_roads 4 = .ok (.invokevirtual 63, 3) := by decide +kernel
theorem dX7_roads_7 : decode cX7_roads 7 = .ok (.ifCond .ne 6, 3) := by decide +kernel
theorem dX7_roads_10 : decode cX7_roads 10 = .ok (.bipush (-103), 2) := by decide +kernel
theorem dX7_roads_12 : decode cX7_roads 12 = .ok (.ireturn, 1) := by decide +kernel
theorem dX7_roads_13 : decode cX7_roads 13 = .ok (.aload_n 0, 1) := by decide +kernel
theorem dX7_roads_14 : decode cX7_roads 14 = .ok (.getfield 19, 3) := by decide +kernel
theorem dX7_roads_17 : decode cX7_roads 17 = .ok (.aload_n 0, 1) := by decide +kernel
theorem dX7_roads_18 : decode cX7_roads 18 = .ok (.getfield 10, 3) := by decide +kernel
theorem dX7_roads_21 : decode cX7_roads 21 = .ok (.invokevirtual 67, 3) := by decide +kernel
theorem dX7_roads_24 : decode cX7_roads 24 = .ok (.aload_n 0, 1) := by decide +kernel
theorem dX7_roads_25 : decode cX7_roads 25 = .ok (.getfield 10, 3) := by decide +kernel
theorem dX7_roads_28 : decode cX7_roads 28 = .ok (.iconst 0, 1) := by decide +kernel
theorem dX7_roads_29 : decode cX7_roads 29 = .ok (.putfield 51, 3) := by decide +kernel
theorem dX7_roads_32 : decode cX7_roads 32 = .ok (.aload_n 0, 1) := by decide +kernel
theorem dX7_roads_33 : decode cX7_roads 33 = .ok (.dup, 1) := by decide +kernel
theorem dX7_roads_34 : decode cX7_roads 34 = .ok (.getfield 71, 3) := by decide +kernel
theorem dX7_roads_37 : decode cX7_roads 37 = .ok (.iconst 1, 1) := by decide +kernel
theorem dX7_roads_38 : decode cX7_roads 38 = .ok (.iadd, 1) := by decide +kernel
theorem dX7_roads_39 : decode cX7_roads 39 = .ok (.putfield 71, 3) := by decide +kernel
theorem dX7_roads_42 : decode cX7_roads 42 = .ok (.aload_n 0, 1) := by decide +kernel
theorem dX7_roads_43 : decode cX7_roads 43 = .ok (.getfield 26, 3) := by decide +kernel
theorem dX7_roads_46 : decode cX7_roads 46 = .ok (.aload_n 0, 1) := by decide +kernel
theorem dX7_roads_47 : decode cX7_roads 47 = .ok (.getfield 19, 3) := by decide +kernel
theorem dX7_roads_50 : decode cX7_roads 50 = .ok (.invokevirtual 74, 3) := by decide +kernel
theorem dX7_roads_53 : decode cX7_roads 53 = .ok (.aload_n 0, 1) := by decide +kernel
theorem dX7_roads_54 : decode cX7_roads 54 = .ok (.invokevirtual 78, 3) := by decide +kernel
theorem dX7_roads_57 : decode cX7_roads 57 = .ok (.aload_n 0, 1) := by decide +kernel
theorem dX7_roads_58 : decode cX7_roads 58 = .ok (.getfield 19, 3) := by decide +kernel
theorem dX7_roads_61 : decode cX7_roads 61 = .ok (.getfield 81, 3) := by decide +kernel
theorem dX7_roads_64 : decode cX7_roads 64 = .ok (.ireturn, 1) := by decide +kernel
theorem dX7_stretch_0 : decode cX7_stretch 0 = .ok (.aload_n 0, 1) := by decide +kernel
theorem dX7_stretch_1 : decode cX7_stretch 1 = .ok (.getfield 19, 3) := by decide +kernel
theorem dX7_stretch_4 : decode cX7_stretch 4 = .ok (.iload_n 1, 1) := by decide +kernel
theorem dX7_stretch_5 : decode cX7_stretch 5 = .ok (.invokevirtual 84, 3) := by decide +kernel
theorem dX7_stretch_8 : decode cX7_stretch 8 = .ok (.ifCond .ne 6, 3) := by decide +kernel
theorem dX7_stretch_11 : decode cX7_stretch 11 = .ok (.bipush (-101), 2) := by decide +kernel
theorem dX7_stretch_13 : decode cX7_stretch 13 = .ok (.ireturn, 1) := by decide +kernel
theorem dX7_stretch_14 : decode cX7_stretch 14 = .ok (.iload_n 2, 1) := by decide +kernel
theorem dX7_stretch_15 : decode cX7_stretch 15 = .ok (.iconst 1, 1) := by decide +kernel
theorem dX7_stretch_16 : decode cX7_stretch 16 = .ok (.if_icmp .lt 9, 3) := by decide +kernel
theorem dX7_stretch_19 : decode cX7_stretch 19 = .ok (.iload_n 2, 1) := by decide +kernel
theorem dX7_stretch_20 : decode cX7_stretch 20 = .ok (.bipush 99, 2) := by decide +kernel
theorem dX7_stretch_22 : decode cX7_stretch 22 = .ok (.if_icmp .le 6, 3) := by decide +kernel
theorem dX7_stretch_25 : decode cX7_stretch 25 = .ok (.bipush (-102), 2) := by decide +kernel
theorem dX7_stretch_27 : decode cX7_stretch 27 = .ok (.ireturn, 1) := by decide +kernel
theorem dX7_stretch_28 : decode cX7_stretch 28 = .ok (.aload_n 0, 1) := by decide +kernel
theorem dX7_stretch_29 : decode cX7_stretch 29 = .ok (.getfield 19, 3) := by decide +kernel
theorem dX7_stretch_32 : decode cX7_stretch 32 = .ok (.getfield 88, 3) := by decide +kernel
theorem dX7_stretch_35 : decode cX7_stretch 35 = .ok (.iload_n 1, 1) := by decide +kernel
theorem dX7_stretch_36 : decode cX7_stretch 36 = .ok (.iaload, 1) := by decide +kernel
theorem dX7_stretch_37 : decode cX7_stretch 37 = .ok (.istore_n 3, 1) := by decide +kernel
theorem dX7_stretch_38 : decode cX7_stretch 38 = .ok (.aload_n 0, 1) := by decide +kernel
theorem dX7_stretch_39 : decode cX7_stretch 39 = .ok (.getfield 19, 3) := by decide +kernel
theorem dX7_stretch_42 : decode cX7_stretch 42 = .ok (.getfield 88, 3) := by decide +kernel
theorem dX7_stretch_45 : decode cX7_stretch 45 = .ok (.iload_n 1, 1) := by decide +kernel
theorem dX7_stretch_46 : decode cX7_stretch 46 = .ok (.iload_n 2, 1) := by decide +kernel
theorem dX7_stretch_47 : decode cX7_stretch 47 = .ok (.iastore, 1) := by decide +kernel
theorem dX7_stretch_48 : decode cX7_stretch 48 = .ok (.aload_n 0, 1) := by decide +kernel
theorem dX7_stretch_49 : decode cX7_stretch 49 = .ok (.invokevirtual 92, 3) := by decide +kernel
theorem dX7_stretch_52 : decode cX7_stretch 52 = .ok (.iload_n 3, 1) := by decide +kernel
theorem dX7_stretch_53 : decode cX7_stretch 53 = .ok (.ireturn, 1) := by decide +kernel
theorem dX7_turn_0 : decode cX7_turn 0 = .ok (.aload_n 0, 1) := by decide +kernel
theorem dX7_turn_1 : decode cX7_turn 1 = .ok (.getfield 19, 3) := by decide +kernel
theorem dX7_turn_4 : decode cX7_turn 4 = .ok (.iload_n 1, 1) := by decide +kernel
theorem dX7_turn_5 : decode cX7_turn 5 = .ok (.iload_n 2, 1) := by decide +kernel
theorem dX7_turn_6 : decode cX7_turn 6 = .ok (.invokevirtual 95, 3) := by decide +kernel
theorem dX7_turn_9 : decode cX7_turn 9 = .ok (.ifCond .ne 6, 3) := by decide +kernel
theorem dX7_turn_12 : decode cX7_turn 12 = .ok (.bipush (-101), 2) := by decide +kernel
theorem dX7_turn_14 : decode cX7_turn 14 = .ok (.ireturn, 1) := by decide +kernel
theorem dX7_turn_15 : decode cX7_turn 15 = .ok (.aload_n 0, 1) := by decide +kernel
theorem dX7_turn_16 : decode cX7_turn 16 = .ok (.getfield 19, 3) := by decide +kernel
theorem dX7_turn_19 : decode cX7_turn 19 = .ok (.iload_n 1, 1) := by decide +kernel
theorem dX7_turn_20 : decode cX7_turn 20 = .ok (.iload_n 2, 1) := by decide +kernel
theorem dX7_turn_21 : decode cX7_turn 21 = .ok (.invokevirtual 99, 3) := by decide +kernel
theorem dX7_turn_24 : decode cX7_turn 24 = .ok (.ifCond .ne 6, 3) := by decide +kernel
theorem dX7_turn_27 : decode cX7_turn 27 = .ok (.bipush (-103), 2) := by decide +kernel
theorem dX7_turn_29 : decode cX7_turn 29 = .ok (.ireturn, 1) := by decide +kernel
theorem dX7_turn_30 : decode cX7_turn 30 = .ok (.iload_n 3, 1) := by decide +kernel
theorem dX7_turn_31 : decode cX7_turn 31 = .ok (.bipush (-5), 2) := by decide +kernel
theorem dX7_turn_33 : decode cX7_turn 33 = .ok (.if_icmp .eq 16, 3) := by decide +kernel
theorem dX7_turn_36 : decode cX7_turn 36 = .ok (.iload_n 3, 1) := by decide +kernel
theorem dX7_turn_37 : decode cX7_turn 37 = .ok (.ifCond .lt 9, 3) := by decide +kernel
theorem dX7_turn_40 : decode cX7_turn 40 = .ok (.iload_n 3, 1) := by decide +kernel
theorem dX7_turn_41 : decode cX7_turn 41 = .ok (.bipush 50, 2) := by decide +kernel
theorem dX7_turn_43 : decode cX7_turn 43 = .ok (.if_icmp .le 6, 3) := by decide +kernel
theorem dX7_turn_46 : decode cX7_turn 46 = .ok (.bipush (-102), 2) := by decide +kernel
theorem dX7_turn_48 : decode cX7_turn 48 = .ok (.ireturn, 1) := by decide +kernel
theorem dX7_turn_49 : decode cX7_turn 49 = .ok (.aload_n 0, 1) := by decide +kernel
theorem dX7_turn_50 : decode cX7_turn 50 = .ok (.getfield 19, 3) := by decide +kernel
theorem dX7_turn_53 : decode cX7_turn 53 = .ok (.getfield 102, 3) := by decide +kernel
theorem dX7_turn_56 : decode cX7_turn 56 = .ok (.iload_n 1, 1) := by decide +kernel
theorem dX7_turn_57 : decode cX7_turn 57 = .ok (.iload_n 2, 1) := by decide +kernel
theorem dX7_turn_58 : decode cX7_turn 58 = .ok (.invokevirtual 106, 3) := by decide +kernel
theorem dX7_turn_61 : decode cX7_turn 61 = .ok (.istore 4, 2) := by decide +kernel
theorem dX7_turn_63 : decode cX7_turn 63 = .ok (.aload_n 0, 1) := by decide +kernel
theorem dX7_turn_64 : decode cX7_turn 64 = .ok (.getfield 19, 3) := by decide +kernel
theorem dX7_turn_67 : decode cX7_turn 67 = .ok (.getfield 102, 3) := by decide +kernel
theorem dX7_turn_70 : decode cX7_turn 70 = .ok (.iload_n 1, 1) := by decide +kernel
theorem dX7_turn_71 : decode cX7_turn 71 = .ok (.iload_n 2, 1) := by decide +kernel
theorem dX7_turn_72 : decode cX7_turn 72 = .ok (.iload_n 3, 1) := by decide +kernel
theorem dX7_turn_73 : decode cX7_turn 73 = .ok (.invokevirtual 112, 3) := by decide +kernel
theorem dX7_turn_76 : decode cX7_turn 76 = .ok (.aload_n 0, 1) := by decide +kernel
theorem dX7_turn_77 : decode cX7_turn 77 = .ok (.invokevirtual 92, 3) := by decide +kernel
theorem dX7_turn_80 : decode cX7_turn 80 = .ok (.iload 4, 2) := by decide +kernel
theorem dX7_turn_82 : decode cX7_turn 82 = .ok (.ireturn, 1) := by decide +kernel
theorem dX7_rank_0 : decode cX7_rank 0 = .ok (.aload_n 0, 1) := by decide +kernel
theorem dX7_rank_1 : decode cX7_rank 1 = .ok (.dup, 1) := by decide +kernel
theorem dX7_rank_2 : decode cX7_rank 2 = .ok (.getfield 116, 3) := by decide +kernel
theorem dX7_rank_5 : decode cX7_rank 5 = .ok (.iconst 1, 1) := by decide +kernel
theorem dX7_rank_6 : decode cX7_rank 6 = .ok (.iadd, 1) := by decide +kernel
theorem dX7_rank_7 : decode cX7_rank 7 = .ok (.putfield 116, 3) := by decide +kernel
theorem dX7_rank_10 : decode cX7_rank 10 = .ok (.aload_n 0, 1) := by decide +kernel
theorem dX7_rank_11 : decode cX7_rank 11 = .ok (.getfield 26, 3) := by decide +kernel
theorem dX7_rank_14 : decode cX7_rank 14 = .ok (.invokevirtual 119, 3) := by decide +kernel
theorem dX7_rank_17 : decode cX7_rank 17 = .ok (.aload_n 0, 1) := by decide +kernel
theorem dX7_rank_18 : decode cX7_rank 18 = .ok (.getfield 26, 3) := by decide +kernel
theorem dX7_rank_21 : decode cX7_rank 21 = .ok (.aload_n 0, 1) := by decide +kernel
theorem dX7_rank_22 : decode cX7_rank 22 = .ok (.getfield 19, 3) := by decide +kernel
theorem dX7_rank_25 : decode cX7_rank 25 = .ok (.invokevirtual 74, 3) := by decide +kernel
theorem dX7_rank_28 : decode cX7_rank 28 = .ok (.aload_n 0, 1) := by decide +kernel
theorem dX7_rank_29 : decode cX7_rank 29 = .ok (.invokevirtual 78, 3) := by decide +kernel
theorem dX7_rank_32 : decode cX7_rank 32 = .ok (.aload_n 0, 1) := by decide +kernel
theorem dX7_rank_33 : decode cX7_rank 33 = .ok (.getfield 26, 3) := by decide +kernel
theorem dX7_rank_36 : decode cX7_rank 36 = .ok (.invokevirtual 122, 3) := by decide +kernel
theorem dX7_rank_39 : decode cX7_rank 39 = .ok (.ireturn, 1) := by decide +kernel
theorem dX7_makeAnew_0 : decode cX7_makeAnew 0 = .ok (.aload_n 0, 1) := by decide +kernel
theorem dX7_makeAnew_1 : decode cX7_makeAnew 1 = .ok (.dup, 1) := by decide +kernel
theorem dX7_makeAnew_2 : decode cX7_makeAnew 2 = .ok (.getfield 125, 3) := by decide +kernel
theorem dX7_makeAnew_5 : decode cX7_makeAnew 5 = .ok (.iconst 1, 1) := by decide +kernel
theorem dX7_makeAnew_6 : decode cX7_makeAnew 6 = .ok (.iadd, 1) := by decide +kernel
theorem dX7_makeAnew_7 : decode cX7_makeAnew 7 = .ok (.putfield 125, 3) := by decide +kernel
theorem dX7_makeAnew_10 : decode cX7_makeAnew 10 = .ok (.aload_n 0, 1) := by decide +kernel
theorem dX7_makeAnew_11 : decode cX7_makeAnew 11 = .ok (.getfield 26, 3) := by decide +kernel
theorem dX7_makeAnew_14 : decode cX7_makeAnew 14 = .ok (.aload_n 0, 1) := by decide +kernel
theorem dX7_makeAnew_15 : decode cX7_makeAnew 15 = .ok (.getfield 19, 3) := by decide +kernel
theorem dX7_makeAnew_18 : decode cX7_makeAnew 18 = .ok (.invokevirtual 128, 3) := by decide +kernel
theorem dX7_makeAnew_21 : decode cX7_makeAnew 21 = .ok (.aload_n 0, 1) := by decide +kernel
theorem dX7_makeAnew_22 : decode cX7_makeAnew 22 = .ok (.invokevirtual 78, 3) := by decide +kernel
theorem dX7_makeAnew_25 : decode cX7_makeAnew 25 = .ok (.return_, 1) := by decide +kernel
theorem dX7_measureAll_0 : decode cX7_measureAll 0 = .ok (.aload_n 0, 1) := by decide +kernel
theorem dX7_measureAll_1 : decode cX7_measureAll 1 = .ok (.getfield 33, 3) := by decide +kernel
theorem dX7_measureAll_4 : decode cX7_measureAll 4 = .ok (.aload_n 0, 1) := by decide +kernel
theorem dX7_measureAll_5 : decode cX7_measureAll 5 = .ok (.getfield 26, 3) := by decide +kernel
theorem dX7_measureAll_8 : decode cX7_measureAll 8 = .ok (.invokevirtual 131, 3) := by decide +kernel
theorem dX7_measureAll_11 : decode cX7_measureAll 11 = .ok (.aload_n 0, 1) := by decide +kernel
theorem dX7_measureAll_12 : decode cX7_measureAll 12 = .ok (.getfield 40, 3) := by decide +kernel
theorem dX7_measureAll_15 : decode cX7_measureAll 15 = .ok (.aload_n 0, 1) := by decide +kernel
theorem dX7_measureAll_16 : decode cX7_measureAll 16 = .ok (.getfield 19, 3) := by decide +kernel
theorem dX7_measureAll_19 : decode cX7_measureAll 19 = .ok (.invokevirtual 135, 3) := by decide +kernel
theorem dX7_measureAll_22 : decode cX7_measureAll 22 = .ok (.aload_n 0, 1) := by decide +kernel
theorem dX7_measureAll_23 : decode cX7_measureAll 23 = .ok (.getfield 47, 3) := by decide +kernel
theorem dX7_measureAll_26 : decode cX7_measureAll 26 = .ok (.aload_n 0, 1) := by decide +kernel
theorem dX7_measureAll_27 : decode cX7_measureAll 27 = .ok (.getfield 19, 3) := by decide +kernel
theorem dX7_measureAll_30 : decode cX7_measureAll 30 = .ok (.aload_n 0, 1) := by decide +kernel
theorem dX7_measureAll_31 : decode cX7_measureAll 31 = .ok (.getfield 40, 3) := by decide +kernel
theorem dX7_measureAll_34 : decode cX7_measureAll 34 = .ok (.getfield 137, 3) := by decide +kernel
theorem dX7_measureAll_37 : decode cX7_measureAll 37 = .ok (.invokevirtual 140, 3) := by decide +kernel
theorem dX7_measureAll_40 : decode cX7_measureAll 40 = .ok (.return_, 1) := by decide +kernel
theorem dX7_road_0 : decode cX7_road 0 = .ok (.aload_n 0, 1) := by decide +kernel
theorem dX7_road_1 : decode cX7_road 1 = .ok (.getfield 19, 3) := by decide +kernel
theorem dX7_road_4 : decode cX7_road 4 = .ok (.iload_n 1, 1) := by decide +kernel
theorem dX7_road_5 : decode cX7_road 5 = .ok (.invokevirtual 84, 3) := by decide +kernel
theorem dX7_road_8 : decode cX7_road 8 = .ok (.ifCond .ne 6, 3) := by decide +kernel
theorem dX7_road_11 : decode cX7_road 11 = .ok (.bipush (-101), 2) := by decide +kernel
theorem dX7_road_13 : decode cX7_road 13 = .ok (.ireturn, 1) := by decide +kernel
theorem dX7_road_14 : decode cX7_road 14 = .ok (.iload_n 2, 1) := by decide +kernel
theorem dX7_road_15 : decode cX7_road 15 = .ok (.tableswitch 96 0 5 #[37, 47, 57, 67, 77, 86], 37) := by decide +kernel
theorem dX7_road_52 : decode cX7_road 52 = .ok (.aload_n 0, 1) := by decide +kernel
theorem dX7_road_53 : decode cX7_road 53 = .ok (.getfield 19, 3) := by decide +kernel
theorem dX7_road_56 : decode cX7_road 56 = .ok (.getfield 143, 3) := by decide +kernel
theorem dX7_road_59 : decode cX7_road 59 = .ok (.iload_n 1, 1) := by decide +kernel
theorem dX7_road_60 : decode cX7_road 60 = .ok (.iaload, 1) := by decide +kernel
theorem dX7_road_61 : decode cX7_road 61 = .ok (.ireturn, 1) := by decide +kernel
theorem dX7_road_62 : decode cX7_road 62 = .ok (.aload_n 0, 1) := by decide +kernel
theorem dX7_road_63 : decode cX7_road 63 = .ok (.getfield 19, 3) := by decide +kernel
theorem dX7_road_66 : decode cX7_road 66 = .ok (.getfield 146, 3) := by decide +kernel
theorem dX7_road_69 : decode cX7_road 69 = .ok (.iload_n 1, 1) := by decide +kernel
theorem dX7_road_70 : decode cX7_road 70 = .ok (.iaload, 1) := by decide +kernel
theorem dX7_road_71 : decode cX7_road 71 = .ok (.ireturn, 1) := by decide +kernel
theorem dX7_road_72 : decode cX7_road 72 = .ok (.aload_n 0, 1) := by decide +kernel
theorem dX7_road_73 : decode cX7_road 73 = .ok (.getfield 19, 3) := by decide +kernel
theorem dX7_road_76 : decode cX7_road 76 = .ok (.getfield 88, 3) := by decide +kernel
theorem dX7_road_79 : decode cX7_road 79 = .ok (.iload_n 1, 1) := by decide +kernel
theorem dX7_road_80 : decode cX7_road 80 = .ok (.iaload, 1) := by decide +kernel
theorem dX7_road_81 : decode cX7_road 81 = .ok (.ireturn, 1) := by decide +kernel
theorem dX7_road_82 : decode cX7_road 82 = .ok (.aload_n 0, 1) := by decide +kernel
theorem dX7_road_83 : decode cX7_road 83 = .ok (.getfield 26, 3) := by decide +kernel
theorem dX7_road_86 : decode cX7_road 86 = .ok (.getfield 149, 3) := by decide +kernel
theorem dX7_road_89 : decode cX7_road 89 = .ok (.iload_n 1, 1) := by decide +kernel
theorem dX7_road_90 : decode cX7_road 90 = .ok (.iaload, 1) := by decide +kernel
theorem dX7_road_91 : decode cX7_road 91 = .ok (.ireturn, 1) := by decide +kernel
theorem dX7_road_92 : decode cX7_road 92 = .ok (.aload_n 0, 1) := by decide +kernel
theorem dX7_road_93 : decode cX7_road 93 = .ok (.getfield 26, 3) := by decide +kernel
theorem dX7_road_96 : decode cX7_road 96 = .ok (.iload_n 1, 1) := by decide +kernel
theorem dX7_road_97 : decode cX7_road 97 = .ok (.invokevirtual 152, 3) := by decide +kernel
theorem dX7_road_100 : decode cX7_road 100 = .ok (.ireturn, 1) := by decide +kernel
theorem dX7_road_101 : decode cX7_road 101 = .ok (.aload_n 0, 1) := by decide +kernel
theorem dX7_road_102 : decode cX7_road 102 = .ok (.getfield 40, 3) := by decide +kernel
theorem dX7_road_105 : decode cX7_road 105 = .ok (.getfield 156, 3) := by decide +kernel
theorem dX7_road_108 : decode cX7_road 108 = .ok (.iload_n 1, 1) := by decide +kernel
theorem dX7_road_109 : decode cX7_road 109 = .ok (.iaload, 1) := by decide +kernel
theorem dX7_road_110 : decode cX7_road 110 = .ok (.ireturn, 1) := by decide +kernel
theorem dX7_road_111 : decode cX7_road 111 = .ok (.bipush (-102), 2) := by decide +kernel
theorem dX7_road_113 : decode cX7_road 113 = .ok (.ireturn, 1) := by decide +kernel
theorem dX7_cost_0 : decode cX7_cost 0 = .ok (.aload_n 0, 1) := by decide +kernel
theorem dX7_cost_1 : decode cX7_cost 1 = .ok (.getfield 19, 3) := by decide +kernel
theorem dX7_cost_4 : decode cX7_cost 4 = .ok (.iload_n 1, 1) := by decide +kernel
theorem dX7_cost_5 : decode cX7_cost 5 = .ok (.iload_n 2, 1) := by decide +kernel
theorem dX7_cost_6 : decode cX7_cost 6 = .ok (.invokevirtual 95, 3) := by decide +kernel
theorem dX7_cost_9 : decode cX7_cost 9 = .ok (.ifCond .ne 6, 3) := by decide +kernel
theorem dX7_cost_12 : decode cX7_cost 12 = .ok (.bipush (-101), 2) := by decide +kernel
theorem dX7_cost_14 : decode cX7_cost 14 = .ok (.ireturn, 1) := by decide +kernel
theorem dX7_cost_15 : decode cX7_cost 15 = .ok (.aload_n 0, 1) := by decide +kernel
theorem dX7_cost_16 : decode cX7_cost 16 = .ok (.getfield 19, 3) := by decide +kernel
theorem dX7_cost_19 : decode cX7_cost 19 = .ok (.iload_n 1, 1) := by decide +kernel
theorem dX7_cost_20 : decode cX7_cost 20 = .ok (.iload_n 2, 1) := by decide +kernel
theorem dX7_cost_21 : decode cX7_cost 21 = .ok (.invokevirtual 99, 3) := by decide +kernel
theorem dX7_cost_24 : decode cX7_cost 24 = .ok (.ifCond .eq 18, 3) := by decide +kernel
theorem dX7_cost_27 : decode cX7_cost 27 = .ok (.aload_n 0, 1) := by decide +kernel
theorem dX7_cost_28 : decode cX7_cost 28 = .ok (.getfield 19, 3) := by decide +kernel
theorem dX7_cost_31 : decode cX7_cost 31 = .ok (.getfield 102, 3) := by decide +kernel
theorem dX7_cost_34 : decode cX7_cost 34 = .ok (.iload_n 1, 1) := by decide +kernel
theorem dX7_cost_35 : decode cX7_cost 35 = .ok (.iload_n 2, 1) := by decide +kernel
theorem dX7_cost_36 : decode cX7_cost 36 = .ok (.invokevirtual 106, 3) := by decide +kernel
theorem dX7_cost_39 : decode cX7_cost 39 = .ok (.goto 5, 3) := by decide +kernel
theorem dX7_cost_42 : decode cX7_cost 42 = .ok (.bipush (-103), 2) := by decide +kernel
theorem dX7_cost_44 : decode cX7_cost 44 = .ok (.ireturn, 1) := by decide +kernel
theorem dX7_order_0 : decode cX7_order 0 = .ok (.aload_n 0, 1) := by decide +kernel
theorem dX7_order_1 : decode cX7_order 1 = .ok (.getfield 19, 3) := by decide +kernel
theorem dX7_order_4 : decode cX7_order 4 = .ok (.iload_n 1, 1) := by decide +kernel
theorem dX7_order_5 : decode cX7_order 5 = .ok (.invokevirtual 84, 3) := by decide +kernel
theorem dX7_order_8 : decode cX7_order 8 = .ok (.ifCond .eq 15, 3) := by decide +kernel
theorem dX7_order_11 : decode cX7_order 11 = .ok (.aload_n 0, 1) := by decide +kernel
theorem dX7_order_12 : decode cX7_order 12 = .ok (.getfield 26, 3) := by decide +kernel
theorem dX7_order_15 : decode cX7_order 15 = .ok (.getfield 159, 3) := by decide +kernel
theorem dX7_order_18 : decode cX7_order 18 = .ok (.iload_n 1, 1) := by decide +kernel
theorem dX7_order_19 : decode cX7_order 19 = .ok (.iaload, 1) := by decide +kernel
theorem dX7_order_20 : decode cX7_order 20 = .ok (.goto 5, 3) := by decide +kernel
theorem dX7_order_23 : decode cX7_order 23 = .ok (.bipush (-101), 2) := by decide +kernel
theorem dX7_order_25 : decode cX7_order 25 = .ok (.ireturn, 1) := by decide +kernel
theorem dX7_least_0 : decode cX7_least 0 = .ok (.aload_n 0, 1) := by decide +kernel
theorem dX7_least_1 : decode cX7_least 1 = .ok (.getfield 19, 3) := by decide +kernel
theorem dX7_least_4 : decode cX7_least 4 = .ok (.iload_n 1, 1) := by decide +kernel
theorem dX7_least_5 : decode cX7_least 5 = .ok (.iload_n 2, 1) := by decide +kernel
theorem dX7_least_6 : decode cX7_least 6 = .ok (.invokevirtual 95, 3) := by decide +kernel
theorem dX7_least_9 : decode cX7_least 9 = .ok (.ifCond .eq 15, 3) := by decide +kernel
theorem dX7_least_12 : decode cX7_least 12 = .ok (.aload_n 0, 1) := by decide +kernel
theorem dX7_least_13 : decode cX7_least 13 = .ok (.getfield 40, 3) := by decide +kernel
theorem dX7_least_16 : decode cX7_least 16 = .ok (.iload_n 1, 1) := by decide +kernel
theorem dX7_least_17 : decode cX7_least 17 = .ok (.iload_n 2, 1) := by decide +kernel
theorem dX7_least_18 : decode cX7_least 18 = .ok (.invokevirtual 162, 3) := by decide +kernel
theorem dX7_least_21 : decode cX7_least 21 = .ok (.goto 5, 3) := by decide +kernel
theorem dX7_least_24 : decode cX7_least 24 = .ok (.bipush (-101), 2) := by decide +kernel
theorem dX7_least_26 : decode cX7_least 26 = .ok (.ireturn, 1) := by decide +kernel
theorem dX7_way_0 : decode cX7_way 0 = .ok (.aload_n 0, 1) := by decide +kernel
theorem dX7_way_1 : decode cX7_way 1 = .ok (.getfield 19, 3) := by decide +kernel
theorem dX7_way_4 : decode cX7_way 4 = .ok (.iload_n 1, 1) := by decide +kernel
theorem dX7_way_5 : decode cX7_way 5 = .ok (.iload_n 2, 1) := by decide +kernel
theorem dX7_way_6 : decode cX7_way 6 = .ok (.invokevirtual 95, 3) := by decide +kernel
theorem dX7_way_9 : decode cX7_way 9 = .ok (.ifCond .eq 16, 3) := by decide +kernel
theorem dX7_way_12 : decode cX7_way 12 = .ok (.aload_n 0, 1) := by decide +kernel
theorem dX7_way_13 : decode cX7_way 13 = .ok (.getfield 40, 3) := by decide +kernel
theorem dX7_way_16 : decode cX7_way 16 = .ok (.iload_n 1, 1) := by decide +kernel
theorem dX7_way_17 : decode cX7_way 17 = .ok (.iload_n 2, 1) := by decide +kernel
theorem dX7_way_18 : decode cX7_way 18 = .ok (.iload_n 3, 1) := by decide +kernel
theorem dX7_way_19 : decode cX7_way 19 = .ok (.invokevirtual 165, 3) := by decide +kernel
theorem dX7_way_22 : decode cX7_way 22 = .ok (.goto 5, 3) := by decide +kernel
theorem dX7_way_25 : decode cX7_way 25 = .ok (.bipush (-101), 2) := by decide +kernel
theorem dX7_way_27 : decode cX7_way 27 = .ok (.ireturn, 1) := by decide +kernel
theorem dX7_arc_0 : decode cX7_arc 0 = .ok (.aload_n 0, 1) := by decide +kernel
theorem dX7_arc_1 : decode cX7_arc 1 = .ok (.getfield 19, 3) := by decide +kernel
theorem dX7_arc_4 : decode cX7_arc 4 = .ok (.iload_n 1, 1) := by decide +kernel
theorem dX7_arc_5 : decode cX7_arc 5 = .ok (.iload_n 2, 1) := by decide +kernel
theorem dX7_arc_6 : decode cX7_arc 6 = .ok (.invokevirtual 95, 3) := by decide +kernel
theorem dX7_arc_9 : decode cX7_arc 9 = .ok (.ifCond .ne 6, 3) := by decide +kernel
theorem dX7_arc_12 : decode cX7_arc 12 = .ok (.bipush (-101), 2) := by decide +kernel
theorem dX7_arc_14 : decode cX7_arc 14 = .ok (.ireturn, 1) := by decide +kernel
theorem dX7_arc_15 : decode cX7_arc 15 = .ok (.iload_n 3, 1) := by decide +kernel
theorem dX7_arc_16 : decode cX7_arc 16 = .ok (.ifCond .lt 8, 3) := by decide +kernel
theorem dX7_arc_19 : decode cX7_arc 19 = .ok (.iload_n 3, 1) := by decide +kernel
theorem dX7_arc_20 : decode cX7_arc 20 = .ok (.iconst 3, 1) := by decide +kernel
theorem dX7_arc_21 : decode cX7_arc 21 = .ok (.if_icmp .le 6, 3) := by decide +kernel
theorem dX7_arc_24 : decode cX7_arc 24 = .ok (.bipush (-102), 2) := by decide +kernel
theorem dX7_arc_26 : decode cX7_arc 26 = .ok (.ireturn, 1) := by decide +kernel
theorem dX7_arc_27 : decode cX7_arc 27 = .ok (.aload_n 0, 1) := by decide +kernel
theorem dX7_arc_28 : decode cX7_arc 28 = .ok (.getfield 26, 3) := by decide +kernel
theorem dX7_arc_31 : decode cX7_arc 31 = .ok (.iload_n 1, 1) := by decide +kernel
theorem dX7_arc_32 : decode cX7_arc 32 = .ok (.iload_n 2, 1) := by decide +kernel
theorem dX7_arc_33 : decode cX7_arc 33 = .ok (.invokevirtual 169, 3) := by decide +kernel
theorem dX7_arc_36 : decode cX7_arc 36 = .ok (.ifCond .ne 5, 3) := by decide +kernel
theorem dX7_arc_39 : decode cX7_arc 39 = .ok (.iconst (-1), 1) := by decide +kernel
theorem dX7_arc_40 : decode cX7_arc 40 = .ok (.ireturn, 1) := by decide +kernel
theorem dX7_arc_41 : decode cX7_arc 41 = .ok (.iload_n 3, 1) := by decide +kernel
theorem dX7_arc_42 : decode cX7_arc 42 = .ok (.tableswitch 70 0 2 #[26, 39, 52], 26) := by decide +kernel
theorem dX7_arc_68 : decode cX7_arc 68 = .ok (.aload_n 0, 1) := by decide +kernel
theorem dX7_arc_69 : decode cX7_arc 69 = .ok (.getfield 26, 3) := by decide +kernel
theorem dX7_arc_72 : decode cX7_arc 72 = .ok (.getfield 172, 3) := by decide +kernel
theorem dX7_arc_75 : decode cX7_arc 75 = .ok (.iload_n 1, 1) := by decide +kernel
theorem dX7_arc_76 : decode cX7_arc 76 = .ok (.iload_n 2, 1) := by decide +kernel
theorem dX7_arc_77 : decode cX7_arc 77 = .ok (.invokevirtual 106, 3) := by decide +kernel
theorem dX7_arc_80 : decode cX7_arc 80 = .ok (.ireturn, 1) := by decide +kernel
theorem dX7_arc_81 : decode cX7_arc 81 = .ok (.aload_n 0, 1) := by decide +kernel
theorem dX7_arc_82 : decode cX7_arc 82 = .ok (.getfield 26, 3) := by decide +kernel
theorem dX7_arc_85 : decode cX7_arc 85 = .ok (.getfield 175, 3) := by decide +kernel
theorem dX7_arc_88 : decode cX7_arc 88 = .ok (.iload_n 1, 1) := by decide +kernel
theorem dX7_arc_89 : decode cX7_arc 89 = .ok (.iload_n 2, 1) := by decide +kernel
theorem dX7_arc_90 : decode cX7_arc 90 = .ok (.invokevirtual 106, 3) := by decide +kernel
theorem dX7_arc_93 : decode cX7_arc 93 = .ok (.ireturn, 1) := by decide +kernel
theorem dX7_arc_94 : decode cX7_arc 94 = .ok (.aload_n 0, 1) := by decide +kernel
theorem dX7_arc_95 : decode cX7_arc 95 = .ok (.getfield 26, 3) := by decide +kernel
theorem dX7_arc_98 : decode cX7_arc 98 = .ok (.iload_n 1, 1) := by decide +kernel
theorem dX7_arc_99 : decode cX7_arc 99 = .ok (.iload_n 2, 1) := by decide +kernel
theorem dX7_arc_100 : decode cX7_arc 100 = .ok (.invokevirtual 178, 3) := by decide +kernel
theorem dX7_arc_103 : decode cX7_arc 103 = .ok (.ifCond .eq 7, 3) := by decide +kernel
theorem dX7_arc_106 : decode cX7_arc 106 = .ok (.iconst 1, 1) := by decide +kernel
theorem dX7_arc_107 : decode cX7_arc 107 = .ok (.goto 4, 3) := by decide +kernel
theorem dX7_arc_110 : decode cX7_arc 110 = .ok (.iconst 0, 1) := by decide +kernel
theorem dX7_arc_111 : decode cX7_arc 111 = .ok (.ireturn, 1) := by decide +kernel
theorem dX7_arc_112 : decode cX7_arc 112 = .ok (.aload_n 0, 1) := by decide +kernel
theorem dX7_arc_113 : decode cX7_arc 113 = .ok (.getfield 26, 3) := by decide +kernel
theorem dX7_arc_116 : decode cX7_arc 116 = .ok (.iload_n 1, 1) := by decide +kernel
theorem dX7_arc_117 : decode cX7_arc 117 = .ok (.iload_n 2, 1) := by decide +kernel
theorem dX7_arc_118 : decode cX7_arc 118 = .ok (.invokevirtual 181, 3) := by decide +kernel
theorem dX7_arc_121 : decode cX7_arc 121 = .ok (.ireturn, 1) := by decide +kernel
theorem dX7_unpacked_0 : decode cX7_unpacked 0 = .ok (.aload_n 0, 1) := by decide +kernel
theorem dX7_unpacked_1 : decode cX7_unpacked 1 = .ok (.getfield 19, 3) := by decide +kernel
theorem dX7_unpacked_4 : decode cX7_unpacked 4 = .ok (.iload_n 1, 1) := by decide +kernel
theorem dX7_unpacked_5 : decode cX7_unpacked 5 = .ok (.iload_n 2, 1) := by decide +kernel
theorem dX7_unpacked_6 : decode cX7_unpacked 6 = .ok (.invokevirtual 95, 3) := by decide +kernel
theorem dX7_unpacked_9 : decode cX7_unpacked 9 = .ok (.ifCond .ne 6, 3) := by decide +kernel
theorem dX7_unpacked_12 : decode cX7_unpacked 12 = .ok (.bipush (-101), 2) := by decide +kernel
theorem dX7_unpacked_14 : decode cX7_unpacked 14 = .ok (.ireturn, 1) := by decide +kernel
theorem dX7_unpacked_15 : decode cX7_unpacked 15 = .ok (.aload_n 0, 1) := by decide +kernel
theorem dX7_unpacked_16 : decode cX7_unpacked 16 = .ok (.getfield 26, 3) := by decide +kernel
theorem dX7_unpacked_19 : decode cX7_unpacked 19 = .ok (.iload_n 1, 1) := by decide +kernel
theorem dX7_unpacked_20 : decode cX7_unpacked 20 = .ok (.iload_n 2, 1) := by decide +kernel
theorem dX7_unpacked_21 : decode cX7_unpacked 21 = .ok (.invokevirtual 169, 3) := by decide +kernel
theorem dX7_unpacked_24 : decode cX7_unpacked 24 = .ok (.ifCond .ne 5, 3) := by decide +kernel
theorem dX7_unpacked_27 : decode cX7_unpacked 27 = .ok (.iconst (-1), 1) := by decide +kernel
theorem dX7_unpacked_28 : decode cX7_unpacked 28 = .ok (.ireturn, 1) := by decide +kernel
theorem dX7_unpacked_29 : decode cX7_unpacked 29 = .ok (.aload_n 0, 1) := by decide +kernel
theorem dX7_unpacked_30 : decode cX7_unpacked 30 = .ok (.getfield 26, 3) := by decide +kernel
theorem dX7_unpacked_33 : decode cX7_unpacked 33 = .ok (.iload_n 1, 1) := by decide +kernel
theorem dX7_unpacked_34 : decode cX7_unpacked 34 = .ok (.iload_n 2, 1) := by decide +kernel
theorem dX7_unpacked_35 : decode cX7_unpacked 35 = .ok (.invokevirtual 181, 3) := by decide +kernel
theorem dX7_unpacked_38 : decode cX7_unpacked 38 = .ok (.istore 4, 2) := by decide +kernel
theorem dX7_unpacked_40 : decode cX7_unpacked 40 = .ok (.iload_n 3, 1) := by decide +kernel
theorem dX7_unpacked_41 : decode cX7_unpacked 41 = .ok (.ifCond .lt 21, 3) := by decide +kernel
theorem dX7_unpacked_44 : decode cX7_unpacked 44 = .ok (.iload_n 3, 1) := by decide +kernel
theorem dX7_unpacked_45 : decode cX7_unpacked 45 = .ok (.iload 4, 2) := by decide +kernel
theorem dX7_unpacked_47 : decode cX7_unpacked 47 = .ok (.if_icmp .ge 15, 3) := by decide +kernel
theorem dX7_unpacked_50 : decode cX7_unpacked 50 = .ok (.aload_n 0, 1) := by decide +kernel
theorem dX7_unpacked_51 : decode cX7_unpacked 51 = .ok (.getfield 26, 3) := by decide +kernel
theorem dX7_unpacked_54 : decode cX7_unpacked 54 = .ok (.getfield 184, 3) := by decide +kernel
theorem dX7_unpacked_57 : decode cX7_unpacked 57 = .ok (.iload_n 3, 1) := by decide +kernel
theorem dX7_unpacked_58 : decode cX7_unpacked 58 = .ok (.iaload, 1) := by decide +kernel
theorem dX7_unpacked_59 : decode cX7_unpacked 59 = .ok (.goto 4, 3) := by decide +kernel
theorem dX7_unpacked_62 : decode cX7_unpacked 62 = .ok (.iconst (-1), 1) := by decide +kernel
theorem dX7_unpacked_63 : decode cX7_unpacked 63 = .ok (.ireturn, 1) := by decide +kernel
theorem dX7_up_0 : decode cX7_up 0 = .ok (.aload_n 0, 1) := by decide +kernel
theorem dX7_up_1 : decode cX7_up 1 = .ok (.getfield 19, 3) := by decide +kernel
theorem dX7_up_4 : decode cX7_up 4 = .ok (.iload_n 1, 1) := by decide +kernel
theorem dX7_up_5 : decode cX7_up 5 = .ok (.iload_n 2, 1) := by decide +kernel
theorem dX7_up_6 : decode cX7_up 6 = .ok (.invokevirtual 95, 3) := by decide +kernel
theorem dX7_up_9 : decode cX7_up 9 = .ok (.ifCond .eq 21, 3) := by decide +kernel
theorem dX7_up_12 : decode cX7_up 12 = .ok (.aload_n 0, 1) := by decide +kernel
theorem dX7_up_13 : decode cX7_up 13 = .ok (.getfield 33, 3) := by decide +kernel
theorem dX7_up_16 : decode cX7_up 16 = .ok (.getfield 187, 3) := by decide +kernel
theorem dX7_up_19 : decode cX7_up 19 = .ok (.iload_n 1, 1) := by decide +kernel
theorem dX7_up_20 : decode cX7_up 20 = .ok (.iload_n 2, 1) := by decide +kernel
theorem dX7_up_21 : decode cX7_up 21 = .ok (.invokevirtual 106, 3) := by decide +kernel
theorem dX7_up_24 : decode cX7_up 24 = .ok (.invokestatic 190, 3) := by decide +kernel
theorem dX7_up_27 : decode cX7_up 27 = .ok (.goto 5, 3) := by decide +kernel
theorem dX7_up_30 : decode cX7_up 30 = .ok (.bipush (-101), 2) := by decide +kernel
theorem dX7_up_32 : decode cX7_up 32 = .ok (.ireturn, 1) := by decide +kernel
theorem dX7_down_0 : decode cX7_down 0 = .ok (.aload_n 0, 1) := by decide +kernel
theorem dX7_down_1 : decode cX7_down 1 = .ok (.getfield 19, 3) := by decide +kernel
theorem dX7_down_4 : decode cX7_down 4 = .ok (.iload_n 1, 1) := by decide +kernel
theorem dX7_down_5 : decode cX7_down 5 = .ok (.iload_n 2, 1) := by decide +kernel
theorem dX7_down_6 : decode cX7_down 6 = .ok (.invokevirtual 95, 3) := by decide +kernel
theorem dX7_down_9 : decode cX7_down 9 = .ok (.ifCond .eq 21, 3) := by decide +kernel
theorem dX7_down_12 : decode cX7_down 12 = .ok (.aload_n 0, 1) := by decide +kernel
theorem dX7_down_13 : decode cX7_down 13 = .ok (.getfield 33, 3) := by decide +kernel
theorem dX7_down_16 : decode cX7_down 16 = .ok (.getfield 193, 3) := by decide +kernel
theorem dX7_down_19 : decode cX7_down 19 = .ok (.iload_n 1, 1) := by decide +kernel
theorem dX7_down_20 : decode cX7_down 20 = .ok (.iload_n 2, 1) := by decide +kernel
theorem dX7_down_21 : decode cX7_down 21 = .ok (.invokevirtual 106, 3) := by decide +kernel
theorem dX7_down_24 : decode cX7_down 24 = .ok (.invokestatic 190, 3) := by decide +kernel
theorem dX7_down_27 : decode cX7_down 27 = .ok (.goto 5, 3) := by decide +kernel
theorem dX7_down_30 : decode cX7_down 30 = .ok (.bipush (-101), 2) := by decide +kernel
theorem dX7_down_32 : decode cX7_down 32 = .ok (.ireturn, 1) := by decide +kernel
theorem dX7_meet_0 : decode cX7_meet 0 = .ok (.aload_n 0, 1) := by decide +kernel
theorem dX7_meet_1 : decode cX7_meet 1 = .ok (.getfield 19, 3) := by decide +kernel
theorem dX7_meet_4 : decode cX7_meet 4 = .ok (.iload_n 1, 1) := by decide +kernel
theorem dX7_meet_5 : decode cX7_meet 5 = .ok (.iload_n 2, 1) := by decide +kernel
theorem dX7_meet_6 : decode cX7_meet 6 = .ok (.invokevirtual 95, 3) := by decide +kernel
theorem dX7_meet_9 : decode cX7_meet 9 = .ok (.ifCond .eq 22, 3) := by decide +kernel
theorem dX7_meet_12 : decode cX7_meet 12 = .ok (.aload_n 0, 1) := by decide +kernel
theorem dX7_meet_13 : decode cX7_meet 13 = .ok (.getfield 33, 3) := by decide +kernel
theorem dX7_meet_16 : decode cX7_meet 16 = .ok (.iload_n 1, 1) := by decide +kernel
theorem dX7_meet_17 : decode cX7_meet 17 = .ok (.iload_n 2, 1) := by decide +kernel
theorem dX7_meet_18 : decode cX7_meet 18 = .ok (.aload_n 0, 1) := by decide +kernel
theorem dX7_meet_19 : decode cX7_meet 19 = .ok (.getfield 19, 3) := by decide +kernel
theorem dX7_meet_22 : decode cX7_meet 22 = .ok (.getfield 81, 3) := by decide +kernel
theorem dX7_meet_25 : decode cX7_meet 25 = .ok (.invokevirtual 196, 3) := by decide +kernel
theorem dX7_meet_28 : decode cX7_meet 28 = .ok (.goto 5, 3) := by decide +kernel
theorem dX7_meet_31 : decode cX7_meet 31 = .ok (.bipush (-101), 2) := by decide +kernel
theorem dX7_meet_33 : decode cX7_meet 33 = .ok (.ireturn, 1) := by decide +kernel
theorem dX7_route_0 : decode cX7_route 0 = .ok (.iload_n 1, 1) := by decide +kernel
theorem dX7_route_1 : decode cX7_route 1 = .ok (.invokestatic 199, 3) := by decide +kernel
theorem dX7_route_4 : decode cX7_route 4 = .ok (.ifCond .eq 10, 3) := by decide +kernel
theorem dX7_route_7 : decode cX7_route 7 = .ok (.iload_n 2, 1) := by decide +kernel
theorem dX7_route_8 : decode cX7_route 8 = .ok (.invokestatic 199, 3) := by decide +kernel
theorem dX7_route_11 : decode cX7_route 11 = .ok (.ifCond .ne 6, 3) := by decide +kernel
theorem dX7_route_14 : decode cX7_route 14 = .ok (.bipush (-101), 2) := by decide +kernel
theorem dX7_route_16 : decode cX7_route 16 = .ok (.ireturn, 1) := by decide +kernel
theorem dX7_route_17 : decode cX7_route 17 = .ok (.iload_n 1, 1) := by decide +kernel
theorem dX7_route_18 : decode cX7_route 18 = .ok (.iload_n 2, 1) := by decide +kernel
theorem dX7_route_19 : decode cX7_route 19 = .ok (.if_icmp .ne 8, 3) := by decide +kernel
theorem dX7_route_22 : decode cX7_route 22 = .ok (.bipush (-103), 2) := by decide +kernel
theorem dX7_route_24 : decode cX7_route 24 = .ok (.goto 20, 3) := by decide +kernel
theorem dX7_route_27 : decode cX7_route 27 = .ok (.aload_n 0, 1) := by decide +kernel
theorem dX7_route_28 : decode cX7_route 28 = .ok (.getfield 47, 3) := by decide +kernel
theorem dX7_route_31 : decode cX7_route 31 = .ok (.getfield 202, 3) := by decide +kernel
theorem dX7_route_34 : decode cX7_route 34 = .ok (.iload_n 1, 1) := by decide +kernel
theorem dX7_route_35 : decode cX7_route 35 = .ok (.bipush 8, 2) := by decide +kernel
theorem dX7_route_37 : decode cX7_route 37 = .ok (.imul, 1) := by decide +kernel
theorem dX7_route_38 : decode cX7_route 38 = .ok (.iload_n 2, 1) := by decide +kernel
theorem dX7_route_39 : decode cX7_route 39 = .ok (.iadd, 1) := by decide +kernel
theorem dX7_route_40 : decode cX7_route 40 = .ok (.iaload, 1) := by decide +kernel
theorem dX7_route_41 : decode cX7_route 41 = .ok (.invokestatic 190, 3) := by decide +kernel
theorem dX7_route_44 : decode cX7_route 44 = .ok (.ireturn, 1) := by decide +kernel
theorem dX7_loss_0 : decode cX7_loss 0 = .ok (.aload_n 0, 1) := by decide +kernel
theorem dX7_loss_1 : decode cX7_loss 1 = .ok (.getfield 19, 3) := by decide +kernel
theorem dX7_loss_4 : decode cX7_loss 4 = .ok (.iload_n 1, 1) := by decide +kernel
theorem dX7_loss_5 : decode cX7_loss 5 = .ok (.invokevirtual 84, 3) := by decide +kernel
theorem dX7_loss_8 : decode cX7_loss 8 = .ok (.ifCond .ne 6, 3) := by decide +kernel
theorem dX7_loss_11 : decode cX7_loss 11 = .ok (.bipush (-101), 2) := by decide +kernel
theorem dX7_loss_13 : decode cX7_loss 13 = .ok (.ireturn, 1) := by decide +kernel
theorem dX7_loss_14 : decode cX7_loss 14 = .ok (.iload_n 2, 1) := by decide +kernel
theorem dX7_loss_15 : decode cX7_loss 15 = .ok (.ifCond .lt 10, 3) := by decide +kernel
theorem dX7_loss_18 : decode cX7_loss 18 = .ok (.iload_n 2, 1) := by decide +kernel
theorem dX7_loss_19 : decode cX7_loss 19 = .ok (.sipush 999, 3) := by decide +kernel
theorem dX7_loss_22 : decode cX7_loss 22 = .ok (.if_icmp .le 6, 3) := by decide +kernel
theorem dX7_loss_25 : decode cX7_loss 25 = .ok (.bipush (-102), 2) := by decide +kernel
theorem dX7_loss_27 : decode cX7_loss 27 = .ok (.ireturn, 1) := by decide +kernel
theorem dX7_loss_28 : decode cX7_loss 28 = .ok (.aload_n 0, 1) := by decide +kernel
theorem dX7_loss_29 : decode cX7_loss 29 = .ok (.getfield 47, 3) := by decide +kernel
theorem dX7_loss_32 : decode cX7_loss 32 = .ok (.aload_n 0, 1) := by decide +kernel
theorem dX7_loss_33 : decode cX7_loss 33 = .ok (.getfield 19, 3) := by decide +kernel
theorem dX7_loss_36 : decode cX7_loss 36 = .ok (.iload_n 1, 1) := by decide +kernel
theorem dX7_loss_37 : decode cX7_loss 37 = .ok (.iload_n 2, 1) := by decide +kernel
theorem dX7_loss_38 : decode cX7_loss 38 = .ok (.invokevirtual 205, 3) := by decide +kernel
theorem dX7_loss_41 : decode cX7_loss 41 = .ok (.ireturn, 1) := by decide +kernel
theorem dX7_all_0 : decode cX7_all 0 = .ok (.iload_n 1, 1) := by decide +kernel
theorem dX7_all_1 : decode cX7_all 1 = .ok (.tableswitch 101 0 5 #[39, 54, 69, 77, 85, 93], 39) := by decide +kernel
theorem dX7_all_40 : decode cX7_all 40 = .ok (.aload_n 0, 1) := by decide +kernel
theorem dX7_all_41 : decode cX7_all 41 = .ok (.getfield 40, 3) := by decide +kernel
theorem dX7_all_44 : decode cX7_all 44 = .ok (.aload_n 0, 1) := by decide +kernel
theorem dX7_all_45 : decode cX7_all 45 = .ok (.getfield 19, 3) := by decide +kernel
theorem dX7_all_48 : decode cX7_all 48 = .ok (.getfield 81, 3) := by decide +kernel
theorem dX7_all_51 : decode cX7_all 51 = .ok (.invokevirtual 209, 3) := by decide +kernel
theorem dX7_all_54 : decode cX7_all 54 = .ok (.ireturn, 1) := by decide +kernel
theorem dX7_all_55 : decode cX7_all 55 = .ok (.aload_n 0, 1) := by decide +kernel
theorem dX7_all_56 : decode cX7_all 56 = .ok (.getfield 40, 3) := by decide +kernel
theorem dX7_all_59 : decode cX7_all 59 = .ok (.aload_n 0, 1) := by decide +kernel
theorem dX7_all_60 : decode cX7_all 60 = .ok (.getfield 19, 3) := by decide +kernel
theorem dX7_all_63 : decode cX7_all 63 = .ok (.getfield 81, 3) := by decide +kernel
theorem dX7_all_66 : decode cX7_all 66 = .ok (.invokevirtual 212, 3) := by decide +kernel
theorem dX7_all_69 : decode cX7_all 69 = .ok (.ireturn, 1) := by decide +kernel
theorem dX7_all_70 : decode cX7_all 70 = .ok (.aload_n 0, 1) := by decide +kernel
theorem dX7_all_71 : decode cX7_all 71 = .ok (.getfield 26, 3) := by decide +kernel
theorem dX7_all_74 : decode cX7_all 74 = .ok (.invokevirtual 215, 3) := by decide +kernel
theorem dX7_all_77 : decode cX7_all 77 = .ok (.ireturn, 1) := by decide +kernel
theorem dX7_all_78 : decode cX7_all 78 = .ok (.aload_n 0, 1) := by decide +kernel
theorem dX7_all_79 : decode cX7_all 79 = .ok (.getfield 26, 3) := by decide +kernel
theorem dX7_all_82 : decode cX7_all 82 = .ok (.invokevirtual 218, 3) := by decide +kernel
theorem dX7_all_85 : decode cX7_all 85 = .ok (.ireturn, 1) := by decide +kernel
theorem dX7_all_86 : decode cX7_all 86 = .ok (.aload_n 0, 1) := by decide +kernel
theorem dX7_all_87 : decode cX7_all 87 = .ok (.getfield 47, 3) := by decide +kernel
theorem dX7_all_90 : decode cX7_all 90 = .ok (.invokevirtual 221, 3) := by decide +kernel
theorem dX7_all_93 : decode cX7_all 93 = .ok (.ireturn, 1) := by decide +kernel
theorem dX7_all_94 : decode cX7_all 94 = .ok (.aload_n 0, 1) := by decide +kernel
theorem dX7_all_95 : decode cX7_all 95 = .ok (.getfield 47, 3) := by decide +kernel
theorem dX7_all_98 : decode cX7_all 98 = .ok (.invokevirtual 224, 3) := by decide +kernel
theorem dX7_all_101 : decode cX7_all 101 = .ok (.ireturn, 1) := by decide +kernel
theorem dX7_all_102 : decode cX7_all 102 = .ok (.bipush (-102), 2) := by decide +kernel
theorem dX7_all_104 : decode cX7_all 104 = .ok (.ireturn, 1) := by decide +kernel
theorem dX7_count_0 : decode cX7_count 0 = .ok (.iload_n 1, 1) := by decide +kernel
theorem dX7_count_1 : decode cX7_count 1 = .ok (.tableswitch 90 0 6 #[43, 51, 59, 67, 75, 80, 85], 43) := by decide +kernel
theorem dX7_count_44 : decode cX7_count 44 = .ok (.aload_n 0, 1) := by decide +kernel
theorem dX7_count_45 : decode cX7_count 45 = .ok (.getfield 19, 3) := by decide +kernel
theorem dX7_count_48 : decode cX7_count 48 = .ok (.getfield 81, 3) := by decide +kernel
theorem dX7_count_51 : decode cX7_count 51 = .ok (.ireturn, 1) := by decide +kernel
theorem dX7_count_52 : decode cX7_count 52 = .ok (.aload_n 0, 1) := by decide +kernel
theorem dX7_count_53 : decode cX7_count 53 = .ok (.getfield 10, 3) := by decide +kernel
theorem dX7_count_56 : decode cX7_count 56 = .ok (.getfield 51, 3) := by decide +kernel
theorem dX7_count_59 : decode cX7_count 59 = .ok (.ireturn, 1) := by decide +kernel
theorem dX7_count_60 : decode cX7_count 60 = .ok (.aload_n 0, 1) := by decide +kernel
theorem dX7_count_61 : decode cX7_count 61 = .ok (.getfield 19, 3) := by decide +kernel
theorem dX7_count_64 : decode cX7_count 64 = .ok (.invokevirtual 227, 3) := by decide +kernel
theorem dX7_count_67 : decode cX7_count 67 = .ok (.ireturn, 1) := by decide +kernel
theorem dX7_count_68 : decode cX7_count 68 = .ok (.aload_n 0, 1) := by decide +kernel
theorem dX7_count_69 : decode cX7_count 69 = .ok (.getfield 19, 3) := by decide +kernel
theorem dX7_count_72 : decode cX7_count 72 = .ok (.invokevirtual 230, 3) := by decide +kernel
theorem dX7_count_75 : decode cX7_count 75 = .ok (.ireturn, 1) := by decide +kernel
theorem dX7_count_76 : decode cX7_count 76 = .ok (.aload_n 0, 1) := by decide +kernel
theorem dX7_count_77 : decode cX7_count 77 = .ok (.getfield 71, 3) := by decide +kernel
theorem dX7_count_80 : decode cX7_count 80 = .ok (.ireturn, 1) := by decide +kernel
theorem dX7_count_81 : decode cX7_count 81 = .ok (.aload_n 0, 1) := by decide +kernel
theorem dX7_count_82 : decode cX7_count 82 = .ok (.getfield 125, 3) := by decide +kernel
theorem dX7_count_85 : decode cX7_count 85 = .ok (.ireturn, 1) := by decide +kernel
theorem dX7_count_86 : decode cX7_count 86 = .ok (.aload_n 0, 1) := by decide +kernel
theorem dX7_count_87 : decode cX7_count 87 = .ok (.getfield 116, 3) := by decide +kernel
theorem dX7_count_90 : decode cX7_count 90 = .ok (.ireturn, 1) := by decide +kernel
theorem dX7_count_91 : decode cX7_count 91 = .ok (.bipush (-102), 2) := by decide +kernel
theorem dX7_count_93 : decode cX7_count 93 = .ok (.ireturn, 1) := by decide +kernel
theorem dX7_digest_0 : decode cX7_digest 0 = .ok (.ldc2_w 233, 3) := by decide +kernel
theorem dX7_digest_3 : decode cX7_digest 3 = .ok (.lstore_n 1, 1) := by decide +kernel
theorem dX7_digest_4 : decode cX7_digest 4 = .ok (.aload_n 0, 1) := by decide +kernel
theorem dX7_digest_5 : decode cX7_digest 5 = .ok (.lload_n 1, 1) := by decide +kernel
theorem dX7_digest_6 : decode cX7_digest 6 = .ok (.invokevirtual 235, 3) := by decide +kernel
theorem dX7_digest_9 : decode cX7_digest 9 = .ok (.lstore_n 1, 1) := by decide +kernel
theorem dX7_digest_10 : decode cX7_digest 10 = .ok (.aload_n 0, 1) := by decide +kernel
theorem dX7_digest_11 : decode cX7_digest 11 = .ok (.lload_n 1, 1) := by decide +kernel
theorem dX7_digest_12 : decode cX7_digest 12 = .ok (.invokevirtual 239, 3) := by decide +kernel
theorem dX7_digest_15 : decode cX7_digest 15 = .ok (.lstore_n 1, 1) := by decide +kernel
theorem dX7_digest_16 : decode cX7_digest 16 = .ok (.aload_n 0, 1) := by decide +kernel
theorem dX7_digest_17 : decode cX7_digest 17 = .ok (.lload_n 1, 1) := by decide +kernel
theorem dX7_digest_18 : decode cX7_digest 18 = .ok (.invokevirtual 242, 3) := by decide +kernel
theorem dX7_digest_21 : decode cX7_digest 21 = .ok (.lstore_n 1, 1) := by decide +kernel
theorem dX7_digest_22 : decode cX7_digest 22 = .ok (.aload_n 0, 1) := by decide +kernel
theorem dX7_digest_23 : decode cX7_digest 23 = .ok (.lload_n 1, 1) := by decide +kernel
theorem dX7_digest_24 : decode cX7_digest 24 = .ok (.invokevirtual 245, 3) := by decide +kernel
theorem dX7_digest_27 : decode cX7_digest 27 = .ok (.lreturn, 1) := by decide +kernel
theorem dX7_digestOfRoads_0 : decode cX7_digestOfRoads 0 = .ok (.iconst 0, 1) := by decide +kernel
theorem dX7_digestOfRoads_1 : decode cX7_digestOfRoads 1 = .ok (.istore_n 3, 1) := by decide +kernel
theorem dX7_digestOfRoads_2 : decode cX7_digestOfRoads 2 = .ok (.iload_n 3, 1) := by decide +kernel
theorem dX7_digestOfRoads_3 : decode cX7_digestOfRoads 3 = .ok (.aload_n 0, 1) := by decide +kernel
theorem dX7_digestOfRoads_4 : decode cX7_digestOfRoads 4 = .ok (.getfield 19, 3) := by decide +kernel
theorem dX7_digestOfRoads_7 : decode cX7_digestOfRoads 7 = .ok (.getfield 81, 3) := by decide +kernel
theorem dX7_digestOfRoads_10 : decode cX7_digestOfRoads 10 = .ok (.if_icmp .ge 37, 3) := by decide +kernel
theorem dX7_digestOfRoads_13 : decode cX7_digestOfRoads 13 = .ok (.iconst 0, 1) := by decide +kernel
theorem dX7_digestOfRoads_14 : decode cX7_digestOfRoads 14 = .ok (.istore 4, 2) := by decide +kernel
theorem dX7_digestOfRoads_16 : decode cX7_digestOfRoads 16 = .ok (.iload 4, 2) := by decide +kernel
theorem dX7_digestOfRoads_18 : decode cX7_digestOfRoads 18 = .ok (.iconst 5, 1) := by decide +kernel
theorem dX7_digestOfRoads_19 : decode cX7_digestOfRoads 19 = .ok (.if_icmp .gt 22, 3) := by decide +kernel
theorem dX7_digestOfRoads_22 : decode cX7_digestOfRoads 22 = .ok (.lload_n 1, 1) := by decide +kernel
theorem dX7_digestOfRoads_23 : decode cX7_digestOfRoads 23 = .ok (.aload_n 0, 1) := by decide +kernel
theorem dX7_digestOfRoads_24 : decode cX7_digestOfRoads 24 = .ok (.iload_n 3, 1) := by decide +kernel
theorem dX7_digestOfRoads_25 : decode cX7_digestOfRoads 25 = .ok (.iload 4, 2) := by decide +kernel
theorem dX7_digestOfRoads_27 : decode cX7_digestOfRoads 27 = .ok (.invokevirtual 248, 3) := by decide +kernel
theorem dX7_digestOfRoads_30 : decode cX7_digestOfRoads 30 = .ok (.i2l, 1) := by decide +kernel
theorem dX7_digestOfRoads_31 : decode cX7_digestOfRoads 31 = .ok (.invokestatic 251, 3) := by decide +kernel
theorem dX7_digestOfRoads_34 : decode cX7_digestOfRoads 34 = .ok (.lstore_n 1, 1) := by decide +kernel
theorem dX7_digestOfRoads_35 : decode cX7_digestOfRoads 35 = .ok (.iinc 4 1, 3) := by decide +kernel
theorem dX7_digestOfRoads_38 : decode cX7_digestOfRoads 38 = .ok (.goto (-22), 3) := by decide +kernel
theorem dX7_digestOfRoads_41 : decode cX7_digestOfRoads 41 = .ok (.iinc 3 1, 3) := by decide +kernel
theorem dX7_digestOfRoads_44 : decode cX7_digestOfRoads 44 = .ok (.goto (-42), 3) := by decide +kernel
theorem dX7_digestOfRoads_47 : decode cX7_digestOfRoads 47 = .ok (.lload_n 1, 1) := by decide +kernel
theorem dX7_digestOfRoads_48 : decode cX7_digestOfRoads 48 = .ok (.lreturn, 1) := by decide +kernel
theorem dX7_digestOfPairs_0 : decode cX7_digestOfPairs 0 = .ok (.iconst 0, 1) := by decide +kernel
theorem dX7_digestOfPairs_1 : decode cX7_digestOfPairs 1 = .ok (.istore_n 3, 1) := by decide +kernel
theorem dX7_digestOfPairs_2 : decode cX7_digestOfPairs 2 = .ok (.iload_n 3, 1) := by decide +kernel
theorem dX7_digestOfPairs_3 : decode cX7_digestOfPairs 3 = .ok (.aload_n 0, 1) := by decide +kernel
theorem dX7_digestOfPairs_4 : decode cX7_digestOfPairs 4 = .ok (.getfield 19, 3) := by decide +kernel
theorem dX7_digestOfPairs_7 : decode cX7_digestOfPairs 7 = .ok (.getfield 81, 3) := by decide +kernel
theorem dX7_digestOfPairs_10 : decode cX7_digestOfPairs 10 = .ok (.if_icmp .ge 112, 3) := by decide +kernel
theorem dX7_digestOfPairs_13 : decode cX7_digestOfPairs 13 = .ok (.iconst 0, 1) := by decide +kernel
theorem dX7_digestOfPairs_14 : decode cX7_digestOfPairs 14 = .ok (.istore 4, 2) := by decide +kernel
theorem dX7_digestOfPairs_16 : decode cX7_digestOfPairs 16 = .ok (.iload 4, 2) := by decide +kernel
theorem dX7_digestOfPairs_18 : decode cX7_digestOfPairs 18 = .ok (.aload_n 0, 1) := by decide +kernel
theorem dX7_digestOfPairs_19 : decode cX7_digestOfPairs 19 = .ok (.getfield 19, 3) := by decide +kernel
theorem dX7_digestOfPairs_22 : decode cX7_digestOfPairs 22 = .ok (.getfield 81, 3) := by decide +kernel
theorem dX7_digestOfPairs_25 : decode cX7_digestOfPairs 25 = .ok (.if_icmp .ge 91, 3) := by decide +kernel
theorem dX7_digestOfPairs_28 : decode cX7_digestOfPairs 28 = .ok (.lload_n 1, 1) := by decide +kernel
theorem dX7_digestOfPairs_29 : decode cX7_digestOfPairs 29 = .ok (.aload_n 0, 1) := by decide +kernel
theorem dX7_digestOfPairs_30 : decode cX7_digestOfPairs 30 = .ok (.iload_n 3, 1) := by decide +kernel
theorem dX7_digestOfPairs_31 : decode cX7_digestOfPairs 31 = .ok (.iload 4, 2) := by decide +kernel
theorem dX7_digestOfPairs_33 : decode cX7_digestOfPairs 33 = .ok (.invokevirtual 255, 3) := by decide +kernel
theorem dX7_digestOfPairs_36 : decode cX7_digestOfPairs 36 = .ok (.i2l, 1) := by decide +kernel
theorem dX7_digestOfPairs_37 : decode cX7_digestOfPairs 37 = .ok (.invokestatic 251, 3) := by decide +kernel
theorem dX7_digestOfPairs_40 : decode cX7_digestOfPairs 40 = .ok (.lstore_n 1, 1) := by decide +kernel
theorem dX7_digestOfPairs_41 : decode cX7_digestOfPairs 41 = .ok (.lload_n 1, 1) := by decide +kernel
theorem dX7_digestOfPairs_42 : decode cX7_digestOfPairs 42 = .ok (.aload_n 0, 1) := by decide +kernel
theorem dX7_digestOfPairs_43 : decode cX7_digestOfPairs 43 = .ok (.iload_n 3, 1) := by decide +kernel
theorem dX7_digestOfPairs_44 : decode cX7_digestOfPairs 44 = .ok (.iload 4, 2) := by decide +kernel
theorem dX7_digestOfPairs_46 : decode cX7_digestOfPairs 46 = .ok (.invokevirtual 258, 3) := by decide +kernel
theorem dX7_digestOfPairs_49 : decode cX7_digestOfPairs 49 = .ok (.i2l, 1) := by decide +kernel
theorem dX7_digestOfPairs_50 : decode cX7_digestOfPairs 50 = .ok (.invokestatic 251, 3) := by decide +kernel
theorem dX7_digestOfPairs_53 : decode cX7_digestOfPairs 53 = .ok (.lstore_n 1, 1) := by decide +kernel
theorem dX7_digestOfPairs_54 : decode cX7_digestOfPairs 54 = .ok (.lload_n 1, 1) := by decide +kernel
theorem dX7_digestOfPairs_55 : decode cX7_digestOfPairs 55 = .ok (.aload_n 0, 1) := by decide +kernel
theorem dX7_digestOfPairs_56 : decode cX7_digestOfPairs 56 = .ok (.iload_n 3, 1) := by decide +kernel
theorem dX7_digestOfPairs_57 : decode cX7_digestOfPairs 57 = .ok (.iload 4, 2) := by decide +kernel
theorem dX7_digestOfPairs_59 : decode cX7_digestOfPairs 59 = .ok (.invokevirtual 261, 3) := by decide +kernel
theorem dX7_digestOfPairs_62 : decode cX7_digestOfPairs 62 = .ok (.i2l, 1) := by decide +kernel
theorem dX7_digestOfPairs_63 : decode cX7_digestOfPairs 63 = .ok (.invokestatic 251, 3) := by decide +kernel
theorem dX7_digestOfPairs_66 : decode cX7_digestOfPairs 66 = .ok (.lstore_n 1, 1) := by decide +kernel
theorem dX7_digestOfPairs_67 : decode cX7_digestOfPairs 67 = .ok (.lload_n 1, 1) := by decide +kernel
theorem dX7_digestOfPairs_68 : decode cX7_digestOfPairs 68 = .ok (.aload_n 0, 1) := by decide +kernel
theorem dX7_digestOfPairs_69 : decode cX7_digestOfPairs 69 = .ok (.iload_n 3, 1) := by decide +kernel
theorem dX7_digestOfPairs_70 : decode cX7_digestOfPairs 70 = .ok (.iload 4, 2) := by decide +kernel
theorem dX7_digestOfPairs_72 : decode cX7_digestOfPairs 72 = .ok (.invokevirtual 264, 3) := by decide +kernel
theorem dX7_digestOfPairs_75 : decode cX7_digestOfPairs 75 = .ok (.i2l, 1) := by decide +kernel
theorem dX7_digestOfPairs_76 : decode cX7_digestOfPairs 76 = .ok (.invokestatic 251, 3) := by decide +kernel
theorem dX7_digestOfPairs_79 : decode cX7_digestOfPairs 79 = .ok (.lstore_n 1, 1) := by decide +kernel
theorem dX7_digestOfPairs_80 : decode cX7_digestOfPairs 80 = .ok (.iconst 0, 1) := by decide +kernel
theorem dX7_digestOfPairs_81 : decode cX7_digestOfPairs 81 = .ok (.istore 5, 2) := by decide +kernel
theorem dX7_digestOfPairs_83 : decode cX7_digestOfPairs 83 = .ok (.iload 5, 2) := by decide +kernel
theorem dX7_digestOfPairs_85 : decode cX7_digestOfPairs 85 = .ok (.iconst 3, 1) := by decide +kernel
theorem dX7_digestOfPairs_86 : decode cX7_digestOfPairs 86 = .ok (.if_icmp .gt 24, 3) := by decide +kernel
theorem dX7_digestOfPairs_89 : decode cX7_digestOfPairs 89 = .ok (.lload_n 1, 1) := by decide +kernel
theorem dX7_digestOfPairs_90 : decode cX7_digestOfPairs 90 = .ok (.aload_n 0, 1) := by decide +kernel
theorem dX7_digestOfPairs_91 : decode cX7_digestOfPairs 91 = .ok (.iload_n 3, 1) := by decide +kernel
theorem dX7_digestOfPairs_92 : decode cX7_digestOfPairs 92 = .ok (.iload 4, 2) := by decide +kernel
theorem dX7_digestOfPairs_94 : decode cX7_digestOfPairs 94 = .ok (.iload 5, 2) := by decide +kernel
theorem dX7_digestOfPairs_96 : decode cX7_digestOfPairs 96 = .ok (.invokevirtual 267, 3) := by decide +kernel
theorem dX7_digestOfPairs_99 : decode cX7_digestOfPairs 99 = .ok (.i2l, 1) := by decide +kernel
theorem dX7_digestOfPairs_100 : decode cX7_digestOfPairs 100 = .ok (.invokestatic 251, 3) := by decide +kernel
theorem dX7_digestOfPairs_103 : decode cX7_digestOfPairs 103 = .ok (.lstore_n 1, 1) := by decide +kernel
theorem dX7_digestOfPairs_104 : decode cX7_digestOfPairs 104 = .ok (.iinc 5 1, 3) := by decide +kernel
theorem dX7_digestOfPairs_107 : decode cX7_digestOfPairs 107 = .ok (.goto (-24), 3) := by decide +kernel
theorem dX7_digestOfPairs_110 : decode cX7_digestOfPairs 110 = .ok (.iinc 4 1, 3) := by decide +kernel
theorem dX7_digestOfPairs_113 : decode cX7_digestOfPairs 113 = .ok (.goto (-97), 3) := by decide +kernel
theorem dX7_digestOfPairs_116 : decode cX7_digestOfPairs 116 = .ok (.iinc 3 1, 3) := by decide +kernel
theorem dX7_digestOfPairs_119 : decode cX7_digestOfPairs 119 = .ok (.goto (-117), 3) := by decide +kernel
theorem dX7_digestOfPairs_122 : decode cX7_digestOfPairs 122 = .ok (.lload_n 1, 1) := by decide +kernel
theorem dX7_digestOfPairs_123 : decode cX7_digestOfPairs 123 = .ok (.lreturn, 1) := by decide +kernel
theorem dX7_digestOfPlaces_0 : decode cX7_digestOfPlaces 0 = .ok (.iconst 0, 1) := by decide +kernel
theorem dX7_digestOfPlaces_1 : decode cX7_digestOfPlaces 1 = .ok (.istore_n 3, 1) := by decide +kernel
theorem dX7_digestOfPlaces_2 : decode cX7_digestOfPlaces 2 = .ok (.iload_n 3, 1) := by decide +kernel
theorem dX7_digestOfPlaces_3 : decode cX7_digestOfPlaces 3 = .ok (.bipush 8, 2) := by decide +kernel
theorem dX7_digestOfPlaces_5 : decode cX7_digestOfPlaces 5 = .ok (.if_icmp .ge 44, 3) := by decide +kernel
theorem dX7_digestOfPlaces_8 : decode cX7_digestOfPlaces 8 = .ok (.iconst 0, 1) := by decide +kernel
theorem dX7_digestOfPlaces_9 : decode cX7_digestOfPlaces 9 = .ok (.istore 4, 2) := by decide +kernel
theorem dX7_digestOfPlaces_11 : decode cX7_digestOfPlaces 11 = .ok (.iload 4, 2) := by decide +kernel
theorem dX7_digestOfPlaces_13 : decode cX7_digestOfPlaces 13 = .ok (.bipush 8, 2) := by decide +kernel
theorem dX7_digestOfPlaces_15 : decode cX7_digestOfPlaces 15 = .ok (.if_icmp .ge 28, 3) := by decide +kernel
theorem dX7_digestOfPlaces_18 : decode cX7_digestOfPlaces 18 = .ok (.iload_n 3, 1) := by decide +kernel
theorem dX7_digestOfPlaces_19 : decode cX7_digestOfPlaces 19 = .ok (.iload 4, 2) := by decide +kernel
theorem dX7_digestOfPlaces_21 : decode cX7_digestOfPlaces 21 = .ok (.if_icmp .eq 16, 3) := by decide +kernel
theorem dX7_digestOfPlaces_24 : decode cX7_digestOfPlaces 24 = .ok (.lload_n 1, 1) := by decide +kernel
theorem dX7_digestOfPlaces_25 : decode cX7_digestOfPlaces 25 = .ok (.aload_n 0, 1) := by decide +kernel
theorem dX7_digestOfPlaces_26 : decode cX7_digestOfPlaces 26 = .ok (.iload_n 3, 1) := by decide +kernel
theorem dX7_digestOfPlaces_27 : decode cX7_digestOfPlaces 27 = .ok (.iload 4, 2) := by decide +kernel
theorem dX7_digestOfPlaces_29 : decode cX7_digestOfPlaces 29 = .ok (.invokevirtual 270, 3) := by decide +kernel
theorem dX7_digestOfPlaces_32 : decode cX7_digestOfPlaces 32 = .ok (.i2l, 1) := by decide +kernel
theorem dX7_digestOfPlaces_33 : decode cX7_digestOfPlaces 33 = .ok (.invokestatic 251, 3) := by decide +kernel
theorem dX7_digestOfPlaces_36 : decode cX7_digestOfPlaces 36 = .ok (.lstore_n 1, 1) := by decide +kernel
theorem dX7_digestOfPlaces_37 : decode cX7_digestOfPlaces 37 = .ok (.iinc 4 1, 3) := by decide +kernel
theorem dX7_digestOfPlaces_40 : decode cX7_digestOfPlaces 40 = .ok (.goto (-29), 3) := by decide +kernel
theorem dX7_digestOfPlaces_43 : decode cX7_digestOfPlaces 43 = .ok (.iinc 3 1, 3) := by decide +kernel
theorem dX7_digestOfPlaces_46 : decode cX7_digestOfPlaces 46 = .ok (.goto (-44), 3) := by decide +kernel
theorem dX7_digestOfPlaces_49 : decode cX7_digestOfPlaces 49 = .ok (.iconst 0, 1) := by decide +kernel
theorem dX7_digestOfPlaces_50 : decode cX7_digestOfPlaces 50 = .ok (.istore_n 3, 1) := by decide +kernel
theorem dX7_digestOfPlaces_51 : decode cX7_digestOfPlaces 51 = .ok (.iload_n 3, 1) := by decide +kernel
theorem dX7_digestOfPlaces_52 : decode cX7_digestOfPlaces 52 = .ok (.aload_n 0, 1) := by decide +kernel
theorem dX7_digestOfPlaces_53 : decode cX7_digestOfPlaces 53 = .ok (.getfield 19, 3) := by decide +kernel
theorem dX7_digestOfPlaces_56 : decode cX7_digestOfPlaces 56 = .ok (.getfield 81, 3) := by decide +kernel
theorem dX7_digestOfPlaces_59 : decode cX7_digestOfPlaces 59 = .ok (.if_icmp .ge 22, 3) := by decide +kernel
theorem dX7_digestOfPlaces_62 : decode cX7_digestOfPlaces 62 = .ok (.lload_n 1, 1) := by decide +kernel
theorem dX7_digestOfPlaces_63 : decode cX7_digestOfPlaces 63 = .ok (.aload_n 0, 1) := by decide +kernel
theorem dX7_digestOfPlaces_64 : decode cX7_digestOfPlaces 64 = .ok (.iload_n 3, 1) := by decide +kernel
theorem dX7_digestOfPlaces_65 : decode cX7_digestOfPlaces 65 = .ok (.bipush 100, 2) := by decide +kernel
theorem dX7_digestOfPlaces_67 : decode cX7_digestOfPlaces 67 = .ok (.invokevirtual 273, 3) := by decide +kernel
theorem dX7_digestOfPlaces_70 : decode cX7_digestOfPlaces 70 = .ok (.i2l, 1) := by decide +kernel
theorem dX7_digestOfPlaces_71 : decode cX7_digestOfPlaces 71 = .ok (.invokestatic 251, 3) := by decide +kernel
theorem dX7_digestOfPlaces_74 : decode cX7_digestOfPlaces 74 = .ok (.lstore_n 1, 1) := by decide +kernel
theorem dX7_digestOfPlaces_75 : decode cX7_digestOfPlaces 75 = .ok (.iinc 3 1, 3) := by decide +kernel
theorem dX7_digestOfPlaces_78 : decode cX7_digestOfPlaces 78 = .ok (.goto (-27), 3) := by decide +kernel
theorem dX7_digestOfPlaces_81 : decode cX7_digestOfPlaces 81 = .ok (.lload_n 1, 1) := by decide +kernel
theorem dX7_digestOfPlaces_82 : decode cX7_digestOfPlaces 82 = .ok (.lreturn, 1) := by decide +kernel
theorem dX7_digestOfCounts_0 : decode cX7_digestOfCounts 0 = .ok (.iconst 0, 1) := by decide +kernel
theorem dX7_digestOfCounts_1 : decode cX7_digestOfCounts 1 = .ok (.istore_n 3, 1) := by decide +kernel
theorem dX7_digestOfCounts_2 : decode cX7_digestOfCounts 2 = .ok (.iload_n 3, 1) := by decide +kernel
theorem dX7_digestOfCounts_3 : decode cX7_digestOfCounts 3 = .ok (.iconst 5, 1) := by decide +kernel
theorem dX7_digestOfCounts_4 : decode cX7_digestOfCounts 4 = .ok (.if_icmp .gt 20, 3) := by decide +kernel
theorem dX7_digestOfCounts_7 : decode cX7_digestOfCounts 7 = .ok (.lload_n 1, 1) := by decide +kernel
theorem dX7_digestOfCounts_8 : decode cX7_digestOfCounts 8 = .ok (.aload_n 0, 1) := by decide +kernel
theorem dX7_digestOfCounts_9 : decode cX7_digestOfCounts 9 = .ok (.iload_n 3, 1) := by decide +kernel
theorem dX7_digestOfCounts_10 : decode cX7_digestOfCounts 10 = .ok (.invokevirtual 276, 3) := by decide +kernel
theorem dX7_digestOfCounts_13 : decode cX7_digestOfCounts 13 = .ok (.i2l, 1) := by decide +kernel
theorem dX7_digestOfCounts_14 : decode cX7_digestOfCounts 14 = .ok (.invokestatic 251, 3) := by decide +kernel
theorem dX7_digestOfCounts_17 : decode cX7_digestOfCounts 17 = .ok (.lstore_n 1, 1) := by decide +kernel
theorem dX7_digestOfCounts_18 : decode cX7_digestOfCounts 18 = .ok (.iinc 3 1, 3) := by decide +kernel
theorem dX7_digestOfCounts_21 : decode cX7_digestOfCounts 21 = .ok (.goto (-19), 3) := by decide +kernel
theorem dX7_digestOfCounts_24 : decode cX7_digestOfCounts 24 = .ok (.iconst 0, 1) := by decide +kernel
theorem dX7_digestOfCounts_25 : decode cX7_digestOfCounts 25 = .ok (.istore_n 3, 1) := by decide +kernel
theorem dX7_digestOfCounts_26 : decode cX7_digestOfCounts 26 = .ok (.iload_n 3, 1) := by decide +kernel
theorem dX7_digestOfCounts_27 : decode cX7_digestOfCounts 27 = .ok (.aload_n 0, 1) := by decide +kernel
theorem dX7_digestOfCounts_28 : decode cX7_digestOfCounts 28 = .ok (.getfield 10, 3) := by decide +kernel
theorem dX7_digestOfCounts_31 : decode cX7_digestOfCounts 31 = .ok (.getfield 51, 3) := by decide +kernel
theorem dX7_digestOfCounts_34 : decode cX7_digestOfCounts 34 = .ok (.if_icmp .ge 24, 3) := by decide +kernel
theorem dX7_digestOfCounts_37 : decode cX7_digestOfCounts 37 = .ok (.lload_n 1, 1) := by decide +kernel
theorem dX7_digestOfCounts_38 : decode cX7_digestOfCounts 38 = .ok (.aload_n 0, 1) := by decide +kernel
theorem dX7_digestOfCounts_39 : decode cX7_digestOfCounts 39 = .ok (.getfield 10, 3) := by decide +kernel
theorem dX7_digestOfCounts_42 : decode cX7_digestOfCounts 42 = .ok (.getfield 279, 3) := by decide +kernel
theorem dX7_digestOfCounts_45 : decode cX7_digestOfCounts 45 = .ok (.iload_n 3, 1) := by decide +kernel
theorem dX7_digestOfCounts_46 : decode cX7_digestOfCounts 46 = .ok (.iaload, 1) := by decide +kernel
theorem dX7_digestOfCounts_47 : decode cX7_digestOfCounts 47 = .ok (.i2l, 1) := by decide +kernel
theorem dX7_digestOfCounts_48 : decode cX7_digestOfCounts 48 = .ok (.invokestatic 251, 3) := by decide +kernel
theorem dX7_digestOfCounts_51 : decode cX7_digestOfCounts 51 = .ok (.lstore_n 1, 1) := by decide +kernel
theorem dX7_digestOfCounts_52 : decode cX7_digestOfCounts 52 = .ok (.iinc 3 1, 3) := by decide +kernel
theorem dX7_digestOfCounts_55 : decode cX7_digestOfCounts 55 = .ok (.goto (-29), 3) := by decide +kernel
theorem dX7_digestOfCounts_58 : decode cX7_digestOfCounts 58 = .ok (.iconst 0, 1) := by decide +kernel
theorem dX7_digestOfCounts_59 : decode cX7_digestOfCounts 59 = .ok (.istore_n 3, 1) := by decide +kernel
theorem dX7_digestOfCounts_60 : decode cX7_digestOfCounts 60 = .ok (.iload_n 3, 1) := by decide +kernel
theorem dX7_digestOfCounts_61 : decode cX7_digestOfCounts 61 = .ok (.bipush 6, 2) := by decide +kernel
theorem dX7_digestOfCounts_63 : decode cX7_digestOfCounts 63 = .ok (.if_icmp .gt 20, 3) := by decide +kernel
theorem dX7_digestOfCounts_66 : decode cX7_digestOfCounts 66 = .ok (.lload_n 1, 1) := by decide +kernel
theorem dX7_digestOfCounts_67 : decode cX7_digestOfCounts 67 = .ok (.aload_n 0, 1) := by decide +kernel
theorem dX7_digestOfCounts_68 : decode cX7_digestOfCounts 68 = .ok (.iload_n 3, 1) := by decide +kernel
theorem dX7_digestOfCounts_69 : decode cX7_digestOfCounts 69 = .ok (.invokevirtual 282, 3) := by decide +kernel
theorem dX7_digestOfCounts_72 : decode cX7_digestOfCounts 72 = .ok (.i2l, 1) := by decide +kernel
theorem dX7_digestOfCounts_73 : decode cX7_digestOfCounts 73 = .ok (.invokestatic 251, 3) := by decide +kernel
theorem dX7_digestOfCounts_76 : decode cX7_digestOfCounts 76 = .ok (.lstore_n 1, 1) := by decide +kernel
theorem dX7_digestOfCounts_77 : decode cX7_digestOfCounts 77 = .ok (.iinc 3 1, 3) := by decide +kernel
theorem dX7_digestOfCounts_80 : decode cX7_digestOfCounts 80 = .ok (.goto (-20), 3) := by decide +kernel
theorem dX7_digestOfCounts_83 : decode cX7_digestOfCounts 83 = .ok (.lload_n 1, 1) := by decide +kernel
theorem dX7_digestOfCounts_84 : decode cX7_digestOfCounts 84 = .ok (.lreturn, 1) := by decide +kernel
theorem dX7_mix_0 : decode cX7_mix 0 = .ok (.ldc2_w 285, 3) := by decide +kernel
theorem dX7_mix_3 : decode cX7_mix 3 = .ok (.lload_n 0, 1) := by decide +kernel
theorem dX7_mix_4 : decode cX7_mix 4 = .ok (.lmul, 1) := by decide +kernel
theorem dX7_mix_5 : decode cX7_mix 5 = .ok (.lload_n 2, 1) := by decide +kernel
theorem dX7_mix_6 : decode cX7_mix 6 = .ok (.ladd, 1) := by decide +kernel
theorem dX7_mix_7 : decode cX7_mix 7 = .ok (.lreturn, 1) := by decide +kernel
theorem dX7_isPlace_0 : decode cX7_isPlace 0 = .ok (.iload_n 0, 1) := by decide +kernel
theorem dX7_isPlace_1 : decode cX7_isPlace 1 = .ok (.ifCond .lt 13, 3) := by decide +kernel
theorem dX7_isPlace_4 : decode cX7_isPlace 4 = .ok (.iload_n 0, 1) := by decide +kernel
theorem dX7_isPlace_5 : decode cX7_isPlace 5 = .ok (.bipush 8, 2) := by decide +kernel
theorem dX7_isPlace_7 : decode cX7_isPlace 7 = .ok (.if_icmp .ge 7, 3) := by decide +kernel
theorem dX7_isPlace_10 : decode cX7_isPlace 10 = .ok (.iconst 1, 1) := by decide +kernel
theorem dX7_isPlace_11 : decode cX7_isPlace 11 = .ok (.goto 4, 3) := by decide +kernel
theorem dX7_isPlace_14 : decode cX7_isPlace 14 = .ok (.iconst 0, 1) := by decide +kernel
theorem dX7_isPlace_15 : decode cX7_isPlace 15 = .ok (.ireturn, 1) := by decide +kernel
theorem dX7_orNone_0 : decode cX7_orNone 0 = .ok (.iload_n 0, 1) := by decide +kernel
theorem dX7_orNone_1 : decode cX7_orNone 1 = .ok (.ldc_w 287, 3) := by decide +kernel
theorem dX7_orNone_4 : decode cX7_orNone 4 = .ok (.if_icmp .lt 7, 3) := by decide +kernel
theorem dX7_orNone_7 : decode cX7_orNone 7 = .ok (.iconst (-1), 1) := by decide +kernel
theorem dX7_orNone_8 : decode cX7_orNone 8 = .ok (.goto 4, 3) := by decide +kernel
theorem dX7_orNone_11 : decode cX7_orNone 11 = .ok (.iload_n 0, 1) := by decide +kernel
theorem dX7_orNone_12 : decode cX7_orNone 12 = .ok (.ireturn, 1) := by decide +kernel
theorem dJ9_min_7cf53_0 : decode cJ9_min_7cf53 0 = .ok (.iload_n 0, 1) := by decide +kernel
theorem dJ9_min_7cf53_1 : decode cJ9_min_7cf53 1 = .ok (.iload_n 1, 1) := by decide +kernel
theorem dJ9_min_7cf53_2 : decode cJ9_min_7cf53 2 = .ok (.if_icmp .gt 7, 3) := by decide +kernel
theorem dJ9_min_7cf53_5 : decode cJ9_min_7cf53 5 = .ok (.iload_n 0, 1) := by decide +kernel
theorem dJ9_min_7cf53_6 : decode cJ9_min_7cf53 6 = .ok (.goto 4, 3) := by decide +kernel
theorem dJ9_min_7cf53_9 : decode cJ9_min_7cf53 9 = .ok (.iload_n 1, 1) := by decide +kernel
theorem dJ9_min_7cf53_10 : decode cJ9_min_7cf53 10 = .ok (.ireturn, 1) := by decide +kernel
theorem dJ7_fill_53178_0 : decode cJ7_fill_53178 0 = .ok (.iconst 0, 1) := by decide +kernel
theorem dJ7_fill_53178_1 : decode cJ7_fill_53178 1 = .ok (.istore_n 2, 1) := by decide +kernel
theorem dJ7_fill_53178_2 : decode cJ7_fill_53178 2 = .ok (.aload_n 0, 1) := by decide +kernel
theorem dJ7_fill_53178_3 : decode cJ7_fill_53178 3 = .ok (.arraylength, 1) := by decide +kernel
theorem dJ7_fill_53178_4 : decode cJ7_fill_53178 4 = .ok (.istore_n 3, 1) := by decide +kernel
theorem dJ7_fill_53178_5 : decode cJ7_fill_53178 5 = .ok (.iload_n 2, 1) := by decide +kernel
theorem dJ7_fill_53178_6 : decode cJ7_fill_53178 6 = .ok (.iload_n 3, 1) := by decide +kernel
theorem dJ7_fill_53178_7 : decode cJ7_fill_53178 7 = .ok (.if_icmp .ge 13, 3) := by decide +kernel
theorem dJ7_fill_53178_10 : decode cJ7_fill_53178 10 = .ok (.aload_n 0, 1) := by decide +kernel
theorem dJ7_fill_53178_11 : decode cJ7_fill_53178 11 = .ok (.iload_n 2, 1) := by decide +kernel
theorem dJ7_fill_53178_12 : decode cJ7_fill_53178 12 = .ok (.iload_n 1, 1) := by decide +kernel
theorem dJ7_fill_53178_13 : decode cJ7_fill_53178 13 = .ok (.iastore, 1) := by decide +kernel
theorem dJ7_fill_53178_14 : decode cJ7_fill_53178 14 = .ok (.iinc 2 1, 3) := by decide +kernel
theorem dJ7_fill_53178_17 : decode cJ7_fill_53178 17 = .ok (.goto (-12), 3) := by decide +kernel
theorem dJ7_fill_53178_20 : decode cJ7_fill_53178 20 = .ok (.return_, 1) := by decide +kernel
end
section
theorem dX8_init_0 : decode cX8_init 0 = .ok (.aload_n 0, 1) := by decide +kernel
theorem dX8_init_1 : decode cX8_init 1 = .ok (.invokespecial 1, 3) := by decide +kernel
theorem dX8_init_4 : decode cX8_init 4 = .ok (.aload_n 0, 1) := by decide +kernel
theorem dX8_init_5 : decode cX8_init 5 = .ok (.bipush 60, 2) := by decide +kernel
theorem dX8_init_7 : decode cX8_init 7 = .ok (.newarray .int, 2) := by decide +kernel
theorem dX8_init_9 : decode cX8_init 9 = .ok (.putfield 7, 3) := by decide +kernel
theorem dX8_init_12 : decode cX8_init 12 = .ok (.aload_n 0, 1) := by decide +kernel
theorem dX8_init_13 : decode cX8_init 13 = .ok (.bipush 12, 2) := by decide +kernel
theorem dX8_init_15 : decode cX8_init 15 = .ok (.newarray .int, 2) := by decide +kernel
theorem dX8_init_17 : decode cX8_init 17 = .ok (.putfield 13, 3) := by decide +kernel
theorem dX8_init_20 : decode cX8_init 20 = .ok (.aload_n 0, 1) := by decide +kernel
theorem dX8_init_21 : decode cX8_init 21 = .ok (.bipush 12, 2) := by decide +kernel
theorem dX8_init_23 : decode cX8_init 23 = .ok (.newarray .int, 2) := by decide +kernel
theorem dX8_init_25 : decode cX8_init 25 = .ok (.putfield 16, 3) := by decide +kernel
theorem dX8_init_28 : decode cX8_init 28 = .ok (.aload_n 0, 1) := by decide +kernel
theorem dX8_init_29 : decode cX8_init 29 = .ok (.bipush 12, 2) := by decide +kernel
theorem dX8_init_31 : decode cX8_init 31 = .ok (.newarray .int, 2) := by decide +kernel
theorem dX8_init_33 : decode cX8_init 33 = .ok (.putfield 19, 3) := by decide +kernel
theorem dX8_init_36 : decode cX8_init 36 = .ok (.aload_n 0, 1) := by decide +kernel
theorem dX8_init_37 : decode cX8_init 37 = .ok (.sipush 144, 3) := by decide +kernel
theorem dX8_init_40 : decode cX8_init 40 = .ok (.newarray .int, 2) := by decide +kernel
theorem dX8_init_42 : decode cX8_init 42 = .ok (.putfield 22, 3) := by decide +kernel
theorem dX8_init_45 : decode cX8_init 45 = .ok (.aload_n 0, 1) := by decide +kernel
theorem dX8_init_46 : decode cX8_init 46 = .ok (.bipush 12, 2) := by decide +kernel
theorem dX8_init_48 : decode cX8_init 48 = .ok (.newarray .int, 2) := by decide +kernel
theorem dX8_init_50 : decode cX8_init 50 = .ok (.putfield 25, 3) := by decide +kernel
theorem dX8_init_53 : decode cX8_init 53 = .ok (.aload_n 0, 1) := by decide +kernel
theorem dX8_init_54 : decode cX8_init 54 = .ok (.bipush 12, 2) := by decide +kernel
theorem dX8_init_56 : decode cX8_init 56 = .ok (.newarray .int, 2) := by decide +kernel
theorem dX8_init_58 : decode cX8_init 58 = .ok (.putfield 28, 3) := by decide +kernel
theorem dX8_init_61 : decode cX8_init 61 = .ok (.aload_n 0, 1) := by decide +kernel
theorem dX8_init_62 : decode cX8_init 62 = .ok (.sipush 144, 3) := by decide +kernel
theorem dX8_init_65 : decode cX8_init 65 = .ok (.newarray .int, 2) := by decide +kernel
theorem dX8_init_67 : decode cX8_init 67 = .ok (.putfield 31, 3) := by decide +kernel
theorem dX8_init_70 : decode cX8_init 70 = .ok (.aload_n 0, 1) := by decide +kernel
theorem dX8_init_71 : decode cX8_init 71 = .ok (.sipush 144, 3) := by decide +kernel
theorem dX8_init_74 : decode cX8_init 74 = .ok (.newarray .int, 2) := by decide +kernel
theorem dX8_init_76 : decode cX8_init 76 = .ok (.putfield 34, 3) := by decide +kernel
theorem dX8_init_79 : decode cX8_init 79 = .ok (.aload_n 0, 1) := by decide +kernel
theorem dX8_init_80 : decode cX8_init 80 = .ok (.sipush 144, 3) := by decide +kernel
theorem dX8_init_83 : decode cX8_init 83 = .ok (.newarray .int, 2) := by decide +kernel
theorem dX8_init_85 : decode cX8_init 85 = .ok (.putfield 37, 3) := by decide +kernel
theorem dX8_init_88 : decode cX8_init 88 = .ok (.aload_n 0, 1) := by decide +kernel
theorem dX8_init_89 : decode cX8_init 89 = .ok (.bipush 12, 2) := by decide +kernel
theorem dX8_init_91 : decode cX8_init 91 = .ok (.newarray .int, 2) := by decide +kernel
theorem dX8_init_93 : decode cX8_init 93 = .ok (.putfield 40, 3) := by decide +kernel
theorem dX8_init_96 : decode cX8_init 96 = .ok (.aload_n 0, 1) := by decide +kernel
theorem dX8_init_97 : decode cX8_init 97 = .ok (.bipush 12, 2) := by decide +kernel
theorem dX8_init_99 : decode cX8_init 99 = .ok (.newarray .int, 2) := by decide +kernel
theorem dX8_init_101 : decode cX8_init 101 = .ok (.putfield 43, 3) := by decide +kernel
theorem dX8_init_104 : decode cX8_init 104 = .ok (.aload_n 0, 1) := by decide +kernel
theorem dX8_init_105 : decode cX8_init 105 = .ok (.bipush 12, 2) := by decide +kernel
theorem dX8_init_107 : decode cX8_init 107 = .ok (.newarray .int, 2) := by decide +kernel
theorem dX8_init_109 : decode cX8_init 109 = .ok (.putfield 46, 3) := by decide +kernel
theorem dX8_init_112 : decode cX8_init 112 = .ok (.aload_n 0, 1) := by decide +kernel
theorem dX8_init_113 : decode cX8_init 113 = .ok (.bipush 12, 2) := by decide +kernel
theorem dX8_init_115 : decode cX8_init 115 = .ok (.newarray .int, 2) := by decide +kernel
theorem dX8_init_117 : decode cX8_init 117 = .ok (.putfield 49, 3) := by decide +kernel
theorem dX8_init_120 : decode cX8_init 120 = .ok (.aload_n 0, 1) := by decide +kernel
theorem dX8_init_121 : decode cX8_init 121 = .ok (.bipush 12, 2) := by decide +kernel
theorem dX8_init_123 : decode cX8_init 123 = .ok (.newarray .boolean, 2) := by decide +kernel
theorem dX8_init_125 : decode cX8_init 125 = .ok (.putfield 52, 3) := by decide +kernel
theorem dX8_init_128 : decode cX8_init 128 = .ok (.aload_n 0, 1) := by decide +kernel
theorem dX8_init_129 : decode cX8_init 129 = .ok (.sipush 144, 3) := by decide +kernel
theorem dX8_init_132 : decode cX8_init 132 = .ok (.newarray .int, 2) := by decide +kernel
theorem dX8_init_134 : decode cX8_init 134 = .ok (.putfield 56, 3) := by decide +kernel
theorem dX8_init_137 : decode cX8_init 137 = .ok (.aload_n 0, 1) := by decide +kernel
theorem dX8_init_138 : decode cX8_init 138 = .ok (.sipush 144, 3) := by decide +kernel
theorem dX8_init_141 : decode cX8_init 141 = .ok (.newarray .int, 2) := by decide +kernel
theorem dX8_init_143 : decode cX8_init 143 = .ok (.putfield 59, 3) := by decide +kernel
theorem dX8_init_146 : decode cX8_init 146 = .ok (.aload_n 0, 1) := by decide +kernel
theorem dX8_init_147 : decode cX8_init 147 = .ok (.sipush 144, 3) := by decide +kernel
theorem dX8_init_150 : decode cX8_init 150 = .ok (.newarray .boolean, 2) := by decide +kernel
theorem dX8_init_152 : decode cX8_init 152 = .ok (.putfield 62, 3) := by decide +kernel
theorem dX8_init_155 : decode cX8_init 155 = .ok (.aload_n 0, 1) := by decide +kernel
theorem dX8_init_156 : decode cX8_init 156 = .ok (.bipush 12, 2) := by decide +kernel
theorem dX8_init_158 : decode cX8_init 158 = .ok (.newarray .int, 2) := by decide +kernel
theorem dX8_init_160 : decode cX8_init 160 = .ok (.putfield 65, 3) := by decide +kernel
theorem dX8_init_163 : decode cX8_init 163 = .ok (.aload_n 0, 1) := by decide +kernel
theorem dX8_init_164 : decode cX8_init 164 = .ok (.bipush 64, 2) := by decide +kernel
theorem dX8_init_166 : decode cX8_init 166 = .ok (.newarray .int, 2) := by decide +kernel
theorem dX8_init_168 : decode cX8_init 168 = .ok (.putfield 68, 3) := by decide +kernel
theorem dX8_init_171 : decode cX8_init 171 = .ok (.aload_n 0, 1) := by decide +kernel
theorem dX8_init_172 : decode cX8_init 172 = .ok (.bipush 64, 2) := by decide +kernel
theorem dX8_init_174 : decode cX8_init 174 = .ok (.newarray .int, 2) := by decide +kernel
theorem dX8_init_176 : decode cX8_init 176 = .ok (.putfield 71, 3) := by decide +kernel
theorem dX8_init_179 : decode cX8_init 179 = .ok (.aload_n 0, 1) := by decide +kernel
theorem dX8_init_180 : decode cX8_init 180 = .ok (.bipush 64, 2) := by decide +kernel
theorem dX8_init_182 : decode cX8_init 182 = .ok (.newarray .int, 2) := by decide +kernel
theorem dX8_init_184 : decode cX8_init 184 = .ok (.putfield 74, 3) := by decide +kernel
theorem dX8_init_187 : decode cX8_init 187 = .ok (.aload_n 0, 1) := by decide +kernel
theorem dX8_init_188 : decode cX8_init 188 = .ok (.bipush 12, 2) := by decide +kernel
theorem dX8_init_190 : decode cX8_init 190 = .ok (.newarray .int, 2) := by decide +kernel
theorem dX8_init_192 : decode cX8_init 192 = .ok (.putfield 77, 3) := by decide +kernel
theorem dX8_init_195 : decode cX8_init 195 = .ok (.aload_n 0, 1) := by decide +kernel
theorem dX8_init_196 : decode cX8_init 196 = .ok (.bipush 12, 2) := by decide +kernel
theorem dX8_init_198 : decode cX8_init 198 = .ok (.newarray .int, 2) := by decide +kernel
theorem dX8_init_200 : decode cX8_init 200 = .ok (.putfield 80, 3) := by decide +kernel
theorem dX8_init_203 : decode cX8_init 203 = .ok (.aload_n 0, 1) := by decide +kernel
theorem dX8_init_204 : decode cX8_init 204 = .ok (.sipush 144, 3) := by decide +kernel
theorem dX8_init_207 : decode cX8_init 207 = .ok (.newarray .int, 2) := by decide +kernel
theorem dX8_init_209 : decode cX8_init 209 = .ok (.putfield 83, 3) := by decide +kernel
theorem dX8_init_212 : decode cX8_init 212 = .ok (.aload_n 0, 1) := by decide +kernel
theorem dX8_init_213 : decode cX8_init 213 = .ok (.bipush 64, 2) := by decide +kernel
theorem dX8_init_215 : decode cX8_init 215 = .ok (.newarray .int, 2) := by decide +kernel
theorem dX8_init_217 : decode cX8_init 217 = .ok (.putfield 86, 3) := by decide +kernel
theorem dX8_init_220 : decode cX8_init 220 = .ok (.return_, 1) := by decide +kernel
theorem dX8_within_0 : decode cX8_within 0 = .ok (.iload_n 0, 1) := by decide +kernel
theorem dX8_within_1 : decode cX8_within 1 = .ok (.iload_n 1, 1) := by decide +kernel
theorem dX8_within_2 : decode cX8_within 2 = .ok (.if_icmp .lt 12, 3) := by decide +kernel
theorem dX8_within_5 : decode cX8_within 5 = .ok (.iload_n 0, 1) := by decide +kernel
theorem dX8_within_6 : decode cX8_within 6 = .ok (.iload_n 2, 1) := by decide +kernel
theorem dX8_within_7 : decode cX8_within 7 = .ok (.if_icmp .gt 7, 3) := by decide +kernel
theorem dX8_within_10 : decode cX8_within 10 = .ok (.iconst 1, 1) := by decide +kernel
theorem dX8_within_11 : decode cX8_within 11 = .ok (.goto 4, 3) := by decide +kernel
theorem dX8_within_14 : decode cX8_within 14 = .ok (.iconst 0, 1) := by decide +kernel
theorem dX8_within_15 : decode cX8_within 15 = .ok (.ireturn, 1) := by decide +kernel
theorem dX8_letter_0 : decode cX8_letter 0 = .ok (.iload_n 1, 1) := by decide +kernel
theorem dX8_letter_1 : decode cX8_letter 1 = .ok (.bipush 32, 2) := by decide +kernel
theorem dX8_letter_3 : decode cX8_letter 3 = .ok (.bipush 126, 2) := by decide +kernel
theorem dX8_letter_5 : decode cX8_letter 5 = .ok (.invokestatic 89, 3) := by decide +kernel
theorem dX8_letter_8 : decode cX8_letter 8 = .ok (.ifCond .ne 6, 3) := by decide +kernel
theorem dX8_letter_11 : decode cX8_letter 11 = .ok (.bipush (-102), 2) := by decide +kernel
theorem dX8_letter_13 : decode cX8_letter 13 = .ok (.ireturn, 1) := by decide +kernel
theorem dX8_letter_14 : decode cX8_letter 14 = .ok (.aload_n 0, 1) := by decide +kernel
theorem dX8_letter_15 : decode cX8_letter 15 = .ok (.getfield 93, 3) := by decide +kernel
theorem dX8_letter_18 : decode cX8_letter 18 = .ok (.bipush 60, 2) := by decide +kernel
theorem dX8_letter_20 : decode cX8_letter 20 = .ok (.if_icmp .ne 6, 3) := by decide +kernel
theorem dX8_letter_23 : decode cX8_letter 23 = .ok (.bipush (-104), 2) := by decide +kernel
theorem dX8_letter_25 : decode cX8_letter 25 = .ok (.ireturn, 1) := by decide +kernel
theorem dX8_letter_26 : decode cX8_letter 26 = .ok (.aload_n 0, 1) := by decide +kernel
theorem dX8_letter_27 : decode cX8_letter 27 = .ok (.getfield 7, 3) := by decide +kernel
theorem dX8_letter_30 : decode cX8_letter 30 = .ok (.aload_n 0, 1) := by decide +kernel
theorem dX8_letter_31 : decode cX8_letter 31 = .ok (.getfield 93, 3) := by decide +kernel
theorem dX8_letter_34 : decode cX8_letter 34 = .ok (.iload_n 1, 1) := by decide +kernel
theorem dX8_letter_35 : decode cX8_letter 35 = .ok (.iastore, 1) := by decide +kernel
theorem dX8_letter_36 : decode cX8_letter 36 = .ok (.aload_n 0, 1) := by decide +kernel
theorem dX8_letter_37 : decode cX8_letter 37 = .ok (.dup, 1) := by decide +kernel
theorem dX8_letter_38 : decode cX8_letter 38 = .ok (.getfield 93, 3) := by decide +kernel
theorem dX8_letter_41 : decode cX8_letter 41 = .ok (.iconst 1, 1) := by decide +kernel
theorem dX8_letter_42 : decode cX8_letter 42 = .ok (.iadd, 1) := by decide +kernel
theorem dX8_letter_43 : decode cX8_letter 43 = .ok (.putfield 93, 3) := by decide +kernel
theorem dX8_letter_46 : decode cX8_letter 46 = .ok (.aload_n 0, 1) := by decide +kernel
theorem dX8_letter_47 : decode cX8_letter 47 = .ok (.getfield 93, 3) := by decide +kernel
theorem dX8_letter_50 : decode cX8_letter 50 = .ok (.ireturn, 1) := by decide +kernel
theorem dX8_blank_0 : decode cX8_blank 0 = .ok (.aload_n 0, 1) := by decide +kernel
theorem dX8_blank_1 : decode cX8_blank 1 = .ok (.getfield 93, 3) := by decide +kernel
theorem dX8_blank_4 : decode cX8_blank 4 = .ok (.istore_n 1, 1) := by decide +kernel
theorem dX8_blank_5 : decode cX8_blank 5 = .ok (.aload_n 0, 1) := by decide +kernel
theorem dX8_blank_6 : decode cX8_blank 6 = .ok (.iconst 0, 1) := by decide +kernel
theorem dX8_blank_7 : decode cX8_blank 7 = .ok (.putfield 93, 3) := by decide +kernel
theorem dX8_blank_10 : decode cX8_blank 10 = .ok (.iload_n 1, 1) := by decide +kernel
theorem dX8_blank_11 : decode cX8_blank 11 = .ok (.ireturn, 1) := by decide +kernel
theorem dX8_takesPlace_0 : decode cX8_takesPlace 0 = .ok (.iload_n 1, 1) := by decide +kernel
theorem dX8_takesPlace_1 : decode cX8_takesPlace 1 = .ok (.bipush 97, 2) := by decide +kernel
theorem dX8_takesPlace_3 : decode cX8_takesPlace 3 = .ok (.bipush 104, 2) := by decide +kernel
theorem dX8_takesPlace_5 : decode cX8_takesPlace 5 = .ok (.invokestatic 89, 3) := by decide +kernel
theorem dX8_takesPlace_8 : decode cX8_takesPlace 8 = .ok (.ifCond .eq 30, 3) := by decide +kernel
theorem dX8_takesPlace_11 : decode cX8_takesPlace 11 = .ok (.aload_n 0, 1) := by decide +kernel
theorem dX8_takesPlace_12 : decode cX8_takesPlace 12 = .ok (.getfield 97, 3) := by decide +kernel
theorem dX8_takesPlace_15 : decode cX8_takesPlace 15 = .ok (.ifCond .eq 19, 3) := by decide +kernel
theorem dX8_takesPlace_18 : decode cX8_takesPlace 18 = .ok (.iload_n 1, 1) := by decide +kernel
theorem dX8_takesPlace_19 : decode cX8_takesPlace 19 = .ok (.bipush 97, 2) := by decide +kernel
theorem dX8_takesPlace_21 : decode cX8_takesPlace 21 = .ok (.isub, 1) := by decide +kernel
theorem dX8_takesPlace_22 : decode cX8_takesPlace 22 = .ok (.aload_n 0, 1) := by decide +kernel
theorem dX8_takesPlace_23 : decode cX8_takesPlace 23 = .ok (.getfield 43, 3) := by decide +kernel
theorem dX8_takesPlace_26 : decode cX8_takesPlace 26 = .ok (.aload_n 0, 1) := by decide +kernel
theorem dX8_takesPlace_27 : decode cX8_takesPlace 27 = .ok (.getfield 100, 3) := by decide +kernel
theorem dX8_takesPlace_30 : decode cX8_takesPlace 30 = .ok (.iaload, 1) := by decide +kernel
theorem dX8_takesPlace_31 : decode cX8_takesPlace 31 = .ok (.if_icmp .eq 7, 3) := by decide +kernel
theorem dX8_takesPlace_34 : decode cX8_takesPlace 34 = .ok (.iconst 1, 1) := by decide +kernel
theorem dX8_takesPlace_35 : decode cX8_takesPlace 35 = .ok (.goto 4, 3) := by decide +kernel
theorem dX8_takesPlace_38 : decode cX8_takesPlace 38 = .ok (.iconst 0, 1) := by decide +kernel
theorem dX8_takesPlace_39 : decode cX8_takesPlace 39 = .ok (.istore_n 2, 1) := by decide +kernel
theorem dX8_takesPlace_40 : decode cX8_takesPlace 40 = .ok (.iload_n 2, 1) := by decide +kernel
theorem dX8_takesPlace_41 : decode cX8_takesPlace 41 = .ok (.ifCond .ne 5, 3) := by decide +kernel
theorem dX8_takesPlace_44 : decode cX8_takesPlace 44 = .ok (.iconst 0, 1) := by decide +kernel
theorem dX8_takesPlace_45 : decode cX8_takesPlace 45 = .ok (.ireturn, 1) := by decide +kernel
theorem dX8_takesPlace_46 : decode cX8_takesPlace 46 = .ok (.aload_n 0, 1) := by decide +kernel
theorem dX8_takesPlace_47 : decode cX8_takesPlace 47 = .ok (.getfield 97, 3) := by decide +kernel
theorem dX8_takesPlace_50 : decode cX8_takesPlace 50 = .ok (.ifCond .ne 19, 3) := by decide +kernel
theorem dX8_takesPlace_53 : decode cX8_takesPlace 53 = .ok (.aload_n 0, 1) := by decide +kernel
theorem dX8_takesPlace_54 : decode cX8_takesPlace 54 = .ok (.getfield 43, 3) := by decide +kernel
theorem dX8_takesPlace_57 : decode cX8_takesPlace 57 = .ok (.aload_n 0, 1) := by decide +kernel
theorem dX8_takesPlace_58 : decode cX8_takesPlace 58 = .ok (.getfield 100, 3) := by decide +kernel
theorem dX8_takesPlace_61 : decode cX8_takesPlace 61 = .ok (.iload_n 1, 1) := by decide +kernel
theorem dX8_takesPlace_62 : decode cX8_takesPlace 62 = .ok (.bipush 97, 2) := by decide +kernel
theorem dX8_takesPlace_64 : decode cX8_takesPlace 64 = .ok (.isub, 1) := by decide +kernel
theorem dX8_takesPlace_65 : decode cX8_takesPlace 65 = .ok (.iastore, 1) := by decide +kernel
theorem dX8_takesPlace_66 : decode cX8_takesPlace 66 = .ok (.goto 16, 3) := by decide +kernel
theorem dX8_takesPlace_69 : decode cX8_takesPlace 69 = .ok (.aload_n 0, 1) := by decide +kernel
theorem dX8_takesPlace_70 : decode cX8_takesPlace 70 = .ok (.getfield 46, 3) := by decide +kernel
theorem dX8_takesPlace_73 : decode cX8_takesPlace 73 = .ok (.aload_n 0, 1) := by decide +kernel
theorem dX8_takesPlace_74 : decode cX8_takesPlace 74 = .ok (.getfield 100, 3) := by decide +kernel
theorem dX8_takesPlace_77 : decode cX8_takesPlace 77 = .ok (.iload_n 1, 1) := by decide +kernel
theorem dX8_takesPlace_78 : decode cX8_takesPlace 78 = .ok (.bipush 97, 2) := by decide +kernel
theorem dX8_takesPlace_80 : decode cX8_takesPlace 80 = .ok (.isub, 1) := by decide +kernel
theorem dX8_takesPlace_81 : decode cX8_takesPlace 81 = .ok (.iastore, 1) := by decide +kernel
theorem dX8_takesPlace_82 : decode cX8_takesPlace 82 = .ok (.aload_n 0, 1) := by decide +kernel
theorem dX8_takesPlace_83 : decode cX8_takesPlace 83 = .ok (.dup, 1) := by decide +kernel
theorem dX8_takesPlace_84 : decode cX8_takesPlace 84 = .ok (.getfield 97, 3) := by decide +kernel
theorem dX8_takesPlace_87 : decode cX8_takesPlace 87 = .ok (.iconst 1, 1) := by decide +kernel
theorem dX8_takesPlace_88 : decode cX8_takesPlace 88 = .ok (.iadd, 1) := by decide +kernel
theorem dX8_takesPlace_89 : decode cX8_takesPlace 89 = .ok (.putfield 97, 3) := by decide +kernel
theorem dX8_takesPlace_92 : decode cX8_takesPlace 92 = .ok (.aload_n 0, 1) := by decide +kernel
theorem dX8_takesPlace_93 : decode cX8_takesPlace 93 = .ok (.iconst 0, 1) := by decide +kernel
theorem dX8_takesPlace_94 : decode cX8_takesPlace 94 = .ok (.putfield 103, 3) := by decide +kernel
theorem dX8_takesPlace_97 : decode cX8_takesPlace 97 = .ok (.iconst 1, 1) := by decide +kernel
theorem dX8_takesPlace_98 : decode cX8_takesPlace 98 = .ok (.ireturn, 1) := by decide +kernel
theorem dX8_takesFigure_0 : decode cX8_takesFigure 0 = .ok (.bipush 10, 2) := by decide +kernel
theorem dX8_takesFigure_2 : decode cX8_takesFigure 2 = .ok (.aload_n 0, 1) := by decide +kernel
theorem dX8_takesFigure_3 : decode cX8_takesFigure 3 = .ok (.getfield 103, 3) := by decide +kernel
theorem dX8_takesFigure_6 : decode cX8_takesFigure 6 = .ok (.imul, 1) := by decide +kernel
theorem dX8_takesFigure_7 : decode cX8_takesFigure 7 = .ok (.iload_n 1, 1) := by decide +kernel
theorem dX8_takesFigure_8 : decode cX8_takesFigure 8 = .ok (.iadd, 1) := by decide +kernel
theorem dX8_takesFigure_9 : decode cX8_takesFigure 9 = .ok (.bipush 48, 2) := by decide +kernel
theorem dX8_takesFigure_11 : decode cX8_takesFigure 11 = .ok (.isub, 1) := by decide +kernel
theorem dX8_takesFigure_12 : decode cX8_takesFigure 12 = .ok (.istore_n 2, 1) := by decide +kernel
theorem dX8_takesFigure_13 : decode cX8_takesFigure 13 = .ok (.iload_n 2, 1) := by decide +kernel
theorem dX8_takesFigure_14 : decode cX8_takesFigure 14 = .ok (.iconst 1, 1) := by decide +kernel
theorem dX8_takesFigure_15 : decode cX8_takesFigure 15 = .ok (.bipush 99, 2) := by decide +kernel
theorem dX8_takesFigure_17 : decode cX8_takesFigure 17 = .ok (.invokestatic 89, 3) := by decide +kernel
theorem dX8_takesFigure_20 : decode cX8_takesFigure 20 = .ok (.istore_n 3, 1) := by decide +kernel
theorem dX8_takesFigure_21 : decode cX8_takesFigure 21 = .ok (.aload_n 0, 1) := by decide +kernel
theorem dX8_takesFigure_22 : decode cX8_takesFigure 22 = .ok (.iload_n 3, 1) := by decide +kernel
theorem dX8_takesFigure_23 : decode cX8_takesFigure 23 = .ok (.ifCond .eq 7, 3) := by decide +kernel
theorem dX8_takesFigure_26 : decode cX8_takesFigure 26 = .ok (.iload_n 2, 1) := by decide +kernel
theorem dX8_takesFigure_27 : decode cX8_takesFigure 27 = .ok (.goto 7, 3) := by decide +kernel
theorem dX8_takesFigure_30 : decode cX8_takesFigure 30 = .ok (.aload_n 0, 1) := by decide +kernel
theorem dX8_takesFigure_31 : decode cX8_takesFigure 31 = .ok (.getfield 103, 3) := by decide +kernel
theorem dX8_takesFigure_34 : decode cX8_takesFigure 34 = .ok (.putfield 103, 3) := by decide +kernel
theorem dX8_takesFigure_37 : decode cX8_takesFigure 37 = .ok (.aload_n 0, 1) := by decide +kernel
theorem dX8_takesFigure_38 : decode cX8_takesFigure 38 = .ok (.getfield 49, 3) := by decide +kernel
theorem dX8_takesFigure_41 : decode cX8_takesFigure 41 = .ok (.aload_n 0, 1) := by decide +kernel
theorem dX8_takesFigure_42 : decode cX8_takesFigure 42 = .ok (.getfield 100, 3) := by decide +kernel
theorem dX8_takesFigure_45 : decode cX8_takesFigure 45 = .ok (.aload_n 0, 1) := by decide +kernel
theorem dX8_takesFigure_46 : decode cX8_takesFigure 46 = .ok (.getfield 103, 3) := by decide +kernel
theorem dX8_takesFigure_49 : decode cX8_takesFigure 49 = .ok (.iastore, 1) := by decide +kernel
theorem dX8_takesFigure_50 : decode cX8_takesFigure 50 = .ok (.iload_n 3, 1) := by decide +kernel
theorem dX8_takesFigure_51 : decode cX8_takesFigure 51 = .ok (.ireturn, 1) := by decide +kernel
theorem dX8_takes_0 : decode cX8_takes 0 = .ok (.aload_n 0, 1) := by decide +kernel
theorem dX8_takes_1 : decode cX8_takes 1 = .ok (.getfield 97, 3) := by decide +kernel
theorem dX8_takes_4 : decode cX8_takes 4 = .ok (.iconst 2, 1) := by decide +kernel
theorem dX8_takes_5 : decode cX8_takes 5 = .ok (.if_icmp .ge 9, 3) := by decide +kernel
theorem dX8_takes_8 : decode cX8_takes 8 = .ok (.aload_n 0, 1) := by decide +kernel
theorem dX8_takes_9 : decode cX8_takes 9 = .ok (.iload_n 1, 1) := by decide +kernel
theorem dX8_takes_10 : decode cX8_takes 10 = .ok (.invokevirtual 106, 3) := by decide +kernel
theorem dX8_takes_13 : decode cX8_takes 13 = .ok (.ireturn, 1) := by decide +kernel
theorem dX8_takes_14 : decode cX8_takes 14 = .ok (.iload_n 1, 1) := by decide +kernel
theorem dX8_takes_15 : decode cX8_takes 15 = .ok (.bipush 48, 2) := by decide +kernel
theorem dX8_takes_17 : decode cX8_takes 17 = .ok (.bipush 57, 2) := by decide +kernel
theorem dX8_takes_19 : decode cX8_takes 19 = .ok (.invokestatic 89, 3) := by decide +kernel
theorem dX8_takes_22 : decode cX8_takes 22 = .ok (.ifCond .eq 9, 3) := by decide +kernel
theorem dX8_takes_25 : decode cX8_takes 25 = .ok (.aload_n 0, 1) := by decide +kernel
theorem dX8_takes_26 : decode cX8_takes 26 = .ok (.iload_n 1, 1) := by decide +kernel
theorem dX8_takes_27 : decode cX8_takes 27 = .ok (.invokevirtual 110, 3) := by decide +kernel
theorem dX8_takes_30 : decode cX8_takes 30 = .ok (.ireturn, 1) := by decide +kernel
theorem dX8_takes_31 : decode cX8_takes 31 = .ok (.iload_n 1, 1) := by decide +kernel
theorem dX8_takes_32 : decode cX8_takes 32 = .ok (.bipush 44, 2) := by decide +kernel
theorem dX8_takes_34 : decode cX8_takes 34 = .ok (.if_icmp .ne 23, 3) := by decide +kernel
theorem dX8_takes_37 : decode cX8_takes 37 = .ok (.aload_n 0, 1) := by decide +kernel
theorem dX8_takes_38 : decode cX8_takes 38 = .ok (.getfield 103, 3) := by decide +kernel
theorem dX8_takes_41 : decode cX8_takes 41 = .ok (.ifCond .le 16, 3) := by decide +kernel
theorem dX8_takes_44 : decode cX8_takes 44 = .ok (.aload_n 0, 1) := by decide +kernel
theorem dX8_takes_45 : decode cX8_takes 45 = .ok (.getfield 100, 3) := by decide +kernel
theorem dX8_takes_48 : decode cX8_takes 48 = .ok (.bipush 11, 2) := by decide +kernel
theorem dX8_takes_50 : decode cX8_takes 50 = .ok (.if_icmp .ge 7, 3) := by decide +kernel
theorem dX8_takes_53 : decode cX8_takes 53 = .ok (.iconst 1, 1) := by decide +kernel
theorem dX8_takes_54 : decode cX8_takes 54 = .ok (.goto 4, 3) := by decide +kernel
theorem dX8_takes_57 : decode cX8_takes 57 = .ok (.iconst 0, 1) := by decide +kernel
theorem dX8_takes_58 : decode cX8_takes 58 = .ok (.istore_n 2, 1) := by decide +kernel
theorem dX8_takes_59 : decode cX8_takes 59 = .ok (.aload_n 0, 1) := by decide +kernel
theorem dX8_takes_60 : decode cX8_takes 60 = .ok (.dup, 1) := by decide +kernel
theorem dX8_takes_61 : decode cX8_takes 61 = .ok (.getfield 100, 3) := by decide +kernel
theorem dX8_takes_64 : decode cX8_takes 64 = .ok (.iload_n 2, 1) := by decide +kernel
theorem dX8_takes_65 : decode cX8_takes 65 = .ok (.ifCond .eq 7, 3) := by decide +kernel
theorem dX8_takes_68 : decode cX8_takes 68 = .ok (.iconst 1, 1) := by decide +kernel
theorem dX8_takes_69 : decode cX8_takes 69 = .ok (.goto 4, 3) := by decide +kernel
theorem dX8_takes_72 : decode cX8_takes 72 = .ok (.iconst 0, 1) := by decide +kernel
theorem dX8_takes_73 : decode cX8_takes 73 = .ok (.iadd, 1) := by decide +kernel
theorem dX8_takes_74 : decode cX8_takes 74 = .ok (.putfield 100, 3) := by decide +kernel
theorem dX8_takes_77 : decode cX8_takes 77 = .ok (.aload_n 0, 1) := by decide +kernel
theorem dX8_takes_78 : decode cX8_takes 78 = .ok (.iload_n 2, 1) := by decide +kernel
theorem dX8_takes_79 : decode cX8_takes 79 = .ok (.ifCond .eq 7, 3) := by decide +kernel
theorem dX8_takes_82 : decode cX8_takes 82 = .ok (.iconst 0, 1) := by decide +kernel
theorem dX8_takes_83 : decode cX8_takes 83 = .ok (.goto 7, 3) := by decide +kernel
theorem dX8_takes_86 : decode cX8_takes 86 = .ok (.aload_n 0, 1) := by decide +kernel
theorem dX8_takes_87 : decode cX8_takes 87 = .ok (.getfield 97, 3) := by decide +kernel
theorem dX8_takes_90 : decode cX8_takes 90 = .ok (.putfield 97, 3) := by decide +kernel
theorem dX8_takes_93 : decode cX8_takes 93 = .ok (.iload_n 2, 1) := by decide +kernel
theorem dX8_takes_94 : decode cX8_takes 94 = .ok (.ireturn, 1) := by decide +kernel
theorem dX8_readPage_0 : decode cX8_readPage 0 = .ok (.aload_n 0, 1) := by decide +kernel
theorem dX8_readPage_1 : decode cX8_readPage 1 = .ok (.iconst 0, 1) := by decide +kernel
theorem dX8_readPage_2 : decode cX8_readPage 2 = .ok (.putfield 97, 3) := by decide +kernel
theorem dX8_readPage_5 : decode cX8_readPage 5 = .ok (.aload_n 0, 1) := by decide +kernel
theorem dX8_readPage_6 : decode cX8_readPage 6 = .ok (.iconst 0, 1) := by decide +kernel
theorem dX8_readPage_7 : decode cX8_readPage 7 = .ok (.putfield 103, 3) := by decide +kernel
theorem dX8_readPage_10 : decode cX8_readPage 10 = .ok (.aload_n 0, 1) := by decide +kernel
theorem dX8_readPage_11 : decode cX8_readPage 11 = .ok (.iconst 0, 1) := by decide +kernel
theorem dX8_readPage_12 : decode cX8_readPage 12 = .ok (.putfield 100, 3) := by decide +kernel
theorem dX8_readPage_15 : decode cX8_readPage 15 = .ok (.iconst 0, 1) := by decide +kernel
theorem dX8_readPage_16 : decode cX8_readPage 16 = .ok (.istore_n 1, 1) := by decide +kernel
theorem dX8_readPage_17 : decode cX8_readPage 17 = .ok (.iload_n 1, 1) := by decide +kernel
theorem dX8_readPage_18 : decode cX8_readPage 18 = .ok (.aload_n 0, 1) := by decide +kernel
theorem dX8_readPage_19 : decode cX8_readPage 19 = .ok (.getfield 93, 3) := by decide +kernel
theorem dX8_readPage_22 : decode cX8_readPage 22 = .ok (.if_icmp .ge 22, 3) := by decide +kernel
theorem dX8_readPage_25 : decode cX8_readPage 25 = .ok (.aload_n 0, 1) := by decide +kernel
theorem dX8_readPage_26 : decode cX8_readPage 26 = .ok (.aload_n 0, 1) := by decide +kernel
theorem dX8_readPage_27 : decode cX8_readPage 27 = .ok (.getfield 7, 3) := by decide +kernel
theorem dX8_readPage_30 : decode cX8_readPage 30 = .ok (.iload_n 1, 1) := by decide +kernel
theorem dX8_readPage_31 : decode cX8_readPage 31 = .ok (.iaload, 1) := by decide +kernel
theorem dX8_readPage_32 : decode cX8_readPage 32 = .ok (.invokevirtual 113, 3) := by decide +kernel
theorem dX8_readPage_35 : decode cX8_readPage 35 = .ok (.ifCond .eq 9, 3) := by decide +kernel
theorem dX8_readPage_38 : decode cX8_readPage 38 = .ok (.iinc 1 1, 3) := by decide +kernel
theorem dX8_readPage_41 : decode cX8_readPage 41 = .ok (.goto (-24), 3) := by decide +kernel
theorem dX8_readPage_44 : decode cX8_readPage 44 = .ok (.iload_n 1, 1) := by decide +kernel
theorem dX8_readPage_45 : decode cX8_readPage 45 = .ok (.ireturn, 1) := by decide +kernel
theorem dX8_fault_0 : decode cX8_fault 0 = .ok (.aload_n 0, 1) := by decide +kernel
theorem dX8_fault_1 : decode cX8_fault 1 = .ok (.invokevirtual 116, 3) := by decide +kernel
theorem dX8_fault_4 : decode cX8_fault 4 = .ok (.ireturn, 1) := by decide +kernel
theorem dX8_roads_0 : decode cX8_roads 0 = .ok (.aload_n 0, 1) := by decide +kernel
theorem dX8_roads_1 : decode cX8_roads 1 = .ok (.invokevirtual 116, 3) := by decide +kernel
theorem dX8_roads_4 : decode cX8_roads 4 = .ok (.aload_n 0, 1) := by decide +kernel
theorem dX8_roads_5 : decode cX8_roads 5 = .ok (.getfield 93, 3) := by decide +kernel
theorem dX8_roads_8 : decode cX8_roads 8 = .ok (.if_icmp .lt 18, 3) := by decide +kernel
theorem dX8_roads_11 : decode cX8_roads 11 = .ok (.aload_n 0, 1) := by decide +kernel
theorem dX8_roads_12 : decode cX8_roads 12 = .ok (.getfield 97, 3) := by decide +kernel
theorem dX8_roads_15 : decode cX8_roads 15 = .ok (.iconst 2, 1) := by decide +kernel
theorem dX8_roads_16 : decode cX8_roads 16 = .ok (.if_icmp .lt 10, 3) := by decide +kernel
theorem dX8_roads_19 : decode cX8_roads 19 = .ok (.aload_n 0, 1) := by decide +kernel
theorem dX8_roads_20 : decode cX8_roads 20 = .ok (.getfield 103, 3) := by decide +kernel
theorem dX8_roads_23 : decode cX8_roads 23 = .ok (.ifCond .ne 6, 3) := by decide +kernel
theorem dX8_roads_26 : decode cX8_roads 26 = .ok (.bipush (-103), 2) := by decide +kernel
theorem dX8_roads_28 : decode cX8_roads 28 = .ok (.ireturn, 1) := by decide +kernel
theorem dX8_roads_29 : decode cX8_roads 29 = .ok (.aload_n 0, 1) := by decide +kernel
theorem dX8_roads_30 : decode cX8_roads 30 = .ok (.aload_n 0, 1) := by decide +kernel
theorem dX8_roads_31 : decode cX8_roads 31 = .ok (.getfield 100, 3) := by decide +kernel
theorem dX8_roads_34 : decode cX8_roads 34 = .ok (.iconst 1, 1) := by decide +kernel
theorem dX8_roads_35 : decode cX8_roads 35 = .ok (.iadd, 1) := by decide +kernel
theorem dX8_roads_36 : decode cX8_roads 36 = .ok (.putfield 120, 3) := by decide +kernel
theorem dX8_roads_39 : decode cX8_roads 39 = .ok (.iconst 0, 1) := by decide +kernel
theorem dX8_roads_40 : decode cX8_roads 40 = .ok (.istore_n 1, 1) := by decide +kernel
theorem dX8_roads_41 : decode cX8_roads 41 = .ok (.iload_n 1, 1) := by decide +kernel
theorem dX8_roads_42 : decode cX8_roads 42 = .ok (.aload_n 0, 1) := by decide +kernel
theorem dX8_roads_43 : decode cX8_roads 43 = .ok (.getfield 120, 3) := by decide +kernel
theorem dX8_roads_46 : decode cX8_roads 46 = .ok (.if_icmp .ge 45, 3) := by decide +kernel
theorem dX8_roads_49 : decode cX8_roads 49 = .ok (.aload_n 0, 1) := by decide +kernel
theorem dX8_roads_50 : decode cX8_roads 50 = .ok (.getfield 13, 3) := by decide +kernel
theorem dX8_roads_53 : decode cX8_roads 53 = .ok (.iload_n 1, 1) := by decide +kernel
theorem dX8_roads_54 : decode cX8_roads 54 = .ok (.aload_n 0, 1) := by decide +kernel
theorem dX8_roads_55 : decode cX8_roads 55 = .ok (.getfield 43, 3) := by decide +kernel
theorem dX8_roads_58 : decode cX8_roads 58 = .ok (.iload_n 1, 1) := by decide +kernel
theorem dX8_roads_59 : decode cX8_roads 59 = .ok (.iaload, 1) := by decide +kernel
theorem dX8_roads_60 : decode cX8_roads 60 = .ok (.iastore, 1) := by decide +kernel
theorem dX8_roads_61 : decode cX8_roads 61 = .ok (.aload_n 0, 1) := by decide +kernel
theorem dX8_roads_62 : decode cX8_roads 62 = .ok (.getfield 16, 3) := by decide +kernel
theorem dX8_roads_65 : decode cX8_roads 65 = .ok (.iload_n 1, 1) := by decide +kernel
theorem dX8_roads_66 : decode cX8_roads 66 = .ok (.aload_n 0, 1) := by decide +kernel
theorem dX8_roads_67 : decode cX8_roads 67 = .ok (.getfield 46, 3) := by decide +kernel
theorem dX8_roads_70 : decode cX8_roads 70 = .ok (.iload_n 1, 1) := by decide +kernel
theorem dX8_roads_71 : decode cX8_roads 71 = .ok (.iaload, 1) := by decide +kernel
theorem dX8_roads_72 : decode cX8_roads 72 = .ok (.iastore, 1) := by decide +kernel
theorem dX8_roads_73 : decode cX8_roads 73 = .ok (.aload_n 0, 1) := by decide +kernel
theorem dX8_roads_74 : decode cX8_roads 74 = .ok (.getfield 19, 3) := by decide +kernel
theorem dX8_roads_77 : decode cX8_roads 77 = .ok (.iload_n 1, 1) := by decide +kernel
theorem dX8_roads_78 : decode cX8_roads 78 = .ok (.aload_n 0, 1) := by decide +kernel
theorem dX8_roads_79 : decode cX8_roads 79 = .ok (.getfield 49, 3) := by decide +kernel
theorem dX8_roads_82 : decode cX8_roads 82 = .ok (.iload_n 1, 1) := by decide +kernel
theorem dX8_roads_83 : decode cX8_roads 83 = .ok (.iaload, 1) := by decide +kernel
theorem dX8_roads_84 : decode cX8_roads 84 = .ok (.iastore, 1) := by decide +kernel
theorem dX8_roads_85 : decode cX8_roads 85 = .ok (.iinc 1 1, 3) := by decide +kernel
theorem dX8_roads_88 : decode cX8_roads 88 = .ok (.goto (-47), 3) := by decide +kernel
theorem dX8_roads_91 : decode cX8_roads 91 = .ok (.iconst 0, 1) := by decide +kernel
theorem dX8_roads_92 : decode cX8_roads 92 = .ok (.istore_n 1, 1) := by decide +kernel
theorem dX8_roads_93 : decode cX8_roads 93 = .ok (.iload_n 1, 1) := by decide +kernel
theorem dX8_roads_94 : decode cX8_roads 94 = .ok (.aload_n 0, 1) := by decide +kernel
theorem dX8_roads_95 : decode cX8_roads 95 = .ok (.getfield 120, 3) := by decide +kernel
theorem dX8_roads_98 : decode cX8_roads 98 = .ok (.aload_n 0, 1) := by decide +kernel
theorem dX8_roads_99 : decode cX8_roads 99 = .ok (.getfield 120, 3) := by decide +kernel
theorem dX8_roads_102 : decode cX8_roads 102 = .ok (.imul, 1) := by decide +kernel
theorem dX8_roads_103 : decode cX8_roads 103 = .ok (.if_icmp .ge 86, 3) := by decide +kernel
theorem dX8_roads_106 : decode cX8_roads 106 = .ok (.iload_n 1, 1) := by decide +kernel
theorem dX8_roads_107 : decode cX8_roads 107 = .ok (.aload_n 0, 1) := by decide +kernel
theorem dX8_roads_108 : decode cX8_roads 108 = .ok (.getfield 120, 3) := by decide +kernel
theorem dX8_roads_111 : decode cX8_roads 111 = .ok (.idiv, 1) := by decide +kernel
theorem dX8_roads_112 : decode cX8_roads 112 = .ok (.istore_n 2, 1) := by decide +kernel
theorem dX8_roads_113 : decode cX8_roads 113 = .ok (.iload_n 1, 1) := by decide +kernel
theorem dX8_roads_114 : decode cX8_roads 114 = .ok (.aload_n 0, 1) := by decide +kernel
theorem dX8_roads_115 : decode cX8_roads 115 = .ok (.getfield 120, 3) := by decide +kernel
theorem dX8_roads_118 : decode cX8_roads 118 = .ok (.irem, 1) := by decide +kernel
theorem dX8_roads_119 : decode cX8_roads 119 = .ok (.istore_n 3, 1) := by decide +kernel
theorem dX8_roads_120 : decode cX8_roads 120 = .ok (.aload_n 0, 1) := by decide +kernel
theorem dX8_roads_121 : decode cX8_roads 121 = .ok (.getfield 16, 3) := by decide +kernel
theorem dX8_roads_124 : decode cX8_roads 124 = .ok (.iload_n 2, 1) := by decide +kernel
theorem dX8_roads_125 : decode cX8_roads 125 = .ok (.iaload, 1) := by decide +kernel
theorem dX8_roads_126 : decode cX8_roads 126 = .ok (.aload_n 0, 1) := by decide +kernel
theorem dX8_roads_127 : decode cX8_roads 127 = .ok (.getfield 13, 3) := by decide +kernel
theorem dX8_roads_130 : decode cX8_roads 130 = .ok (.iload_n 3, 1) := by decide +kernel
theorem dX8_roads_131 : decode cX8_roads 131 = .ok (.iaload, 1) := by decide +kernel
theorem dX8_roads_132 : decode cX8_roads 132 = .ok (.if_icmp .ne 7, 3) := by decide +kernel
theorem dX8_roads_135 : decode cX8_roads 135 = .ok (.iconst 1, 1) := by decide +kernel
theorem dX8_roads_136 : decode cX8_roads 136 = .ok (.goto 4, 3) := by decide +kernel
theorem dX8_roads_139 : decode cX8_roads 139 = .ok (.iconst 0, 1) := by decide +kernel
theorem dX8_roads_140 : decode cX8_roads 140 = .ok (.istore 4, 2) := by decide +kernel
theorem dX8_roads_142 : decode cX8_roads 142 = .ok (.aload_n 0, 1) := by decide +kernel
theorem dX8_roads_143 : decode cX8_roads 143 = .ok (.getfield 22, 3) := by decide +kernel
theorem dX8_roads_146 : decode cX8_roads 146 = .ok (.bipush 12, 2) := by decide +kernel
theorem dX8_roads_148 : decode cX8_roads 148 = .ok (.iload_n 2, 1) := by decide +kernel
theorem dX8_roads_149 : decode cX8_roads 149 = .ok (.imul, 1) := by decide +kernel
theorem dX8_roads_150 : decode cX8_roads 150 = .ok (.iload_n 3, 1) := by decide +kernel
theorem dX8_roads_151 : decode cX8_roads 151 = .ok (.iadd, 1) := by decide +kernel
theorem dX8_roads_152 : decode cX8_roads 152 = .ok (.iload 4, 2) := by decide +kernel
theorem dX8_roads_154 : decode cX8_roads 154 = .ok (.ifCond .ne 7, 3) := by decide +kernel
theorem dX8_roads_157 : decode cX8_roads 157 = .ok (.iconst (-1), 1) := by decide +kernel
theorem dX8_roads_158 : decode cX8_roads 158 = .ok (.goto 24, 3) := by decide +kernel
theorem dX8_roads_161 : decode cX8_roads 161 = .ok (.aload_n 0, 1) := by decide +kernel
theorem dX8_roads_162 : decode cX8_roads 162 = .ok (.getfield 16, 3) := by decide +kernel
theorem dX8_roads_165 : decode cX8_roads 165 = .ok (.iload_n 3, 1) := by decide +kernel
theorem dX8_roads_166 : decode cX8_roads 166 = .ok (.iaload, 1) := by decide +kernel
theorem dX8_roads_167 : decode cX8_roads 167 = .ok (.aload_n 0, 1) := by decide +kernel
theorem dX8_roads_168 : decode cX8_roads 168 = .ok (.getfield 13, 3) := by decide +kernel
theorem dX8_roads_171 : decode cX8_roads 171 = .ok (.iload_n 2, 1) := by decide +kernel
theorem dX8_roads_172 : decode cX8_roads 172 = .ok (.iaload, 1) := by decide +kernel
theorem dX8_roads_173 : decode cX8_roads 173 = .ok (.if_icmp .ne 8, 3) := by decide +kernel
theorem dX8_roads_176 : decode cX8_roads 176 = .ok (.bipush (-5), 2) := by decide +kernel
theorem dX8_roads_178 : decode cX8_roads 178 = .ok (.goto 4, 3) := by decide +kernel
theorem dX8_roads_181 : decode cX8_roads 181 = .ok (.iconst 0, 1) := by decide +kernel
theorem dX8_roads_182 : decode cX8_roads 182 = .ok (.iastore, 1) := by decide +kernel
theorem dX8_roads_183 : decode cX8_roads 183 = .ok (.iinc 1 1, 3) := by decide +kernel
theorem dX8_roads_186 : decode cX8_roads 186 = .ok (.goto (-93), 3) := by decide +kernel
theorem dX8_roads_189 : decode cX8_roads 189 = .ok (.aload_n 0, 1) := by decide +kernel
theorem dX8_roads_190 : decode cX8_roads 190 = .ok (.invokevirtual 123, 3) := by decide +kernel
theorem dX8_roads_193 : decode cX8_roads 193 = .ok (.aload_n 0, 1) := by decide +kernel
theorem dX8_roads_194 : decode cX8_roads 194 = .ok (.invokevirtual 126, 3) := by decide +kernel
theorem dX8_roads_197 : decode cX8_roads 197 = .ok (.aload_n 0, 1) := by decide +kernel
theorem dX8_roads_198 : decode cX8_roads 198 = .ok (.dup, 1) := by decide +kernel
theorem dX8_roads_199 : decode cX8_roads 199 = .ok (.getfield 129, 3) := by decide +kernel
theorem dX8_roads_202 : decode cX8_roads 202 = .ok (.iconst 1, 1) := by decide +kernel
theorem dX8_roads_203 : decode cX8_roads 203 = .ok (.iadd, 1) := by decide +kernel
theorem dX8_roads_204 : decode cX8_roads 204 = .ok (.putfield 129, 3) := by decide +kernel
theorem dX8_roads_207 : decode cX8_roads 207 = .ok (.aload_n 0, 1) := by decide +kernel
theorem dX8_roads_208 : decode cX8_roads 208 = .ok (.iconst 0, 1) := by decide +kernel
theorem dX8_roads_209 : decode cX8_roads 209 = .ok (.putfield 93, 3) := by decide +kernel
theorem dX8_roads_212 : decode cX8_roads 212 = .ok (.aload_n 0, 1) := by decide +kernel
theorem dX8_roads_213 : decode cX8_roads 213 = .ok (.getfield 120, 3) := by decide +kernel
theorem dX8_roads_216 : decode cX8_roads 216 = .ok (.ireturn, 1) := by decide +kernel
theorem dX8_isStep_0 : decode cX8_isStep 0 = .ok (.aload_n 0, 1) := by decide +kernel
theorem dX8_isStep_1 : decode cX8_isStep 1 = .ok (.getfield 22, 3) := by decide +kernel
theorem dX8_isStep_4 : decode cX8_isStep 4 = .ok (.bipush 12, 2) := by decide +kernel
theorem dX8_isStep_6 : decode cX8_isStep 6 = .ok (.iload_n 1, 1) := by decide +kernel
theorem dX8_isStep_7 : decode cX8_isStep 7 = .ok (.imul, 1) := by decide +kernel
theorem dX8_isStep_8 : decode cX8_isStep 8 = .ok (.iload_n 2, 1) := by decide +kernel
theorem dX8_isStep_9 : decode cX8_isStep 9 = .ok (.iadd, 1) := by decide +kernel
theorem dX8_isStep_10 : decode cX8_isStep 10 = .ok (.iaload, 1) := by decide +kernel
theorem dX8_isStep_11 : decode cX8_isStep 11 = .ok (.ifCond .lt 7, 3) := by decide +kernel
theorem dX8_isStep_14 : decode cX8_isStep 14 = .ok (.iconst 1, 1) := by decide +kernel
theorem dX8_isStep_15 : decode cX8_isStep 15 = .ok (.goto 4, 3) := by decide +kernel
theorem dX8_isStep_18 : decode cX8_isStep 18 = .ok (.iconst 0, 1) := by decide +kernel
theorem dX8_isStep_19 : decode cX8_isStep 19 = .ok (.ireturn, 1) := by decide +kernel
theorem dX8_laySteps_0 : decode cX8_laySteps 0 = .ok (.iconst 0, 1) := by decide +kernel
theorem dX8_laySteps_1 : decode cX8_laySteps 1 = .ok (.istore_n 1, 1) := by decide +kernel
theorem dX8_laySteps_2 : decode cX8_laySteps 2 = .ok (.iload_n 1, 1) := by decide +kernel
theorem dX8_laySteps_3 : decode cX8_laySteps 3 = .ok (.aload_n 0, 1) := by decide +kernel
theorem dX8_laySteps_4 : decode cX8_laySteps 4 = .ok (.getfield 120, 3) := by decide +kernel
theorem dX8_laySteps_7 : decode cX8_laySteps 7 = .ok (.if_icmp .ge 80, 3) := by decide +kernel
theorem dX8_laySteps_10 : decode cX8_laySteps 10 = .ok (.iconst 0, 1) := by decide +kernel
theorem dX8_laySteps_11 : decode cX8_laySteps 11 = .ok (.istore_n 2, 1) := by decide +kernel
theorem dX8_laySteps_12 : decode cX8_laySteps 12 = .ok (.iload_n 2, 1) := by decide +kernel
theorem dX8_laySteps_13 : decode cX8_laySteps 13 = .ok (.aload_n 0, 1) := by decide +kernel
theorem dX8_laySteps_14 : decode cX8_laySteps 14 = .ok (.getfield 120, 3) := by decide +kernel
theorem dX8_laySteps_17 : decode cX8_laySteps 17 = .ok (.if_icmp .ge 64, 3) := by decide +kernel
theorem dX8_laySteps_20 : decode cX8_laySteps 20 = .ok (.aload_n 0, 1) := by decide +kernel
theorem dX8_laySteps_21 : decode cX8_laySteps 21 = .ok (.getfield 31, 3) := by decide +kernel
theorem dX8_laySteps_24 : decode cX8_laySteps 24 = .ok (.bipush 12, 2) := by decide +kernel
theorem dX8_laySteps_26 : decode cX8_laySteps 26 = .ok (.iload_n 1, 1) := by decide +kernel
theorem dX8_laySteps_27 : decode cX8_laySteps 27 = .ok (.imul, 1) := by decide +kernel
theorem dX8_laySteps_28 : decode cX8_laySteps 28 = .ok (.iload_n 2, 1) := by decide +kernel
theorem dX8_laySteps_29 : decode cX8_laySteps 29 = .ok (.iadd, 1) := by decide +kernel
theorem dX8_laySteps_30 : decode cX8_laySteps 30 = .ok (.aload_n 0, 1) := by decide +kernel
theorem dX8_laySteps_31 : decode cX8_laySteps 31 = .ok (.iload_n 1, 1) := by decide +kernel
theorem dX8_laySteps_32 : decode cX8_laySteps 32 = .ok (.iload_n 2, 1) := by decide +kernel
theorem dX8_laySteps_33 : decode cX8_laySteps 33 = .ok (.invokevirtual 132, 3) := by decide +kernel
theorem dX8_laySteps_36 : decode cX8_laySteps 36 = .ok (.ifCond .eq 24, 3) := by decide +kernel
theorem dX8_laySteps_39 : decode cX8_laySteps 39 = .ok (.aload_n 0, 1) := by decide +kernel
theorem dX8_laySteps_40 : decode cX8_laySteps 40 = .ok (.getfield 22, 3) := by decide +kernel
theorem dX8_laySteps_43 : decode cX8_laySteps 43 = .ok (.bipush 12, 2) := by decide +kernel
theorem dX8_laySteps_45 : decode cX8_laySteps 45 = .ok (.iload_n 1, 1) := by decide +kernel
theorem dX8_laySteps_46 : decode cX8_laySteps 46 = .ok (.imul, 1) := by decide +kernel
theorem dX8_laySteps_47 : decode cX8_laySteps 47 = .ok (.iload_n 2, 1) := by decide +kernel
theorem dX8_laySteps_48 : decode cX8_laySteps 48 = .ok (.iadd, 1) := by decide +kernel
theorem dX8_laySteps_49 : decode cX8_laySteps 49 = .ok (.iaload, 1) := by decide +kernel
theorem dX8_laySteps_50 : decode cX8_laySteps 50 = .ok (.aload_n 0, 1) := by decide +kernel
theorem dX8_laySteps_51 : decode cX8_laySteps 51 = .ok (.getfield 19, 3) := by decide +kernel
theorem dX8_laySteps_54 : decode cX8_laySteps 54 = .ok (.iload_n 2, 1) := by decide +kernel
theorem dX8_laySteps_55 : decode cX8_laySteps 55 = .ok (.iaload, 1) := by decide +kernel
theorem dX8_laySteps_56 : decode cX8_laySteps 56 = .ok (.iadd, 1) := by decide +kernel
theorem dX8_laySteps_57 : decode cX8_laySteps 57 = .ok (.goto 5, 3) := by decide +kernel
theorem dX8_laySteps_60 : decode cX8_laySteps 60 = .ok (.ldc 136, 2) := by decide +kernel
theorem dX8_laySteps_62 : decode cX8_laySteps 62 = .ok (.iastore, 1) := by decide +kernel
theorem dX8_laySteps_63 : decode cX8_laySteps 63 = .ok (.aload_n 0, 1) := by decide +kernel
theorem dX8_laySteps_64 : decode cX8_laySteps 64 = .ok (.getfield 34, 3) := by decide +kernel
theorem dX8_laySteps_67 : decode cX8_laySteps 67 = .ok (.bipush 12, 2) := by decide +kernel
theorem dX8_laySteps_69 : decode cX8_laySteps 69 = .ok (.iload_n 1, 1) := by decide +kernel
theorem dX8_laySteps_70 : decode cX8_laySteps 70 = .ok (.imul, 1) := by decide +kernel
theorem dX8_laySteps_71 : decode cX8_laySteps 71 = .ok (.iload_n 2, 1) := by decide +kernel
theorem dX8_laySteps_72 : decode cX8_laySteps 72 = .ok (.iadd, 1) := by decide +kernel
theorem dX8_laySteps_73 : decode cX8_laySteps 73 = .ok (.iconst (-1), 1) := by decide +kernel
theorem dX8_laySteps_74 : decode cX8_laySteps 74 = .ok (.iastore, 1) := by decide +kernel
theorem dX8_laySteps_75 : decode cX8_laySteps 75 = .ok (.iinc 2 1, 3) := by decide +kernel
theorem dX8_laySteps_78 : decode cX8_laySteps 78 = .ok (.goto (-66), 3) := by decide +kernel
theorem dX8_laySteps_81 : decode cX8_laySteps 81 = .ok (.iinc 1 1, 3) := by decide +kernel
theorem dX8_laySteps_84 : decode cX8_laySteps 84 = .ok (.goto (-82), 3) := by decide +kernel
theorem dX8_laySteps_87 : decode cX8_laySteps 87 = .ok (.return_, 1) := by decide +kernel
theorem dX8_layAround_0 : decode cX8_layAround 0 = .ok (.iconst 0, 1) := by decide +kernel
theorem dX8_layAround_1 : decode cX8_layAround 1 = .ok (.istore_n 2, 1) := by decide +kernel
theorem dX8_layAround_2 : decode cX8_layAround 2 = .ok (.iload_n 2, 1) := by decide +kernel
theorem dX8_layAround_3 : decode cX8_layAround 3 = .ok (.sipush 144, 3) := by decide +kernel
theorem dX8_layAround_6 : decode cX8_layAround 6 = .ok (.if_icmp .ge 17, 3) := by decide +kernel
theorem dX8_layAround_9 : decode cX8_layAround 9 = .ok (.aload_n 0, 1) := by decide +kernel
theorem dX8_layAround_10 : decode cX8_layAround 10 = .ok (.getfield 56, 3) := by decide +kernel
theorem dX8_layAround_13 : decode cX8_layAround 13 = .ok (.iload_n 2, 1) := by decide +kernel
theorem dX8_layAround_14 : decode cX8_layAround 14 = .ok (.ldc 136, 2) := by decide +kernel
theorem dX8_layAround_16 : decode cX8_layAround 16 = .ok (.iastore, 1) := by decide +kernel
theorem dX8_layAround_17 : decode cX8_layAround 17 = .ok (.iinc 2 1, 3) := by decide +kernel
theorem dX8_layAround_20 : decode cX8_layAround 20 = .ok (.goto (-18), 3) := by decide +kernel
theorem dX8_layAround_23 : decode cX8_layAround 23 = .ok (.iconst 0, 1) := by decide +kernel
theorem dX8_layAround_24 : decode cX8_layAround 24 = .ok (.istore_n 2, 1) := by decide +kernel
theorem dX8_layAround_25 : decode cX8_layAround 25 = .ok (.iload_n 2, 1) := by decide +kernel
theorem dX8_layAround_26 : decode cX8_layAround 26 = .ok (.aload_n 0, 1) := by decide +kernel
theorem dX8_layAround_27 : decode cX8_layAround 27 = .ok (.getfield 120, 3) := by decide +kernel
theorem dX8_layAround_30 : decode cX8_layAround 30 = .ok (.if_icmp .ge 92, 3) := by decide +kernel
theorem dX8_layAround_33 : decode cX8_layAround 33 = .ok (.iconst 0, 1) := by decide +kernel
theorem dX8_layAround_34 : decode cX8_layAround 34 = .ok (.istore_n 3, 1) := by decide +kernel
theorem dX8_layAround_35 : decode cX8_layAround 35 = .ok (.iload_n 3, 1) := by decide +kernel
theorem dX8_layAround_36 : decode cX8_layAround 36 = .ok (.aload_n 0, 1) := by decide +kernel
theorem dX8_layAround_37 : decode cX8_layAround 37 = .ok (.getfield 120, 3) := by decide +kernel
theorem dX8_layAround_40 : decode cX8_layAround 40 = .ok (.if_icmp .ge 76, 3) := by decide +kernel
theorem dX8_layAround_43 : decode cX8_layAround 43 = .ok (.aload_n 0, 1) := by decide +kernel
theorem dX8_layAround_44 : decode cX8_layAround 44 = .ok (.getfield 52, 3) := by decide +kernel
theorem dX8_layAround_47 : decode cX8_layAround 47 = .ok (.iload_n 2, 1) := by decide +kernel
theorem dX8_layAround_48 : decode cX8_layAround 48 = .ok (.baload, 1) := by decide +kernel
theorem dX8_layAround_49 : decode cX8_layAround 49 = .ok (.ifCond .eq 26, 3) := by decide +kernel
theorem dX8_layAround_52 : decode cX8_layAround 52 = .ok (.aload_n 0, 1) := by decide +kernel
theorem dX8_layAround_53 : decode cX8_layAround 53 = .ok (.getfield 52, 3) := by decide +kernel
theorem dX8_layAround_56 : decode cX8_layAround 56 = .ok (.iload_n 3, 1) := by decide +kernel
theorem dX8_layAround_57 : decode cX8_layAround 57 = .ok (.baload, 1) := by decide +kernel
theorem dX8_layAround_58 : decode cX8_layAround 58 = .ok (.ifCond .eq 17, 3) := by decide +kernel
theorem dX8_layAround_61 : decode cX8_layAround 61 = .ok (.iload_n 2, 1) := by decide +kernel
theorem dX8_layAround_62 : decode cX8_layAround 62 = .ok (.iload_n 1, 1) := by decide +kernel
theorem dX8_layAround_63 : decode cX8_layAround 63 = .ok (.if_icmp .eq 12, 3) := by decide +kernel
theorem dX8_layAround_66 : decode cX8_layAround 66 = .ok (.iload_n 3, 1) := by decide +kernel
theorem dX8_layAround_67 : decode cX8_layAround 67 = .ok (.iload_n 1, 1) := by decide +kernel
theorem dX8_layAround_68 : decode cX8_layAround 68 = .ok (.if_icmp .eq 7, 3) := by decide +kernel
theorem dX8_layAround_71 : decode cX8_layAround 71 = .ok (.iconst 1, 1) := by decide +kernel
theorem dX8_layAround_72 : decode cX8_layAround 72 = .ok (.goto 4, 3) := by decide +kernel
theorem dX8_layAround_75 : decode cX8_layAround 75 = .ok (.iconst 0, 1) := by decide +kernel
theorem dX8_layAround_76 : decode cX8_layAround 76 = .ok (.istore 4, 2) := by decide +kernel
theorem dX8_layAround_78 : decode cX8_layAround 78 = .ok (.aload_n 0, 1) := by decide +kernel
theorem dX8_layAround_79 : decode cX8_layAround 79 = .ok (.getfield 56, 3) := by decide +kernel
theorem dX8_layAround_82 : decode cX8_layAround 82 = .ok (.bipush 12, 2) := by decide +kernel
theorem dX8_layAround_84 : decode cX8_layAround 84 = .ok (.iload_n 2, 1) := by decide +kernel
theorem dX8_layAround_85 : decode cX8_layAround 85 = .ok (.imul, 1) := by decide +kernel
theorem dX8_layAround_86 : decode cX8_layAround 86 = .ok (.iload_n 3, 1) := by decide +kernel
theorem dX8_layAround_87 : decode cX8_layAround 87 = .ok (.iadd, 1) := by decide +kernel
theorem dX8_layAround_88 : decode cX8_layAround 88 = .ok (.iload 4, 2) := by decide +kernel
theorem dX8_layAround_90 : decode cX8_layAround 90 = .ok (.ifCond .eq 17, 3) := by decide +kernel
theorem dX8_layAround_93 : decode cX8_layAround 93 = .ok (.aload_n 0, 1) := by decide +kernel
theorem dX8_layAround_94 : decode cX8_layAround 94 = .ok (.getfield 31, 3) := by decide +kernel
theorem dX8_layAround_97 : decode cX8_layAround 97 = .ok (.bipush 12, 2) := by decide +kernel
theorem dX8_layAround_99 : decode cX8_layAround 99 = .ok (.iload_n 2, 1) := by decide +kernel
theorem dX8_layAround_100 : decode cX8_layAround 100 = .ok (.imul, 1) := by decide +kernel
theorem dX8_layAround_101 : decode cX8_layAround 101 = .ok (.iload_n 3, 1) := by decide +kernel
theorem dX8_layAround_102 : decode cX8_layAround 102 = .ok (.iadd, 1) := by decide +kernel
theorem dX8_layAround_103 : decode cX8_layAround 103 = .ok (.iaload, 1) := by decide +kernel
theorem dX8_layAround_104 : decode cX8_layAround 104 = .ok (.goto 5, 3) := by decide +kernel
theorem dX8_layAround_107 : decode cX8_layAround 107 = .ok (.ldc 136, 2) := by decide +kernel
theorem dX8_layAround_109 : decode cX8_layAround 109 = .ok (.iastore, 1) := by decide +kernel
theorem dX8_layAround_110 : decode cX8_layAround 110 = .ok (.iinc 3 1, 3) := by decide +kernel
theorem dX8_layAround_113 : decode cX8_layAround 113 = .ok (.goto (-78), 3) := by decide +kernel
theorem dX8_layAround_116 : decode cX8_layAround 116 = .ok (.iinc 2 1, 3) := by decide +kernel
theorem dX8_layAround_119 : decode cX8_layAround 119 = .ok (.goto (-94), 3) := by decide +kernel
theorem dX8_layAround_122 : decode cX8_layAround 122 = .ok (.iconst 0, 1) := by decide +kernel
theorem dX8_layAround_123 : decode cX8_layAround 123 = .ok (.istore_n 2, 1) := by decide +kernel
theorem dX8_layAround_124 : decode cX8_layAround 124 = .ok (.iload_n 2, 1) := by decide +kernel
theorem dX8_layAround_125 : decode cX8_layAround 125 = .ok (.aload_n 0, 1) := by decide +kernel
theorem dX8_layAround_126 : decode cX8_layAround 126 = .ok (.getfield 120, 3) := by decide +kernel
theorem dX8_layAround_129 : decode cX8_layAround 129 = .ok (.if_icmp .ge 115, 3) := by decide +kernel
theorem dX8_layAround_132 : decode cX8_layAround 132 = .ok (.iconst 0, 1) := by decide +kernel
theorem dX8_layAround_133 : decode cX8_layAround 133 = .ok (.istore_n 3, 1) := by decide +kernel
theorem dX8_layAround_134 : decode cX8_layAround 134 = .ok (.iload_n 3, 1) := by decide +kernel
theorem dX8_layAround_135 : decode cX8_layAround 135 = .ok (.aload_n 0, 1) := by decide +kernel
theorem dX8_layAround_136 : decode cX8_layAround 136 = .ok (.getfield 120, 3) := by decide +kernel
theorem dX8_layAround_139 : decode cX8_layAround 139 = .ok (.if_icmp .ge 99, 3) := by decide +kernel
theorem dX8_layAround_142 : decode cX8_layAround 142 = .ok (.iconst 0, 1) := by decide +kernel
theorem dX8_layAround_143 : decode cX8_layAround 143 = .ok (.istore 4, 2) := by decide +kernel
theorem dX8_layAround_145 : decode cX8_layAround 145 = .ok (.iload 4, 2) := by decide +kernel
theorem dX8_layAround_147 : decode cX8_layAround 147 = .ok (.aload_n 0, 1) := by decide +kernel
theorem dX8_layAround_148 : decode cX8_layAround 148 = .ok (.getfield 120, 3) := by decide +kernel
theorem dX8_layAround_151 : decode cX8_layAround 151 = .ok (.if_icmp .ge 81, 3) := by decide +kernel
theorem dX8_layAround_154 : decode cX8_layAround 154 = .ok (.aload_n 0, 1) := by decide +kernel
theorem dX8_layAround_155 : decode cX8_layAround 155 = .ok (.getfield 56, 3) := by decide +kernel
theorem dX8_layAround_158 : decode cX8_layAround 158 = .ok (.bipush 12, 2) := by decide +kernel
theorem dX8_layAround_160 : decode cX8_layAround 160 = .ok (.iload_n 3, 1) := by decide +kernel
theorem dX8_layAround_161 : decode cX8_layAround 161 = .ok (.imul, 1) := by decide +kernel
theorem dX8_layAround_162 : decode cX8_layAround 162 = .ok (.iload_n 2, 1) := by decide +kernel
theorem dX8_layAround_163 : decode cX8_layAround 163 = .ok (.iadd, 1) := by decide +kernel
theorem dX8_layAround_164 : decode cX8_layAround 164 = .ok (.iaload, 1) := by decide +kernel
theorem dX8_layAround_165 : decode cX8_layAround 165 = .ok (.aload_n 0, 1) := by decide +kernel
theorem dX8_layAround_166 : decode cX8_layAround 166 = .ok (.getfield 56, 3) := by decide +kernel
theorem dX8_layAround_169 : decode cX8_layAround 169 = .ok (.bipush 12, 2) := by decide +kernel
theorem dX8_layAround_171 : decode cX8_layAround 171 = .ok (.iload_n 2, 1) := by decide +kernel
theorem dX8_layAround_172 : decode cX8_layAround 172 = .ok (.imul, 1) := by decide +kernel
theorem dX8_layAround_173 : decode cX8_layAround 173 = .ok (.iload 4, 2) := by decide +kernel
theorem dX8_layAround_175 : decode cX8_layAround 175 = .ok (.iadd, 1) := by decide +kernel
theorem dX8_layAround_176 : decode cX8_layAround 176 = .ok (.iaload, 1) := by decide +kernel
theorem dX8_layAround_177 : decode cX8_layAround 177 = .ok (.iadd, 1) := by decide +kernel
theorem dX8_layAround_178 : decode cX8_layAround 178 = .ok (.istore 5, 2) := by decide +kernel
theorem dX8_layAround_180 : decode cX8_layAround 180 = .ok (.aload_n 0, 1) := by decide +kernel
theorem dX8_layAround_181 : decode cX8_layAround 181 = .ok (.getfield 56, 3) := by decide +kernel
theorem dX8_layAround_184 : decode cX8_layAround 184 = .ok (.bipush 12, 2) := by decide +kernel
theorem dX8_layAround_186 : decode cX8_layAround 186 = .ok (.iload_n 3, 1) := by decide +kernel
theorem dX8_layAround_187 : decode cX8_layAround 187 = .ok (.imul, 1) := by decide +kernel
theorem dX8_layAround_188 : decode cX8_layAround 188 = .ok (.iload 4, 2) := by decide +kernel
theorem dX8_layAround_190 : decode cX8_layAround 190 = .ok (.iadd, 1) := by decide +kernel
theorem dX8_layAround_191 : decode cX8_layAround 191 = .ok (.iload 5, 2) := by decide +kernel
theorem dX8_layAround_193 : decode cX8_layAround 193 = .ok (.aload_n 0, 1) := by decide +kernel
theorem dX8_layAround_194 : decode cX8_layAround 194 = .ok (.getfield 56, 3) := by decide +kernel
theorem dX8_layAround_197 : decode cX8_layAround 197 = .ok (.bipush 12, 2) := by decide +kernel
theorem dX8_layAround_199 : decode cX8_layAround 199 = .ok (.iload_n 3, 1) := by decide +kernel
theorem dX8_layAround_200 : decode cX8_layAround 200 = .ok (.imul, 1) := by decide +kernel
theorem dX8_layAround_201 : decode cX8_layAround 201 = .ok (.iload 4, 2) := by decide +kernel
theorem dX8_layAround_203 : decode cX8_layAround 203 = .ok (.iadd, 1) := by decide +kernel
theorem dX8_layAround_204 : decode cX8_layAround 204 = .ok (.iaload, 1) := by decide +kernel
theorem dX8_layAround_205 : decode cX8_layAround 205 = .ok (.if_icmp .ge 8, 3) := by decide +kernel
theorem dX8_layAround_208 : decode cX8_layAround 208 = .ok (.iload 5, 2) := by decide +kernel
theorem dX8_layAround_210 : decode cX8_layAround 210 = .ok (.goto 15, 3) := by decide +kernel
theorem dX8_layAround_213 : decode cX8_layAround 213 = .ok (.aload_n 0, 1) := by decide +kernel
theorem dX8_layAround_214 : decode cX8_layAround 214 = .ok (.getfield 56, 3) := by decide +kernel
theorem dX8_layAround_217 : decode cX8_layAround 217 = .ok (.bipush 12, 2) := by decide +kernel
theorem dX8_layAround_219 : decode cX8_layAround 219 = .ok (.iload_n 3, 1) := by decide +kernel
theorem dX8_layAround_220 : decode cX8_layAround 220 = .ok (.imul, 1) := by decide +kernel
theorem dX8_layAround_221 : decode cX8_layAround 221 = .ok (.iload 4, 2) := by decide +kernel
theorem dX8_layAround_223 : decode cX8_layAround 223 = .ok (.iadd, 1) := by decide +kernel
theorem dX8_layAround_224 : decode cX8_layAround 224 = .ok (.iaload, 1) := by decide +kernel
theorem dX8_layAround_225 : decode cX8_layAround 225 = .ok (.iastore, 1) := by decide +kernel
theorem dX8_layAround_226 : decode cX8_layAround 226 = .ok (.iinc 4 1, 3) := by decide +kernel
theorem dX8_layAround_229 : decode cX8_layAround 229 = .ok (.goto (-84), 3) := by decide +kernel
theorem dX8_layAround_232 : decode cX8_layAround 232 = .ok (.iinc 3 1, 3) := by decide +kernel
theorem dX8_layAround_235 : decode cX8_layAround 235 = .ok (.goto (-101), 3) := by decide +kernel
theorem dX8_layAround_238 : decode cX8_layAround 238 = .ok (.iinc 2 1, 3) := by decide +kernel
theorem dX8_layAround_241 : decode cX8_layAround 241 = .ok (.goto (-117), 3) := by decide +kernel
theorem dX8_layAround_244 : decode cX8_layAround 244 = .ok (.return_, 1) := by decide +kernel
theorem dX8_layNeeds_0 : decode cX8_layNeeds 0 = .ok (.aload_n 0, 1) := by decide +kernel
theorem dX8_layNeeds_1 : decode cX8_layNeeds 1 = .ok (.iconst (-1), 1) := by decide +kernel
theorem dX8_layNeeds_2 : decode cX8_layNeeds 2 = .ok (.invokevirtual 137, 3) := by decide +kernel
theorem dX8_layNeeds_5 : decode cX8_layNeeds 5 = .ok (.iconst 0, 1) := by decide +kernel
theorem dX8_layNeeds_6 : decode cX8_layNeeds 6 = .ok (.istore_n 2, 1) := by decide +kernel
theorem dX8_layNeeds_7 : decode cX8_layNeeds 7 = .ok (.iload_n 2, 1) := by decide +kernel
theorem dX8_layNeeds_8 : decode cX8_layNeeds 8 = .ok (.sipush 144, 3) := by decide +kernel
theorem dX8_layNeeds_11 : decode cX8_layNeeds 11 = .ok (.if_icmp .ge 21, 3) := by decide +kernel
theorem dX8_layNeeds_14 : decode cX8_layNeeds 14 = .ok (.aload_n 0, 1) := by decide +kernel
theorem dX8_layNeeds_15 : decode cX8_layNeeds 15 = .ok (.getfield 59, 3) := by decide +kernel
theorem dX8_layNeeds_18 : decode cX8_layNeeds 18 = .ok (.iload_n 2, 1) := by decide +kernel
theorem dX8_layNeeds_19 : decode cX8_layNeeds 19 = .ok (.aload_n 0, 1) := by decide +kernel
theorem dX8_layNeeds_20 : decode cX8_layNeeds 20 = .ok (.getfield 56, 3) := by decide +kernel
theorem dX8_layNeeds_23 : decode cX8_layNeeds 23 = .ok (.iload_n 2, 1) := by decide +kernel
theorem dX8_layNeeds_24 : decode cX8_layNeeds 24 = .ok (.iaload, 1) := by decide +kernel
theorem dX8_layNeeds_25 : decode cX8_layNeeds 25 = .ok (.iastore, 1) := by decide +kernel
theorem dX8_layNeeds_26 : decode cX8_layNeeds 26 = .ok (.iinc 2 1, 3) := by decide +kernel
theorem dX8_layNeeds_29 : decode cX8_layNeeds 29 = .ok (.goto (-22), 3) := by decide +kernel
theorem dX8_layNeeds_32 : decode cX8_layNeeds 32 = .ok (.aload_n 0, 1) := by decide +kernel
theorem dX8_layNeeds_33 : decode cX8_layNeeds 33 = .ok (.iload_n 1, 1) := by decide +kernel
theorem dX8_layNeeds_34 : decode cX8_layNeeds 34 = .ok (.invokevirtual 137, 3) := by decide +kernel
theorem dX8_layNeeds_37 : decode cX8_layNeeds 37 = .ok (.iconst 0, 1) := by decide +kernel
theorem dX8_layNeeds_38 : decode cX8_layNeeds 38 = .ok (.istore_n 2, 1) := by decide +kernel
theorem dX8_layNeeds_39 : decode cX8_layNeeds 39 = .ok (.iconst 0, 1) := by decide +kernel
theorem dX8_layNeeds_40 : decode cX8_layNeeds 40 = .ok (.istore_n 3, 1) := by decide +kernel
theorem dX8_layNeeds_41 : decode cX8_layNeeds 41 = .ok (.iload_n 3, 1) := by decide +kernel
theorem dX8_layNeeds_42 : decode cX8_layNeeds 42 = .ok (.aload_n 0, 1) := by decide +kernel
theorem dX8_layNeeds_43 : decode cX8_layNeeds 43 = .ok (.getfield 120, 3) := by decide +kernel
theorem dX8_layNeeds_46 : decode cX8_layNeeds 46 = .ok (.if_icmp .ge 206, 3) := by decide +kernel
theorem dX8_layNeeds_49 : decode cX8_layNeeds 49 = .ok (.iconst 0, 1) := by decide +kernel
theorem dX8_layNeeds_50 : decode cX8_layNeeds 50 = .ok (.istore 4, 2) := by decide +kernel
theorem dX8_layNeeds_52 : decode cX8_layNeeds 52 = .ok (.iload 4, 2) := by decide +kernel
theorem dX8_layNeeds_54 : decode cX8_layNeeds 54 = .ok (.aload_n 0, 1) := by decide +kernel
theorem dX8_layNeeds_55 : decode cX8_layNeeds 55 = .ok (.getfield 120, 3) := by decide +kernel
theorem dX8_layNeeds_58 : decode cX8_layNeeds 58 = .ok (.if_icmp .ge 188, 3) := by decide +kernel
theorem dX8_layNeeds_61 : decode cX8_layNeeds 61 = .ok (.iload_n 3, 1) := by decide +kernel
theorem dX8_layNeeds_62 : decode cX8_layNeeds 62 = .ok (.iload 4, 2) := by decide +kernel
theorem dX8_layNeeds_64 : decode cX8_layNeeds 64 = .ok (.if_icmp .eq 37, 3) := by decide +kernel
theorem dX8_layNeeds_67 : decode cX8_layNeeds 67 = .ok (.iload_n 3, 1) := by decide +kernel
theorem dX8_layNeeds_68 : decode cX8_layNeeds 68 = .ok (.iload_n 1, 1) := by decide +kernel
theorem dX8_layNeeds_69 : decode cX8_layNeeds 69 = .ok (.if_icmp .eq 32, 3) := by decide +kernel
theorem dX8_layNeeds_72 : decode cX8_layNeeds 72 = .ok (.iload 4, 2) := by decide +kernel
theorem dX8_layNeeds_74 : decode cX8_layNeeds 74 = .ok (.iload_n 1, 1) := by decide +kernel
theorem dX8_layNeeds_75 : decode cX8_layNeeds 75 = .ok (.if_icmp .eq 26, 3) := by decide +kernel
theorem dX8_layNeeds_78 : decode cX8_layNeeds 78 = .ok (.aload_n 0, 1) := by decide +kernel
theorem dX8_layNeeds_79 : decode cX8_layNeeds 79 = .ok (.getfield 52, 3) := by decide +kernel
theorem dX8_layNeeds_82 : decode cX8_layNeeds 82 = .ok (.iload_n 3, 1) := by decide +kernel
theorem dX8_layNeeds_83 : decode cX8_layNeeds 83 = .ok (.baload, 1) := by decide +kernel
theorem dX8_layNeeds_84 : decode cX8_layNeeds 84 = .ok (.ifCond .eq 17, 3) := by decide +kernel
theorem dX8_layNeeds_87 : decode cX8_layNeeds 87 = .ok (.aload_n 0, 1) := by decide +kernel
theorem dX8_layNeeds_88 : decode cX8_layNeeds 88 = .ok (.getfield 52, 3) := by decide +kernel
theorem dX8_layNeeds_91 : decode cX8_layNeeds 91 = .ok (.iload 4, 2) := by decide +kernel
theorem dX8_layNeeds_93 : decode cX8_layNeeds 93 = .ok (.baload, 1) := by decide +kernel
theorem dX8_layNeeds_94 : decode cX8_layNeeds 94 = .ok (.ifCond .eq 7, 3) := by decide +kernel
theorem dX8_layNeeds_97 : decode cX8_layNeeds 97 = .ok (.iconst 1, 1) := by decide +kernel
theorem dX8_layNeeds_98 : decode cX8_layNeeds 98 = .ok (.goto 4, 3) := by decide +kernel
theorem dX8_layNeeds_101 : decode cX8_layNeeds 101 = .ok (.iconst 0, 1) := by decide +kernel
theorem dX8_layNeeds_102 : decode cX8_layNeeds 102 = .ok (.istore 5, 2) := by decide +kernel
theorem dX8_layNeeds_104 : decode cX8_layNeeds 104 = .ok (.aload_n 0, 1) := by decide +kernel
theorem dX8_layNeeds_105 : decode cX8_layNeeds 105 = .ok (.getfield 31, 3) := by decide +kernel
theorem dX8_layNeeds_108 : decode cX8_layNeeds 108 = .ok (.bipush 12, 2) := by decide +kernel
theorem dX8_layNeeds_110 : decode cX8_layNeeds 110 = .ok (.iload_n 3, 1) := by decide +kernel
theorem dX8_layNeeds_111 : decode cX8_layNeeds 111 = .ok (.imul, 1) := by decide +kernel
theorem dX8_layNeeds_112 : decode cX8_layNeeds 112 = .ok (.iload_n 1, 1) := by decide +kernel
theorem dX8_layNeeds_113 : decode cX8_layNeeds 113 = .ok (.iadd, 1) := by decide +kernel
theorem dX8_layNeeds_114 : decode cX8_layNeeds 114 = .ok (.iaload, 1) := by decide +kernel
theorem dX8_layNeeds_115 : decode cX8_layNeeds 115 = .ok (.aload_n 0, 1) := by decide +kernel
theorem dX8_layNeeds_116 : decode cX8_layNeeds 116 = .ok (.getfield 31, 3) := by decide +kernel
theorem dX8_layNeeds_119 : decode cX8_layNeeds 119 = .ok (.bipush 12, 2) := by decide +kernel
theorem dX8_layNeeds_121 : decode cX8_layNeeds 121 = .ok (.iload_n 1, 1) := by decide +kernel
theorem dX8_layNeeds_122 : decode cX8_layNeeds 122 = .ok (.imul, 1) := by decide +kernel
theorem dX8_layNeeds_123 : decode cX8_layNeeds 123 = .ok (.iload 4, 2) := by decide +kernel
theorem dX8_layNeeds_125 : decode cX8_layNeeds 125 = .ok (.iadd, 1) := by decide +kernel
theorem dX8_layNeeds_126 : decode cX8_layNeeds 126 = .ok (.iaload, 1) := by decide +kernel
theorem dX8_layNeeds_127 : decode cX8_layNeeds 127 = .ok (.iadd, 1) := by decide +kernel
theorem dX8_layNeeds_128 : decode cX8_layNeeds 128 = .ok (.istore 6, 2) := by decide +kernel
theorem dX8_layNeeds_130 : decode cX8_layNeeds 130 = .ok (.aload_n 0, 1) := by decide +kernel
theorem dX8_layNeeds_131 : decode cX8_layNeeds 131 = .ok (.getfield 59, 3) := by decide +kernel
theorem dX8_layNeeds_134 : decode cX8_layNeeds 134 = .ok (.bipush 12, 2) := by decide +kernel
theorem dX8_layNeeds_136 : decode cX8_layNeeds 136 = .ok (.iload_n 3, 1) := by decide +kernel
theorem dX8_layNeeds_137 : decode cX8_layNeeds 137 = .ok (.imul, 1) := by decide +kernel
theorem dX8_layNeeds_138 : decode cX8_layNeeds 138 = .ok (.iload_n 1, 1) := by decide +kernel
theorem dX8_layNeeds_139 : decode cX8_layNeeds 139 = .ok (.iadd, 1) := by decide +kernel
theorem dX8_layNeeds_140 : decode cX8_layNeeds 140 = .ok (.iaload, 1) := by decide +kernel
theorem dX8_layNeeds_141 : decode cX8_layNeeds 141 = .ok (.aload_n 0, 1) := by decide +kernel
theorem dX8_layNeeds_142 : decode cX8_layNeeds 142 = .ok (.getfield 59, 3) := by decide +kernel
theorem dX8_layNeeds_145 : decode cX8_layNeeds 145 = .ok (.bipush 12, 2) := by decide +kernel
theorem dX8_layNeeds_147 : decode cX8_layNeeds 147 = .ok (.iload_n 1, 1) := by decide +kernel
theorem dX8_layNeeds_148 : decode cX8_layNeeds 148 = .ok (.imul, 1) := by decide +kernel
theorem dX8_layNeeds_149 : decode cX8_layNeeds 149 = .ok (.iload 4, 2) := by decide +kernel
theorem dX8_layNeeds_151 : decode cX8_layNeeds 151 = .ok (.iadd, 1) := by decide +kernel
theorem dX8_layNeeds_152 : decode cX8_layNeeds 152 = .ok (.iaload, 1) := by decide +kernel
theorem dX8_layNeeds_153 : decode cX8_layNeeds 153 = .ok (.iadd, 1) := by decide +kernel
theorem dX8_layNeeds_154 : decode cX8_layNeeds 154 = .ok (.iload 6, 2) := by decide +kernel
theorem dX8_layNeeds_156 : decode cX8_layNeeds 156 = .ok (.if_icmp .lt 24, 3) := by decide +kernel
theorem dX8_layNeeds_159 : decode cX8_layNeeds 159 = .ok (.aload_n 0, 1) := by decide +kernel
theorem dX8_layNeeds_160 : decode cX8_layNeeds 160 = .ok (.getfield 56, 3) := by decide +kernel
theorem dX8_layNeeds_163 : decode cX8_layNeeds 163 = .ok (.bipush 12, 2) := by decide +kernel
theorem dX8_layNeeds_165 : decode cX8_layNeeds 165 = .ok (.iload_n 3, 1) := by decide +kernel
theorem dX8_layNeeds_166 : decode cX8_layNeeds 166 = .ok (.imul, 1) := by decide +kernel
theorem dX8_layNeeds_167 : decode cX8_layNeeds 167 = .ok (.iload 4, 2) := by decide +kernel
theorem dX8_layNeeds_169 : decode cX8_layNeeds 169 = .ok (.iadd, 1) := by decide +kernel
theorem dX8_layNeeds_170 : decode cX8_layNeeds 170 = .ok (.iaload, 1) := by decide +kernel
theorem dX8_layNeeds_171 : decode cX8_layNeeds 171 = .ok (.iload 6, 2) := by decide +kernel
theorem dX8_layNeeds_173 : decode cX8_layNeeds 173 = .ok (.if_icmp .le 7, 3) := by decide +kernel
theorem dX8_layNeeds_176 : decode cX8_layNeeds 176 = .ok (.iconst 1, 1) := by decide +kernel
theorem dX8_layNeeds_177 : decode cX8_layNeeds 177 = .ok (.goto 4, 3) := by decide +kernel
theorem dX8_layNeeds_180 : decode cX8_layNeeds 180 = .ok (.iconst 0, 1) := by decide +kernel
theorem dX8_layNeeds_181 : decode cX8_layNeeds 181 = .ok (.istore 7, 2) := by decide +kernel
theorem dX8_layNeeds_183 : decode cX8_layNeeds 183 = .ok (.aload_n 0, 1) := by decide +kernel
theorem dX8_layNeeds_184 : decode cX8_layNeeds 184 = .ok (.getfield 62, 3) := by decide +kernel
theorem dX8_layNeeds_187 : decode cX8_layNeeds 187 = .ok (.bipush 12, 2) := by decide +kernel
theorem dX8_layNeeds_189 : decode cX8_layNeeds 189 = .ok (.iload_n 3, 1) := by decide +kernel
theorem dX8_layNeeds_190 : decode cX8_layNeeds 190 = .ok (.imul, 1) := by decide +kernel
theorem dX8_layNeeds_191 : decode cX8_layNeeds 191 = .ok (.iload 4, 2) := by decide +kernel
theorem dX8_layNeeds_193 : decode cX8_layNeeds 193 = .ok (.iadd, 1) := by decide +kernel
theorem dX8_layNeeds_194 : decode cX8_layNeeds 194 = .ok (.iload 5, 2) := by decide +kernel
theorem dX8_layNeeds_196 : decode cX8_layNeeds 196 = .ok (.ifCond .eq 19, 3) := by decide +kernel
theorem dX8_layNeeds_199 : decode cX8_layNeeds 199 = .ok (.iload 6, 2) := by decide +kernel
theorem dX8_layNeeds_201 : decode cX8_layNeeds 201 = .ok (.ldc 136, 2) := by decide +kernel
theorem dX8_layNeeds_203 : decode cX8_layNeeds 203 = .ok (.if_icmp .ge 12, 3) := by decide +kernel
theorem dX8_layNeeds_206 : decode cX8_layNeeds 206 = .ok (.iload 7, 2) := by decide +kernel
theorem dX8_layNeeds_208 : decode cX8_layNeeds 208 = .ok (.ifCond .eq 7, 3) := by decide +kernel
theorem dX8_layNeeds_211 : decode cX8_layNeeds 211 = .ok (.iconst 1, 1) := by decide +kernel
theorem dX8_layNeeds_212 : decode cX8_layNeeds 212 = .ok (.goto 4, 3) := by decide +kernel
theorem dX8_layNeeds_215 : decode cX8_layNeeds 215 = .ok (.iconst 0, 1) := by decide +kernel
theorem dX8_layNeeds_216 : decode cX8_layNeeds 216 = .ok (.bastore, 1) := by decide +kernel
theorem dX8_layNeeds_217 : decode cX8_layNeeds 217 = .ok (.iload_n 2, 1) := by decide +kernel
theorem dX8_layNeeds_218 : decode cX8_layNeeds 218 = .ok (.aload_n 0, 1) := by decide +kernel
theorem dX8_layNeeds_219 : decode cX8_layNeeds 219 = .ok (.getfield 62, 3) := by decide +kernel
theorem dX8_layNeeds_222 : decode cX8_layNeeds 222 = .ok (.bipush 12, 2) := by decide +kernel
theorem dX8_layNeeds_224 : decode cX8_layNeeds 224 = .ok (.iload_n 3, 1) := by decide +kernel
theorem dX8_layNeeds_225 : decode cX8_layNeeds 225 = .ok (.imul, 1) := by decide +kernel
theorem dX8_layNeeds_226 : decode cX8_layNeeds 226 = .ok (.iload 4, 2) := by decide +kernel
theorem dX8_layNeeds_228 : decode cX8_layNeeds 228 = .ok (.iadd, 1) := by decide +kernel
theorem dX8_layNeeds_229 : decode cX8_layNeeds 229 = .ok (.baload, 1) := by decide +kernel
theorem dX8_layNeeds_230 : decode cX8_layNeeds 230 = .ok (.ifCond .eq 7, 3) := by decide +kernel
theorem dX8_layNeeds_233 : decode cX8_layNeeds 233 = .ok (.iconst 1, 1) := by decide +kernel
theorem dX8_layNeeds_234 : decode cX8_layNeeds 234 = .ok (.goto 4, 3) := by decide +kernel
theorem dX8_layNeeds_237 : decode cX8_layNeeds 237 = .ok (.iconst 0, 1) := by decide +kernel
theorem dX8_layNeeds_238 : decode cX8_layNeeds 238 = .ok (.iadd, 1) := by decide +kernel
theorem dX8_layNeeds_239 : decode cX8_layNeeds 239 = .ok (.istore_n 2, 1) := by decide +kernel
theorem dX8_layNeeds_240 : decode cX8_layNeeds 240 = .ok (.iinc 4 1, 3) := by decide +kernel
theorem dX8_layNeeds_243 : decode cX8_layNeeds 243 = .ok (.goto (-191), 3) := by decide +kernel
theorem dX8_layNeeds_246 : decode cX8_layNeeds 246 = .ok (.iinc 3 1, 3) := by decide +kernel
theorem dX8_layNeeds_249 : decode cX8_layNeeds 249 = .ok (.goto (-208), 3) := by decide +kernel
theorem dX8_layNeeds_252 : decode cX8_layNeeds 252 = .ok (.iload_n 2, 1) := by decide +kernel
theorem dX8_layNeeds_253 : decode cX8_layNeeds 253 = .ok (.ireturn, 1) := by decide +kernel
theorem dX8_rankNow_0 : decode cX8_rankNow 0 = .ok (.aload_n 0, 1) := by decide +kernel
theorem dX8_rankNow_1 : decode cX8_rankNow 1 = .ok (.iload_n 1, 1) := by decide +kernel
theorem dX8_rankNow_2 : decode cX8_rankNow 2 = .ok (.invokevirtual 141, 3) := by decide +kernel
theorem dX8_rankNow_5 : decode cX8_rankNow 5 = .ok (.pop, 1) := by decide +kernel
theorem dX8_rankNow_6 : decode cX8_rankNow 6 = .ok (.iconst 0, 1) := by decide +kernel
theorem dX8_rankNow_7 : decode cX8_rankNow 7 = .ok (.istore_n 3, 1) := by decide +kernel
theorem dX8_rankNow_8 : decode cX8_rankNow 8 = .ok (.iload_n 3, 1) := by decide +kernel
theorem dX8_rankNow_9 : decode cX8_rankNow 9 = .ok (.aload_n 0, 1) := by decide +kernel
theorem dX8_rankNow_10 : decode cX8_rankNow 10 = .ok (.getfield 120, 3) := by decide +kernel
theorem dX8_rankNow_13 : decode cX8_rankNow 13 = .ok (.if_icmp .ge 91, 3) := by decide +kernel
theorem dX8_rankNow_16 : decode cX8_rankNow 16 = .ok (.iconst 0, 1) := by decide +kernel
theorem dX8_rankNow_17 : decode cX8_rankNow 17 = .ok (.istore 4, 2) := by decide +kernel
theorem dX8_rankNow_19 : decode cX8_rankNow 19 = .ok (.iload 4, 2) := by decide +kernel
theorem dX8_rankNow_21 : decode cX8_rankNow 21 = .ok (.aload_n 0, 1) := by decide +kernel
theorem dX8_rankNow_22 : decode cX8_rankNow 22 = .ok (.getfield 120, 3) := by decide +kernel
theorem dX8_rankNow_25 : decode cX8_rankNow 25 = .ok (.if_icmp .ge 73, 3) := by decide +kernel
theorem dX8_rankNow_28 : decode cX8_rankNow 28 = .ok (.aload_n 0, 1) := by decide +kernel
theorem dX8_rankNow_29 : decode cX8_rankNow 29 = .ok (.getfield 62, 3) := by decide +kernel
theorem dX8_rankNow_32 : decode cX8_rankNow 32 = .ok (.bipush 12, 2) := by decide +kernel
theorem dX8_rankNow_34 : decode cX8_rankNow 34 = .ok (.iload_n 3, 1) := by decide +kernel
theorem dX8_rankNow_35 : decode cX8_rankNow 35 = .ok (.imul, 1) := by decide +kernel
theorem dX8_rankNow_36 : decode cX8_rankNow 36 = .ok (.iload 4, 2) := by decide +kernel
theorem dX8_rankNow_38 : decode cX8_rankNow 38 = .ok (.iadd, 1) := by decide +kernel
theorem dX8_rankNow_39 : decode cX8_rankNow 39 = .ok (.baload, 1) := by decide +kernel
theorem dX8_rankNow_40 : decode cX8_rankNow 40 = .ok (.ifCond .eq 52, 3) := by decide +kernel
theorem dX8_rankNow_43 : decode cX8_rankNow 43 = .ok (.aload_n 0, 1) := by decide +kernel
theorem dX8_rankNow_44 : decode cX8_rankNow 44 = .ok (.getfield 31, 3) := by decide +kernel
theorem dX8_rankNow_47 : decode cX8_rankNow 47 = .ok (.bipush 12, 2) := by decide +kernel
theorem dX8_rankNow_49 : decode cX8_rankNow 49 = .ok (.iload_n 3, 1) := by decide +kernel
theorem dX8_rankNow_50 : decode cX8_rankNow 50 = .ok (.imul, 1) := by decide +kernel
theorem dX8_rankNow_51 : decode cX8_rankNow 51 = .ok (.iload 4, 2) := by decide +kernel
theorem dX8_rankNow_53 : decode cX8_rankNow 53 = .ok (.iadd, 1) := by decide +kernel
theorem dX8_rankNow_54 : decode cX8_rankNow 54 = .ok (.aload_n 0, 1) := by decide +kernel
theorem dX8_rankNow_55 : decode cX8_rankNow 55 = .ok (.getfield 31, 3) := by decide +kernel
theorem dX8_rankNow_58 : decode cX8_rankNow 58 = .ok (.bipush 12, 2) := by decide +kernel
theorem dX8_rankNow_60 : decode cX8_rankNow 60 = .ok (.iload_n 3, 1) := by decide +kernel
theorem dX8_rankNow_61 : decode cX8_rankNow 61 = .ok (.imul, 1) := by decide +kernel
theorem dX8_rankNow_62 : decode cX8_rankNow 62 = .ok (.iload_n 1, 1) := by decide +kernel
theorem dX8_rankNow_63 : decode cX8_rankNow 63 = .ok (.iadd, 1) := by decide +kernel
theorem dX8_rankNow_64 : decode cX8_rankNow 64 = .ok (.iaload, 1) := by decide +kernel
theorem dX8_rankNow_65 : decode cX8_rankNow 65 = .ok (.aload_n 0, 1) := by decide +kernel
theorem dX8_rankNow_66 : decode cX8_rankNow 66 = .ok (.getfield 31, 3) := by decide +kernel
theorem dX8_rankNow_69 : decode cX8_rankNow 69 = .ok (.bipush 12, 2) := by decide +kernel
theorem dX8_rankNow_71 : decode cX8_rankNow 71 = .ok (.iload_n 1, 1) := by decide +kernel
theorem dX8_rankNow_72 : decode cX8_rankNow 72 = .ok (.imul, 1) := by decide +kernel
theorem dX8_rankNow_73 : decode cX8_rankNow 73 = .ok (.iload 4, 2) := by decide +kernel
theorem dX8_rankNow_75 : decode cX8_rankNow 75 = .ok (.iadd, 1) := by decide +kernel
theorem dX8_rankNow_76 : decode cX8_rankNow 76 = .ok (.iaload, 1) := by decide +kernel
theorem dX8_rankNow_77 : decode cX8_rankNow 77 = .ok (.iadd, 1) := by decide +kernel
theorem dX8_rankNow_78 : decode cX8_rankNow 78 = .ok (.iastore, 1) := by decide +kernel
theorem dX8_rankNow_79 : decode cX8_rankNow 79 = .ok (.aload_n 0, 1) := by decide +kernel
theorem dX8_rankNow_80 : decode cX8_rankNow 80 = .ok (.getfield 34, 3) := by decide +kernel
theorem dX8_rankNow_83 : decode cX8_rankNow 83 = .ok (.bipush 12, 2) := by decide +kernel
theorem dX8_rankNow_85 : decode cX8_rankNow 85 = .ok (.iload_n 3, 1) := by decide +kernel
theorem dX8_rankNow_86 : decode cX8_rankNow 86 = .ok (.imul, 1) := by decide +kernel
theorem dX8_rankNow_87 : decode cX8_rankNow 87 = .ok (.iload 4, 2) := by decide +kernel
theorem dX8_rankNow_89 : decode cX8_rankNow 89 = .ok (.iadd, 1) := by decide +kernel
theorem dX8_rankNow_90 : decode cX8_rankNow 90 = .ok (.iload_n 1, 1) := by decide +kernel
theorem dX8_rankNow_91 : decode cX8_rankNow 91 = .ok (.iastore, 1) := by decide +kernel
theorem dX8_rankNow_92 : decode cX8_rankNow 92 = .ok (.iinc 4 1, 3) := by decide +kernel
theorem dX8_rankNow_95 : decode cX8_rankNow 95 = .ok (.goto (-76), 3) := by decide +kernel
theorem dX8_rankNow_98 : decode cX8_rankNow 98 = .ok (.iinc 3 1, 3) := by decide +kernel
theorem dX8_rankNow_101 : decode cX8_rankNow 101 = .ok (.goto (-93), 3) := by decide +kernel
theorem dX8_rankNow_104 : decode cX8_rankNow 104 = .ok (.aload_n 0, 1) := by decide +kernel
theorem dX8_rankNow_105 : decode cX8_rankNow 105 = .ok (.getfield 52, 3) := by decide +kernel
theorem dX8_rankNow_108 : decode cX8_rankNow 108 = .ok (.iload_n 1, 1) := by decide +kernel
theorem dX8_rankNow_109 : decode cX8_rankNow 109 = .ok (.iconst 0, 1) := by decide +kernel
theorem dX8_rankNow_110 : decode cX8_rankNow 110 = .ok (.bastore, 1) := by decide +kernel
theorem dX8_rankNow_111 : decode cX8_rankNow 111 = .ok (.aload_n 0, 1) := by decide +kernel
theorem dX8_rankNow_112 : decode cX8_rankNow 112 = .ok (.getfield 25, 3) := by decide +kernel
theorem dX8_rankNow_115 : decode cX8_rankNow 115 = .ok (.iload_n 1, 1) := by decide +kernel
theorem dX8_rankNow_116 : decode cX8_rankNow 116 = .ok (.iload_n 2, 1) := by decide +kernel
theorem dX8_rankNow_117 : decode cX8_rankNow 117 = .ok (.iastore, 1) := by decide +kernel
theorem dX8_rankNow_118 : decode cX8_rankNow 118 = .ok (.aload_n 0, 1) := by decide +kernel
theorem dX8_rankNow_119 : decode cX8_rankNow 119 = .ok (.getfield 28, 3) := by decide +kernel
theorem dX8_rankNow_122 : decode cX8_rankNow 122 = .ok (.iload_n 2, 1) := by decide +kernel
theorem dX8_rankNow_123 : decode cX8_rankNow 123 = .ok (.iload_n 1, 1) := by decide +kernel
theorem dX8_rankNow_124 : decode cX8_rankNow 124 = .ok (.iastore, 1) := by decide +kernel
theorem dX8_rankNow_125 : decode cX8_rankNow 125 = .ok (.return_, 1) := by decide +kernel
theorem dX8_arcsAt_0 : decode cX8_arcsAt 0 = .ok (.iconst 0, 1) := by decide +kernel
theorem dX8_arcsAt_1 : decode cX8_arcsAt 1 = .ok (.istore_n 2, 1) := by decide +kernel
theorem dX8_arcsAt_2 : decode cX8_arcsAt 2 = .ok (.iconst 0, 1) := by decide +kernel
theorem dX8_arcsAt_3 : decode cX8_arcsAt 3 = .ok (.istore_n 3, 1) := by decide +kernel
theorem dX8_arcsAt_4 : decode cX8_arcsAt 4 = .ok (.iload_n 3, 1) := by decide +kernel
theorem dX8_arcsAt_5 : decode cX8_arcsAt 5 = .ok (.aload_n 0, 1) := by decide +kernel
theorem dX8_arcsAt_6 : decode cX8_arcsAt 6 = .ok (.getfield 120, 3) := by decide +kernel
theorem dX8_arcsAt_9 : decode cX8_arcsAt 9 = .ok (.if_icmp .ge 85, 3) := by decide +kernel
theorem dX8_arcsAt_12 : decode cX8_arcsAt 12 = .ok (.iload_n 2, 1) := by decide +kernel
theorem dX8_arcsAt_13 : decode cX8_arcsAt 13 = .ok (.iload_n 3, 1) := by decide +kernel
theorem dX8_arcsAt_14 : decode cX8_arcsAt 14 = .ok (.iload_n 1, 1) := by decide +kernel
theorem dX8_arcsAt_15 : decode cX8_arcsAt 15 = .ok (.if_icmp .eq 32, 3) := by decide +kernel
theorem dX8_arcsAt_18 : decode cX8_arcsAt 18 = .ok (.aload_n 0, 1) := by decide +kernel
theorem dX8_arcsAt_19 : decode cX8_arcsAt 19 = .ok (.getfield 52, 3) := by decide +kernel
theorem dX8_arcsAt_22 : decode cX8_arcsAt 22 = .ok (.iload_n 3, 1) := by decide +kernel
theorem dX8_arcsAt_23 : decode cX8_arcsAt 23 = .ok (.baload, 1) := by decide +kernel
theorem dX8_arcsAt_24 : decode cX8_arcsAt 24 = .ok (.ifCond .eq 23, 3) := by decide +kernel
theorem dX8_arcsAt_27 : decode cX8_arcsAt 27 = .ok (.aload_n 0, 1) := by decide +kernel
theorem dX8_arcsAt_28 : decode cX8_arcsAt 28 = .ok (.getfield 31, 3) := by decide +kernel
theorem dX8_arcsAt_31 : decode cX8_arcsAt 31 = .ok (.bipush 12, 2) := by decide +kernel
theorem dX8_arcsAt_33 : decode cX8_arcsAt 33 = .ok (.iload_n 3, 1) := by decide +kernel
theorem dX8_arcsAt_34 : decode cX8_arcsAt 34 = .ok (.imul, 1) := by decide +kernel
theorem dX8_arcsAt_35 : decode cX8_arcsAt 35 = .ok (.iload_n 1, 1) := by decide +kernel
theorem dX8_arcsAt_36 : decode cX8_arcsAt 36 = .ok (.iadd, 1) := by decide +kernel
theorem dX8_arcsAt_37 : decode cX8_arcsAt 37 = .ok (.iaload, 1) := by decide +kernel
theorem dX8_arcsAt_38 : decode cX8_arcsAt 38 = .ok (.ldc 136, 2) := by decide +kernel
theorem dX8_arcsAt_40 : decode cX8_arcsAt 40 = .ok (.if_icmp .ge 7, 3) := by decide +kernel
theorem dX8_arcsAt_43 : decode cX8_arcsAt 43 = .ok (.iconst 1, 1) := by decide +kernel
theorem dX8_arcsAt_44 : decode cX8_arcsAt 44 = .ok (.goto 4, 3) := by decide +kernel
theorem dX8_arcsAt_47 : decode cX8_arcsAt 47 = .ok (.iconst 0, 1) := by decide +kernel
theorem dX8_arcsAt_48 : decode cX8_arcsAt 48 = .ok (.iadd, 1) := by decide +kernel
theorem dX8_arcsAt_49 : decode cX8_arcsAt 49 = .ok (.istore_n 2, 1) := by decide +kernel
theorem dX8_arcsAt_50 : decode cX8_arcsAt 50 = .ok (.iload_n 2, 1) := by decide +kernel
theorem dX8_arcsAt_51 : decode cX8_arcsAt 51 = .ok (.iload_n 3, 1) := by decide +kernel
theorem dX8_arcsAt_52 : decode cX8_arcsAt 52 = .ok (.iload_n 1, 1) := by decide +kernel
theorem dX8_arcsAt_53 : decode cX8_arcsAt 53 = .ok (.if_icmp .eq 32, 3) := by decide +kernel
theorem dX8_arcsAt_56 : decode cX8_arcsAt 56 = .ok (.aload_n 0, 1) := by decide +kernel
theorem dX8_arcsAt_57 : decode cX8_arcsAt 57 = .ok (.getfield 52, 3) := by decide +kernel
theorem dX8_arcsAt_60 : decode cX8_arcsAt 60 = .ok (.iload_n 3, 1) := by decide +kernel
theorem dX8_arcsAt_61 : decode cX8_arcsAt 61 = .ok (.baload, 1) := by decide +kernel
theorem dX8_arcsAt_62 : decode cX8_arcsAt 62 = .ok (.ifCond .eq 23, 3) := by decide +kernel
theorem dX8_arcsAt_65 : decode cX8_arcsAt 65 = .ok (.aload_n 0, 1) := by decide +kernel
theorem dX8_arcsAt_66 : decode cX8_arcsAt 66 = .ok (.getfield 31, 3) := by decide +kernel
theorem dX8_arcsAt_69 : decode cX8_arcsAt 69 = .ok (.bipush 12, 2) := by decide +kernel
theorem dX8_arcsAt_71 : decode cX8_arcsAt 71 = .ok (.iload_n 1, 1) := by decide +kernel
theorem dX8_arcsAt_72 : decode cX8_arcsAt 72 = .ok (.imul, 1) := by decide +kernel
theorem dX8_arcsAt_73 : decode cX8_arcsAt 73 = .ok (.iload_n 3, 1) := by decide +kernel
theorem dX8_arcsAt_74 : decode cX8_arcsAt 74 = .ok (.iadd, 1) := by decide +kernel
theorem dX8_arcsAt_75 : decode cX8_arcsAt 75 = .ok (.iaload, 1) := by decide +kernel
theorem dX8_arcsAt_76 : decode cX8_arcsAt 76 = .ok (.ldc 136, 2) := by decide +kernel
theorem dX8_arcsAt_78 : decode cX8_arcsAt 78 = .ok (.if_icmp .ge 7, 3) := by decide +kernel
theorem dX8_arcsAt_81 : decode cX8_arcsAt 81 = .ok (.iconst 1, 1) := by decide +kernel
theorem dX8_arcsAt_82 : decode cX8_arcsAt 82 = .ok (.goto 4, 3) := by decide +kernel
theorem dX8_arcsAt_85 : decode cX8_arcsAt 85 = .ok (.iconst 0, 1) := by decide +kernel
theorem dX8_arcsAt_86 : decode cX8_arcsAt 86 = .ok (.iadd, 1) := by decide +kernel
theorem dX8_arcsAt_87 : decode cX8_arcsAt 87 = .ok (.istore_n 2, 1) := by decide +kernel
theorem dX8_arcsAt_88 : decode cX8_arcsAt 88 = .ok (.iinc 3 1, 3) := by decide +kernel
theorem dX8_arcsAt_91 : decode cX8_arcsAt 91 = .ok (.goto (-87), 3) := by decide +kernel
theorem dX8_arcsAt_94 : decode cX8_arcsAt 94 = .ok (.iload_n 2, 1) := by decide +kernel
theorem dX8_arcsAt_95 : decode cX8_arcsAt 95 = .ok (.ireturn, 1) := by decide +kernel
theorem dX8_nextRoad_0 : decode cX8_nextRoad 0 = .ok (.iconst (-1), 1) := by decide +kernel
theorem dX8_nextRoad_1 : decode cX8_nextRoad 1 = .ok (.istore_n 1, 1) := by decide +kernel
theorem dX8_nextRoad_2 : decode cX8_nextRoad 2 = .ok (.ldc 136, 2) := by decide +kernel
theorem dX8_nextRoad_4 : decode cX8_nextRoad 4 = .ok (.istore_n 2, 1) := by decide +kernel
theorem dX8_nextRoad_5 : decode cX8_nextRoad 5 = .ok (.iconst 0, 1) := by decide +kernel
theorem dX8_nextRoad_6 : decode cX8_nextRoad 6 = .ok (.istore_n 3, 1) := by decide +kernel
theorem dX8_nextRoad_7 : decode cX8_nextRoad 7 = .ok (.iload_n 3, 1) := by decide +kernel
theorem dX8_nextRoad_8 : decode cX8_nextRoad 8 = .ok (.aload_n 0, 1) := by decide +kernel
theorem dX8_nextRoad_9 : decode cX8_nextRoad 9 = .ok (.getfield 120, 3) := by decide +kernel
theorem dX8_nextRoad_12 : decode cX8_nextRoad 12 = .ok (.if_icmp .ge 56, 3) := by decide +kernel
theorem dX8_nextRoad_15 : decode cX8_nextRoad 15 = .ok (.aload_n 0, 1) := by decide +kernel
theorem dX8_nextRoad_16 : decode cX8_nextRoad 16 = .ok (.getfield 52, 3) := by decide +kernel
theorem dX8_nextRoad_19 : decode cX8_nextRoad 19 = .ok (.iload_n 3, 1) := by decide +kernel
theorem dX8_nextRoad_20 : decode cX8_nextRoad 20 = .ok (.baload, 1) := by decide +kernel
theorem dX8_nextRoad_21 : decode cX8_nextRoad 21 = .ok (.ifCond .eq 41, 3) := by decide +kernel
theorem dX8_nextRoad_24 : decode cX8_nextRoad 24 = .ok (.aload_n 0, 1) := by decide +kernel
theorem dX8_nextRoad_25 : decode cX8_nextRoad 25 = .ok (.iload_n 3, 1) := by decide +kernel
theorem dX8_nextRoad_26 : decode cX8_nextRoad 26 = .ok (.invokevirtual 141, 3) := by decide +kernel
theorem dX8_nextRoad_29 : decode cX8_nextRoad 29 = .ok (.aload_n 0, 1) := by decide +kernel
theorem dX8_nextRoad_30 : decode cX8_nextRoad 30 = .ok (.iload_n 3, 1) := by decide +kernel
theorem dX8_nextRoad_31 : decode cX8_nextRoad 31 = .ok (.invokevirtual 145, 3) := by decide +kernel
theorem dX8_nextRoad_34 : decode cX8_nextRoad 34 = .ok (.isub, 1) := by decide +kernel
theorem dX8_nextRoad_35 : decode cX8_nextRoad 35 = .ok (.istore 4, 2) := by decide +kernel
theorem dX8_nextRoad_37 : decode cX8_nextRoad 37 = .ok (.iload 4, 2) := by decide +kernel
theorem dX8_nextRoad_39 : decode cX8_nextRoad 39 = .ok (.iload_n 2, 1) := by decide +kernel
theorem dX8_nextRoad_40 : decode cX8_nextRoad 40 = .ok (.if_icmp .ge 7, 3) := by decide +kernel
theorem dX8_nextRoad_43 : decode cX8_nextRoad 43 = .ok (.iload_n 3, 1) := by decide +kernel
theorem dX8_nextRoad_44 : decode cX8_nextRoad 44 = .ok (.goto 4, 3) := by decide +kernel
theorem dX8_nextRoad_47 : decode cX8_nextRoad 47 = .ok (.iload_n 1, 1) := by decide +kernel
theorem dX8_nextRoad_48 : decode cX8_nextRoad 48 = .ok (.istore_n 1, 1) := by decide +kernel
theorem dX8_nextRoad_49 : decode cX8_nextRoad 49 = .ok (.iload 4, 2) := by decide +kernel
theorem dX8_nextRoad_51 : decode cX8_nextRoad 51 = .ok (.iload_n 2, 1) := by decide +kernel
theorem dX8_nextRoad_52 : decode cX8_nextRoad 52 = .ok (.if_icmp .ge 8, 3) := by decide +kernel
theorem dX8_nextRoad_55 : decode cX8_nextRoad 55 = .ok (.iload 4, 2) := by decide +kernel
theorem dX8_nextRoad_57 : decode cX8_nextRoad 57 = .ok (.goto 4, 3) := by decide +kernel
theorem dX8_nextRoad_60 : decode cX8_nextRoad 60 = .ok (.iload_n 2, 1) := by decide +kernel
theorem dX8_nextRoad_61 : decode cX8_nextRoad 61 = .ok (.istore_n 2, 1) := by decide +kernel
theorem dX8_nextRoad_62 : decode cX8_nextRoad 62 = .ok (.iinc 3 1, 3) := by decide +kernel
theorem dX8_nextRoad_65 : decode cX8_nextRoad 65 = .ok (.goto (-58), 3) := by decide +kernel
theorem dX8_nextRoad_68 : decode cX8_nextRoad 68 = .ok (.iload_n 1, 1) := by decide +kernel
theorem dX8_nextRoad_69 : decode cX8_nextRoad 69 = .ok (.ireturn, 1) := by decide +kernel
theorem dX8_allLeft_0 : decode cX8_allLeft 0 = .ok (.iconst 0, 1) := by decide +kernel
theorem dX8_allLeft_1 : decode cX8_allLeft 1 = .ok (.istore_n 1, 1) := by decide +kernel
theorem dX8_allLeft_2 : decode cX8_allLeft 2 = .ok (.iload_n 1, 1) := by decide +kernel
theorem dX8_allLeft_3 : decode cX8_allLeft 3 = .ok (.aload_n 0, 1) := by decide +kernel
theorem dX8_allLeft_4 : decode cX8_allLeft 4 = .ok (.getfield 120, 3) := by decide +kernel
theorem dX8_allLeft_7 : decode cX8_allLeft 7 = .ok (.if_icmp .ge 16, 3) := by decide +kernel
theorem dX8_allLeft_10 : decode cX8_allLeft 10 = .ok (.aload_n 0, 1) := by decide +kernel
theorem dX8_allLeft_11 : decode cX8_allLeft 11 = .ok (.getfield 52, 3) := by decide +kernel
theorem dX8_allLeft_14 : decode cX8_allLeft 14 = .ok (.iload_n 1, 1) := by decide +kernel
theorem dX8_allLeft_15 : decode cX8_allLeft 15 = .ok (.iconst 1, 1) := by decide +kernel
theorem dX8_allLeft_16 : decode cX8_allLeft 16 = .ok (.bastore, 1) := by decide +kernel
theorem dX8_allLeft_17 : decode cX8_allLeft 17 = .ok (.iinc 1 1, 3) := by decide +kernel
theorem dX8_allLeft_20 : decode cX8_allLeft 20 = .ok (.goto (-18), 3) := by decide +kernel
theorem dX8_allLeft_23 : decode cX8_allLeft 23 = .ok (.aload_n 0, 1) := by decide +kernel
theorem dX8_allLeft_24 : decode cX8_allLeft 24 = .ok (.invokevirtual 148, 3) := by decide +kernel
theorem dX8_allLeft_27 : decode cX8_allLeft 27 = .ok (.return_, 1) := by decide +kernel
theorem dX8_findOrder_0 : decode cX8_findOrder 0 = .ok (.aload_n 0, 1) := by decide +kernel
theorem dX8_findOrder_1 : decode cX8_findOrder 1 = .ok (.invokevirtual 151, 3) := by decide +kernel
theorem dX8_findOrder_4 : decode cX8_findOrder 4 = .ok (.iconst 0, 1) := by decide +kernel
theorem dX8_findOrder_5 : decode cX8_findOrder 5 = .ok (.istore_n 1, 1) := by decide +kernel
theorem dX8_findOrder_6 : decode cX8_findOrder 6 = .ok (.iload_n 1, 1) := by decide +kernel
theorem dX8_findOrder_7 : decode cX8_findOrder 7 = .ok (.aload_n 0, 1) := by decide +kernel
theorem dX8_findOrder_8 : decode cX8_findOrder 8 = .ok (.getfield 120, 3) := by decide +kernel
theorem dX8_findOrder_11 : decode cX8_findOrder 11 = .ok (.if_icmp .ge 18, 3) := by decide +kernel
theorem dX8_findOrder_14 : decode cX8_findOrder 14 = .ok (.aload_n 0, 1) := by decide +kernel
theorem dX8_findOrder_15 : decode cX8_findOrder 15 = .ok (.aload_n 0, 1) := by decide +kernel
theorem dX8_findOrder_16 : decode cX8_findOrder 16 = .ok (.invokevirtual 154, 3) := by decide +kernel
theorem dX8_findOrder_19 : decode cX8_findOrder 19 = .ok (.iload_n 1, 1) := by decide +kernel
theorem dX8_findOrder_20 : decode cX8_findOrder 20 = .ok (.invokevirtual 157, 3) := by decide +kernel
theorem dX8_findOrder_23 : decode cX8_findOrder 23 = .ok (.iinc 1 1, 3) := by decide +kernel
theorem dX8_findOrder_26 : decode cX8_findOrder 26 = .ok (.goto (-20), 3) := by decide +kernel
theorem dX8_findOrder_29 : decode cX8_findOrder 29 = .ok (.return_, 1) := by decide +kernel
theorem dX8_layArcs_0 : decode cX8_layArcs 0 = .ok (.aload_n 0, 1) := by decide +kernel
theorem dX8_layArcs_1 : decode cX8_layArcs 1 = .ok (.invokevirtual 151, 3) := by decide +kernel
theorem dX8_layArcs_4 : decode cX8_layArcs 4 = .ok (.iconst 0, 1) := by decide +kernel
theorem dX8_layArcs_5 : decode cX8_layArcs 5 = .ok (.istore_n 1, 1) := by decide +kernel
theorem dX8_layArcs_6 : decode cX8_layArcs 6 = .ok (.iload_n 1, 1) := by decide +kernel
theorem dX8_layArcs_7 : decode cX8_layArcs 7 = .ok (.aload_n 0, 1) := by decide +kernel
theorem dX8_layArcs_8 : decode cX8_layArcs 8 = .ok (.getfield 120, 3) := by decide +kernel
theorem dX8_layArcs_11 : decode cX8_layArcs 11 = .ok (.if_icmp .ge 20, 3) := by decide +kernel
theorem dX8_layArcs_14 : decode cX8_layArcs 14 = .ok (.aload_n 0, 1) := by decide +kernel
theorem dX8_layArcs_15 : decode cX8_layArcs 15 = .ok (.aload_n 0, 1) := by decide +kernel
theorem dX8_layArcs_16 : decode cX8_layArcs 16 = .ok (.getfield 28, 3) := by decide +kernel
theorem dX8_layArcs_19 : decode cX8_layArcs 19 = .ok (.iload_n 1, 1) := by decide +kernel
theorem dX8_layArcs_20 : decode cX8_layArcs 20 = .ok (.iaload, 1) := by decide +kernel
theorem dX8_layArcs_21 : decode cX8_layArcs 21 = .ok (.iload_n 1, 1) := by decide +kernel
theorem dX8_layArcs_22 : decode cX8_layArcs 22 = .ok (.invokevirtual 157, 3) := by decide +kernel
theorem dX8_layArcs_25 : decode cX8_layArcs 25 = .ok (.iinc 1 1, 3) := by decide +kernel
theorem dX8_layArcs_28 : decode cX8_layArcs 28 = .ok (.goto (-22), 3) := by decide +kernel
theorem dX8_layArcs_31 : decode cX8_layArcs 31 = .ok (.return_, 1) := by decide +kernel
theorem dX8_layLeasts_0 : decode cX8_layLeasts 0 = .ok (.iconst 0, 1) := by decide +kernel
theorem dX8_layLeasts_1 : decode cX8_layLeasts 1 = .ok (.istore_n 1, 1) := by decide +kernel
theorem dX8_layLeasts_2 : decode cX8_layLeasts 2 = .ok (.iload_n 1, 1) := by decide +kernel
theorem dX8_layLeasts_3 : decode cX8_layLeasts 3 = .ok (.aload_n 0, 1) := by decide +kernel
theorem dX8_layLeasts_4 : decode cX8_layLeasts 4 = .ok (.getfield 120, 3) := by decide +kernel
theorem dX8_layLeasts_7 : decode cX8_layLeasts 7 = .ok (.if_icmp .ge 84, 3) := by decide +kernel
theorem dX8_layLeasts_10 : decode cX8_layLeasts 10 = .ok (.iconst 0, 1) := by decide +kernel
theorem dX8_layLeasts_11 : decode cX8_layLeasts 11 = .ok (.istore_n 2, 1) := by decide +kernel
theorem dX8_layLeasts_12 : decode cX8_layLeasts 12 = .ok (.iload_n 2, 1) := by decide +kernel
theorem dX8_layLeasts_13 : decode cX8_layLeasts 13 = .ok (.aload_n 0, 1) := by decide +kernel
theorem dX8_layLeasts_14 : decode cX8_layLeasts 14 = .ok (.getfield 120, 3) := by decide +kernel
theorem dX8_layLeasts_17 : decode cX8_layLeasts 17 = .ok (.if_icmp .ge 68, 3) := by decide +kernel
theorem dX8_layLeasts_20 : decode cX8_layLeasts 20 = .ok (.aload_n 0, 1) := by decide +kernel
theorem dX8_layLeasts_21 : decode cX8_layLeasts 21 = .ok (.iload_n 1, 1) := by decide +kernel
theorem dX8_layLeasts_22 : decode cX8_layLeasts 22 = .ok (.iload_n 2, 1) := by decide +kernel
theorem dX8_layLeasts_23 : decode cX8_layLeasts 23 = .ok (.invokevirtual 132, 3) := by decide +kernel
theorem dX8_layLeasts_26 : decode cX8_layLeasts 26 = .ok (.ifCond .eq 29, 3) := by decide +kernel
theorem dX8_layLeasts_29 : decode cX8_layLeasts 29 = .ok (.bipush 16, 2) := by decide +kernel
theorem dX8_layLeasts_31 : decode cX8_layLeasts 31 = .ok (.aload_n 0, 1) := by decide +kernel
theorem dX8_layLeasts_32 : decode cX8_layLeasts 32 = .ok (.getfield 22, 3) := by decide +kernel
theorem dX8_layLeasts_35 : decode cX8_layLeasts 35 = .ok (.bipush 12, 2) := by decide +kernel
theorem dX8_layLeasts_37 : decode cX8_layLeasts 37 = .ok (.iload_n 1, 1) := by decide +kernel
theorem dX8_layLeasts_38 : decode cX8_layLeasts 38 = .ok (.imul, 1) := by decide +kernel
theorem dX8_layLeasts_39 : decode cX8_layLeasts 39 = .ok (.iload_n 2, 1) := by decide +kernel
theorem dX8_layLeasts_40 : decode cX8_layLeasts 40 = .ok (.iadd, 1) := by decide +kernel
theorem dX8_layLeasts_41 : decode cX8_layLeasts 41 = .ok (.iaload, 1) := by decide +kernel
theorem dX8_layLeasts_42 : decode cX8_layLeasts 42 = .ok (.aload_n 0, 1) := by decide +kernel
theorem dX8_layLeasts_43 : decode cX8_layLeasts 43 = .ok (.getfield 19, 3) := by decide +kernel
theorem dX8_layLeasts_46 : decode cX8_layLeasts 46 = .ok (.iload_n 2, 1) := by decide +kernel
theorem dX8_layLeasts_47 : decode cX8_layLeasts 47 = .ok (.iaload, 1) := by decide +kernel
theorem dX8_layLeasts_48 : decode cX8_layLeasts 48 = .ok (.iadd, 1) := by decide +kernel
theorem dX8_layLeasts_49 : decode cX8_layLeasts 49 = .ok (.imul, 1) := by decide +kernel
theorem dX8_layLeasts_50 : decode cX8_layLeasts 50 = .ok (.iconst 1, 1) := by decide +kernel
theorem dX8_layLeasts_51 : decode cX8_layLeasts 51 = .ok (.iadd, 1) := by decide +kernel
theorem dX8_layLeasts_52 : decode cX8_layLeasts 52 = .ok (.goto 5, 3) := by decide +kernel
theorem dX8_layLeasts_55 : decode cX8_layLeasts 55 = .ok (.ldc 136, 2) := by decide +kernel
theorem dX8_layLeasts_57 : decode cX8_layLeasts 57 = .ok (.istore_n 3, 1) := by decide +kernel
theorem dX8_layLeasts_58 : decode cX8_layLeasts 58 = .ok (.aload_n 0, 1) := by decide +kernel
theorem dX8_layLeasts_59 : decode cX8_layLeasts 59 = .ok (.getfield 37, 3) := by decide +kernel
theorem dX8_layLeasts_62 : decode cX8_layLeasts 62 = .ok (.bipush 12, 2) := by decide +kernel
theorem dX8_layLeasts_64 : decode cX8_layLeasts 64 = .ok (.iload_n 1, 1) := by decide +kernel
theorem dX8_layLeasts_65 : decode cX8_layLeasts 65 = .ok (.imul, 1) := by decide +kernel
theorem dX8_layLeasts_66 : decode cX8_layLeasts 66 = .ok (.iload_n 2, 1) := by decide +kernel
theorem dX8_layLeasts_67 : decode cX8_layLeasts 67 = .ok (.iadd, 1) := by decide +kernel
theorem dX8_layLeasts_68 : decode cX8_layLeasts 68 = .ok (.iload_n 1, 1) := by decide +kernel
theorem dX8_layLeasts_69 : decode cX8_layLeasts 69 = .ok (.iload_n 2, 1) := by decide +kernel
theorem dX8_layLeasts_70 : decode cX8_layLeasts 70 = .ok (.if_icmp .ne 7, 3) := by decide +kernel
theorem dX8_layLeasts_73 : decode cX8_layLeasts 73 = .ok (.iconst 0, 1) := by decide +kernel
theorem dX8_layLeasts_74 : decode cX8_layLeasts 74 = .ok (.goto 4, 3) := by decide +kernel
theorem dX8_layLeasts_77 : decode cX8_layLeasts 77 = .ok (.iload_n 3, 1) := by decide +kernel
theorem dX8_layLeasts_78 : decode cX8_layLeasts 78 = .ok (.iastore, 1) := by decide +kernel
theorem dX8_layLeasts_79 : decode cX8_layLeasts 79 = .ok (.iinc 2 1, 3) := by decide +kernel
theorem dX8_layLeasts_82 : decode cX8_layLeasts 82 = .ok (.goto (-70), 3) := by decide +kernel
theorem dX8_layLeasts_85 : decode cX8_layLeasts 85 = .ok (.iinc 1 1, 3) := by decide +kernel
theorem dX8_layLeasts_88 : decode cX8_layLeasts 88 = .ok (.goto (-86), 3) := by decide +kernel
theorem dX8_layLeasts_91 : decode cX8_layLeasts 91 = .ok (.iconst 0, 1) := by decide +kernel
theorem dX8_layLeasts_92 : decode cX8_layLeasts 92 = .ok (.istore_n 1, 1) := by decide +kernel
theorem dX8_layLeasts_93 : decode cX8_layLeasts 93 = .ok (.iload_n 1, 1) := by decide +kernel
theorem dX8_layLeasts_94 : decode cX8_layLeasts 94 = .ok (.aload_n 0, 1) := by decide +kernel
theorem dX8_layLeasts_95 : decode cX8_layLeasts 95 = .ok (.getfield 120, 3) := by decide +kernel
theorem dX8_layLeasts_98 : decode cX8_layLeasts 98 = .ok (.if_icmp .ge 109, 3) := by decide +kernel
theorem dX8_layLeasts_101 : decode cX8_layLeasts 101 = .ok (.iconst 0, 1) := by decide +kernel
theorem dX8_layLeasts_102 : decode cX8_layLeasts 102 = .ok (.istore_n 2, 1) := by decide +kernel
theorem dX8_layLeasts_103 : decode cX8_layLeasts 103 = .ok (.iload_n 2, 1) := by decide +kernel
theorem dX8_layLeasts_104 : decode cX8_layLeasts 104 = .ok (.aload_n 0, 1) := by decide +kernel
theorem dX8_layLeasts_105 : decode cX8_layLeasts 105 = .ok (.getfield 120, 3) := by decide +kernel
theorem dX8_layLeasts_108 : decode cX8_layLeasts 108 = .ok (.if_icmp .ge 93, 3) := by decide +kernel
theorem dX8_layLeasts_111 : decode cX8_layLeasts 111 = .ok (.iconst 0, 1) := by decide +kernel
theorem dX8_layLeasts_112 : decode cX8_layLeasts 112 = .ok (.istore_n 3, 1) := by decide +kernel
theorem dX8_layLeasts_113 : decode cX8_layLeasts 113 = .ok (.iload_n 3, 1) := by decide +kernel
theorem dX8_layLeasts_114 : decode cX8_layLeasts 114 = .ok (.aload_n 0, 1) := by decide +kernel
theorem dX8_layLeasts_115 : decode cX8_layLeasts 115 = .ok (.getfield 120, 3) := by decide +kernel
theorem dX8_layLeasts_118 : decode cX8_layLeasts 118 = .ok (.if_icmp .ge 77, 3) := by decide +kernel
theorem dX8_layLeasts_121 : decode cX8_layLeasts 121 = .ok (.aload_n 0, 1) := by decide +kernel
theorem dX8_layLeasts_122 : decode cX8_layLeasts 122 = .ok (.getfield 37, 3) := by decide +kernel
theorem dX8_layLeasts_125 : decode cX8_layLeasts 125 = .ok (.bipush 12, 2) := by decide +kernel
theorem dX8_layLeasts_127 : decode cX8_layLeasts 127 = .ok (.iload_n 2, 1) := by decide +kernel
theorem dX8_layLeasts_128 : decode cX8_layLeasts 128 = .ok (.imul, 1) := by decide +kernel
theorem dX8_layLeasts_129 : decode cX8_layLeasts 129 = .ok (.iload_n 1, 1) := by decide +kernel
theorem dX8_layLeasts_130 : decode cX8_layLeasts 130 = .ok (.iadd, 1) := by decide +kernel
theorem dX8_layLeasts_131 : decode cX8_layLeasts 131 = .ok (.iaload, 1) := by decide +kernel
theorem dX8_layLeasts_132 : decode cX8_layLeasts 132 = .ok (.aload_n 0, 1) := by decide +kernel
theorem dX8_layLeasts_133 : decode cX8_layLeasts 133 = .ok (.getfield 37, 3) := by decide +kernel
theorem dX8_layLeasts_136 : decode cX8_layLeasts 136 = .ok (.bipush 12, 2) := by decide +kernel
theorem dX8_layLeasts_138 : decode cX8_layLeasts 138 = .ok (.iload_n 1, 1) := by decide +kernel
theorem dX8_layLeasts_139 : decode cX8_layLeasts 139 = .ok (.imul, 1) := by decide +kernel
theorem dX8_layLeasts_140 : decode cX8_layLeasts 140 = .ok (.iload_n 3, 1) := by decide +kernel
theorem dX8_layLeasts_141 : decode cX8_layLeasts 141 = .ok (.iadd, 1) := by decide +kernel
theorem dX8_layLeasts_142 : decode cX8_layLeasts 142 = .ok (.iaload, 1) := by decide +kernel
theorem dX8_layLeasts_143 : decode cX8_layLeasts 143 = .ok (.iadd, 1) := by decide +kernel
theorem dX8_layLeasts_144 : decode cX8_layLeasts 144 = .ok (.istore 4, 2) := by decide +kernel
theorem dX8_layLeasts_146 : decode cX8_layLeasts 146 = .ok (.aload_n 0, 1) := by decide +kernel
theorem dX8_layLeasts_147 : decode cX8_layLeasts 147 = .ok (.getfield 37, 3) := by decide +kernel
theorem dX8_layLeasts_150 : decode cX8_layLeasts 150 = .ok (.bipush 12, 2) := by decide +kernel
theorem dX8_layLeasts_152 : decode cX8_layLeasts 152 = .ok (.iload_n 2, 1) := by decide +kernel
theorem dX8_layLeasts_153 : decode cX8_layLeasts 153 = .ok (.imul, 1) := by decide +kernel
theorem dX8_layLeasts_154 : decode cX8_layLeasts 154 = .ok (.iload_n 3, 1) := by decide +kernel
theorem dX8_layLeasts_155 : decode cX8_layLeasts 155 = .ok (.iadd, 1) := by decide +kernel
theorem dX8_layLeasts_156 : decode cX8_layLeasts 156 = .ok (.iload 4, 2) := by decide +kernel
theorem dX8_layLeasts_158 : decode cX8_layLeasts 158 = .ok (.aload_n 0, 1) := by decide +kernel
theorem dX8_layLeasts_159 : decode cX8_layLeasts 159 = .ok (.getfield 37, 3) := by decide +kernel
theorem dX8_layLeasts_162 : decode cX8_layLeasts 162 = .ok (.bipush 12, 2) := by decide +kernel
theorem dX8_layLeasts_164 : decode cX8_layLeasts 164 = .ok (.iload_n 2, 1) := by decide +kernel
theorem dX8_layLeasts_165 : decode cX8_layLeasts 165 = .ok (.imul, 1) := by decide +kernel
theorem dX8_layLeasts_166 : decode cX8_layLeasts 166 = .ok (.iload_n 3, 1) := by decide +kernel
theorem dX8_layLeasts_167 : decode cX8_layLeasts 167 = .ok (.iadd, 1) := by decide +kernel
theorem dX8_layLeasts_168 : decode cX8_layLeasts 168 = .ok (.iaload, 1) := by decide +kernel
theorem dX8_layLeasts_169 : decode cX8_layLeasts 169 = .ok (.if_icmp .ge 8, 3) := by decide +kernel
theorem dX8_layLeasts_172 : decode cX8_layLeasts 172 = .ok (.iload 4, 2) := by decide +kernel
theorem dX8_layLeasts_174 : decode cX8_layLeasts 174 = .ok (.goto 14, 3) := by decide +kernel
theorem dX8_layLeasts_177 : decode cX8_layLeasts 177 = .ok (.aload_n 0, 1) := by decide +kernel
theorem dX8_layLeasts_178 : decode cX8_layLeasts 178 = .ok (.getfield 37, 3) := by decide +kernel
theorem dX8_layLeasts_181 : decode cX8_layLeasts 181 = .ok (.bipush 12, 2) := by decide +kernel
theorem dX8_layLeasts_183 : decode cX8_layLeasts 183 = .ok (.iload_n 2, 1) := by decide +kernel
theorem dX8_layLeasts_184 : decode cX8_layLeasts 184 = .ok (.imul, 1) := by decide +kernel
theorem dX8_layLeasts_185 : decode cX8_layLeasts 185 = .ok (.iload_n 3, 1) := by decide +kernel
theorem dX8_layLeasts_186 : decode cX8_layLeasts 186 = .ok (.iadd, 1) := by decide +kernel
theorem dX8_layLeasts_187 : decode cX8_layLeasts 187 = .ok (.iaload, 1) := by decide +kernel
theorem dX8_layLeasts_188 : decode cX8_layLeasts 188 = .ok (.iastore, 1) := by decide +kernel
theorem dX8_layLeasts_189 : decode cX8_layLeasts 189 = .ok (.iinc 3 1, 3) := by decide +kernel
theorem dX8_layLeasts_192 : decode cX8_layLeasts 192 = .ok (.goto (-79), 3) := by decide +kernel
theorem dX8_layLeasts_195 : decode cX8_layLeasts 195 = .ok (.iinc 2 1, 3) := by decide +kernel
theorem dX8_layLeasts_198 : decode cX8_layLeasts 198 = .ok (.goto (-95), 3) := by decide +kernel
theorem dX8_layLeasts_201 : decode cX8_layLeasts 201 = .ok (.iinc 1 1, 3) := by decide +kernel
theorem dX8_layLeasts_204 : decode cX8_layLeasts 204 = .ok (.goto (-111), 3) := by decide +kernel
theorem dX8_layLeasts_207 : decode cX8_layLeasts 207 = .ok (.return_, 1) := by decide +kernel
theorem dX8_nextOn_0 : decode cX8_nextOn 0 = .ok (.iconst 0, 1) := by decide +kernel
theorem dX8_nextOn_1 : decode cX8_nextOn 1 = .ok (.istore_n 3, 1) := by decide +kernel
theorem dX8_nextOn_2 : decode cX8_nextOn 2 = .ok (.iload_n 3, 1) := by decide +kernel
theorem dX8_nextOn_3 : decode cX8_nextOn 3 = .ok (.iload_n 1, 1) := by decide +kernel
theorem dX8_nextOn_4 : decode cX8_nextOn 4 = .ok (.if_icmp .eq 61, 3) := by decide +kernel
theorem dX8_nextOn_7 : decode cX8_nextOn 7 = .ok (.aload_n 0, 1) := by decide +kernel
theorem dX8_nextOn_8 : decode cX8_nextOn 8 = .ok (.iload_n 1, 1) := by decide +kernel
theorem dX8_nextOn_9 : decode cX8_nextOn 9 = .ok (.iload_n 3, 1) := by decide +kernel
theorem dX8_nextOn_10 : decode cX8_nextOn 10 = .ok (.invokevirtual 132, 3) := by decide +kernel
theorem dX8_nextOn_13 : decode cX8_nextOn 13 = .ok (.ifCond .eq 52, 3) := by decide +kernel
theorem dX8_nextOn_16 : decode cX8_nextOn 16 = .ok (.bipush 16, 2) := by decide +kernel
theorem dX8_nextOn_18 : decode cX8_nextOn 18 = .ok (.aload_n 0, 1) := by decide +kernel
theorem dX8_nextOn_19 : decode cX8_nextOn 19 = .ok (.getfield 22, 3) := by decide +kernel
theorem dX8_nextOn_22 : decode cX8_nextOn 22 = .ok (.bipush 12, 2) := by decide +kernel
theorem dX8_nextOn_24 : decode cX8_nextOn 24 = .ok (.iload_n 1, 1) := by decide +kernel
theorem dX8_nextOn_25 : decode cX8_nextOn 25 = .ok (.imul, 1) := by decide +kernel
theorem dX8_nextOn_26 : decode cX8_nextOn 26 = .ok (.iload_n 3, 1) := by decide +kernel
theorem dX8_nextOn_27 : decode cX8_nextOn 27 = .ok (.iadd, 1) := by decide +kernel
theorem dX8_nextOn_28 : decode cX8_nextOn 28 = .ok (.iaload, 1) := by decide +kernel
theorem dX8_nextOn_29 : decode cX8_nextOn 29 = .ok (.aload_n 0, 1) := by decide +kernel
theorem dX8_nextOn_30 : decode cX8_nextOn 30 = .ok (.getfield 19, 3) := by decide +kernel
theorem dX8_nextOn_33 : decode cX8_nextOn 33 = .ok (.iload_n 3, 1) := by decide +kernel
theorem dX8_nextOn_34 : decode cX8_nextOn 34 = .ok (.iaload, 1) := by decide +kernel
theorem dX8_nextOn_35 : decode cX8_nextOn 35 = .ok (.iadd, 1) := by decide +kernel
theorem dX8_nextOn_36 : decode cX8_nextOn 36 = .ok (.imul, 1) := by decide +kernel
theorem dX8_nextOn_37 : decode cX8_nextOn 37 = .ok (.iconst 1, 1) := by decide +kernel
theorem dX8_nextOn_38 : decode cX8_nextOn 38 = .ok (.iadd, 1) := by decide +kernel
theorem dX8_nextOn_39 : decode cX8_nextOn 39 = .ok (.aload_n 0, 1) := by decide +kernel
theorem dX8_nextOn_40 : decode cX8_nextOn 40 = .ok (.getfield 37, 3) := by decide +kernel
theorem dX8_nextOn_43 : decode cX8_nextOn 43 = .ok (.bipush 12, 2) := by decide +kernel
theorem dX8_nextOn_45 : decode cX8_nextOn 45 = .ok (.iload_n 3, 1) := by decide +kernel
theorem dX8_nextOn_46 : decode cX8_nextOn 46 = .ok (.imul, 1) := by decide +kernel
theorem dX8_nextOn_47 : decode cX8_nextOn 47 = .ok (.iload_n 2, 1) := by decide +kernel
theorem dX8_nextOn_48 : decode cX8_nextOn 48 = .ok (.iadd, 1) := by decide +kernel
theorem dX8_nextOn_49 : decode cX8_nextOn 49 = .ok (.iaload, 1) := by decide +kernel
theorem dX8_nextOn_50 : decode cX8_nextOn 50 = .ok (.iadd, 1) := by decide +kernel
theorem dX8_nextOn_51 : decode cX8_nextOn 51 = .ok (.aload_n 0, 1) := by decide +kernel
theorem dX8_nextOn_52 : decode cX8_nextOn 52 = .ok (.getfield 37, 3) := by decide +kernel
theorem dX8_nextOn_55 : decode cX8_nextOn 55 = .ok (.bipush 12, 2) := by decide +kernel
theorem dX8_nextOn_57 : decode cX8_nextOn 57 = .ok (.iload_n 1, 1) := by decide +kernel
theorem dX8_nextOn_58 : decode cX8_nextOn 58 = .ok (.imul, 1) := by decide +kernel
theorem dX8_nextOn_59 : decode cX8_nextOn 59 = .ok (.iload_n 2, 1) := by decide +kernel
theorem dX8_nextOn_60 : decode cX8_nextOn 60 = .ok (.iadd, 1) := by decide +kernel
theorem dX8_nextOn_61 : decode cX8_nextOn 61 = .ok (.iaload, 1) := by decide +kernel
theorem dX8_nextOn_62 : decode cX8_nextOn 62 = .ok (.if_icmp .eq 9, 3) := by decide +kernel
theorem dX8_nextOn_65 : decode cX8_nextOn 65 = .ok (.iinc 3 1, 3) := by decide +kernel
theorem dX8_nextOn_68 : decode cX8_nextOn 68 = .ok (.goto (-66), 3) := by decide +kernel
theorem dX8_nextOn_71 : decode cX8_nextOn 71 = .ok (.iload_n 3, 1) := by decide +kernel
theorem dX8_nextOn_72 : decode cX8_nextOn 72 = .ok (.ireturn, 1) := by decide +kernel
theorem dX8_layWays_0 : decode cX8_layWays 0 = .ok (.aload_n 0, 1) := by decide +kernel
theorem dX8_layWays_1 : decode cX8_layWays 1 = .ok (.invokevirtual 161, 3) := by decide +kernel
theorem dX8_layWays_4 : decode cX8_layWays 4 = .ok (.iconst 0, 1) := by decide +kernel
theorem dX8_layWays_5 : decode cX8_layWays 5 = .ok (.istore_n 1, 1) := by decide +kernel
theorem dX8_layWays_6 : decode cX8_layWays 6 = .ok (.iload_n 1, 1) := by decide +kernel
theorem dX8_layWays_7 : decode cX8_layWays 7 = .ok (.aload_n 0, 1) := by decide +kernel
theorem dX8_layWays_8 : decode cX8_layWays 8 = .ok (.getfield 120, 3) := by decide +kernel
theorem dX8_layWays_11 : decode cX8_layWays 11 = .ok (.if_icmp .ge 16, 3) := by decide +kernel
theorem dX8_layWays_14 : decode cX8_layWays 14 = .ok (.aload_n 0, 1) := by decide +kernel
theorem dX8_layWays_15 : decode cX8_layWays 15 = .ok (.getfield 40, 3) := by decide +kernel
theorem dX8_layWays_18 : decode cX8_layWays 18 = .ok (.iload_n 1, 1) := by decide +kernel
theorem dX8_layWays_19 : decode cX8_layWays 19 = .ok (.iconst 0, 1) := by decide +kernel
theorem dX8_layWays_20 : decode cX8_layWays 20 = .ok (.iastore, 1) := by decide +kernel
theorem dX8_layWays_21 : decode cX8_layWays 21 = .ok (.iinc 1 1, 3) := by decide +kernel
theorem dX8_layWays_24 : decode cX8_layWays 24 = .ok (.goto (-18), 3) := by decide +kernel
theorem dX8_layWays_27 : decode cX8_layWays 27 = .ok (.iconst 0, 1) := by decide +kernel
theorem dX8_layWays_28 : decode cX8_layWays 28 = .ok (.istore_n 1, 1) := by decide +kernel
theorem dX8_layWays_29 : decode cX8_layWays 29 = .ok (.iload_n 1, 1) := by decide +kernel
theorem dX8_layWays_30 : decode cX8_layWays 30 = .ok (.aload_n 0, 1) := by decide +kernel
theorem dX8_layWays_31 : decode cX8_layWays 31 = .ok (.getfield 120, 3) := by decide +kernel
theorem dX8_layWays_34 : decode cX8_layWays 34 = .ok (.if_icmp .ge 82, 3) := by decide +kernel
theorem dX8_layWays_37 : decode cX8_layWays 37 = .ok (.iconst 0, 1) := by decide +kernel
theorem dX8_layWays_38 : decode cX8_layWays 38 = .ok (.istore_n 2, 1) := by decide +kernel
theorem dX8_layWays_39 : decode cX8_layWays 39 = .ok (.iload_n 2, 1) := by decide +kernel
theorem dX8_layWays_40 : decode cX8_layWays 40 = .ok (.aload_n 0, 1) := by decide +kernel
theorem dX8_layWays_41 : decode cX8_layWays 41 = .ok (.getfield 120, 3) := by decide +kernel
theorem dX8_layWays_44 : decode cX8_layWays 44 = .ok (.if_icmp .ge 66, 3) := by decide +kernel
theorem dX8_layWays_47 : decode cX8_layWays 47 = .ok (.iload_n 1, 1) := by decide +kernel
theorem dX8_layWays_48 : decode cX8_layWays 48 = .ok (.iload_n 2, 1) := by decide +kernel
theorem dX8_layWays_49 : decode cX8_layWays 49 = .ok (.if_icmp .eq 19, 3) := by decide +kernel
theorem dX8_layWays_52 : decode cX8_layWays 52 = .ok (.aload_n 0, 1) := by decide +kernel
theorem dX8_layWays_53 : decode cX8_layWays 53 = .ok (.getfield 37, 3) := by decide +kernel
theorem dX8_layWays_56 : decode cX8_layWays 56 = .ok (.bipush 12, 2) := by decide +kernel
theorem dX8_layWays_58 : decode cX8_layWays 58 = .ok (.iload_n 1, 1) := by decide +kernel
theorem dX8_layWays_59 : decode cX8_layWays 59 = .ok (.imul, 1) := by decide +kernel
theorem dX8_layWays_60 : decode cX8_layWays 60 = .ok (.iload_n 2, 1) := by decide +kernel
theorem dX8_layWays_61 : decode cX8_layWays 61 = .ok (.iadd, 1) := by decide +kernel
theorem dX8_layWays_62 : decode cX8_layWays 62 = .ok (.iaload, 1) := by decide +kernel
theorem dX8_layWays_63 : decode cX8_layWays 63 = .ok (.ldc 136, 2) := by decide +kernel
theorem dX8_layWays_65 : decode cX8_layWays 65 = .ok (.if_icmp .lt 7, 3) := by decide +kernel
theorem dX8_layWays_68 : decode cX8_layWays 68 = .ok (.iload_n 2, 1) := by decide +kernel
theorem dX8_layWays_69 : decode cX8_layWays 69 = .ok (.goto 9, 3) := by decide +kernel
theorem dX8_layWays_72 : decode cX8_layWays 72 = .ok (.aload_n 0, 1) := by decide +kernel
theorem dX8_layWays_73 : decode cX8_layWays 73 = .ok (.iload_n 1, 1) := by decide +kernel
theorem dX8_layWays_74 : decode cX8_layWays 74 = .ok (.iload_n 2, 1) := by decide +kernel
theorem dX8_layWays_75 : decode cX8_layWays 75 = .ok (.invokevirtual 164, 3) := by decide +kernel
theorem dX8_layWays_78 : decode cX8_layWays 78 = .ok (.istore_n 3, 1) := by decide +kernel
theorem dX8_layWays_79 : decode cX8_layWays 79 = .ok (.iload_n 3, 1) := by decide +kernel
theorem dX8_layWays_80 : decode cX8_layWays 80 = .ok (.iload_n 2, 1) := by decide +kernel
theorem dX8_layWays_81 : decode cX8_layWays 81 = .ok (.if_icmp .eq 23, 3) := by decide +kernel
theorem dX8_layWays_84 : decode cX8_layWays 84 = .ok (.aload_n 0, 1) := by decide +kernel
theorem dX8_layWays_85 : decode cX8_layWays 85 = .ok (.getfield 40, 3) := by decide +kernel
theorem dX8_layWays_88 : decode cX8_layWays 88 = .ok (.iload_n 3, 1) := by decide +kernel
theorem dX8_layWays_89 : decode cX8_layWays 89 = .ok (.dup2, 1) := by decide +kernel
theorem dX8_layWays_90 : decode cX8_layWays 90 = .ok (.iaload, 1) := by decide +kernel
theorem dX8_layWays_91 : decode cX8_layWays 91 = .ok (.iconst 1, 1) := by decide +kernel
theorem dX8_layWays_92 : decode cX8_layWays 92 = .ok (.iadd, 1) := by decide +kernel
theorem dX8_layWays_93 : decode cX8_layWays 93 = .ok (.iastore, 1) := by decide +kernel
theorem dX8_layWays_94 : decode cX8_layWays 94 = .ok (.aload_n 0, 1) := by decide +kernel
theorem dX8_layWays_95 : decode cX8_layWays 95 = .ok (.iload_n 3, 1) := by decide +kernel
theorem dX8_layWays_96 : decode cX8_layWays 96 = .ok (.iload_n 2, 1) := by decide +kernel
theorem dX8_layWays_97 : decode cX8_layWays 97 = .ok (.invokevirtual 164, 3) := by decide +kernel
theorem dX8_layWays_100 : decode cX8_layWays 100 = .ok (.istore_n 3, 1) := by decide +kernel
theorem dX8_layWays_101 : decode cX8_layWays 101 = .ok (.goto (-22), 3) := by decide +kernel
theorem dX8_layWays_104 : decode cX8_layWays 104 = .ok (.iinc 2 1, 3) := by decide +kernel
theorem dX8_layWays_107 : decode cX8_layWays 107 = .ok (.goto (-68), 3) := by decide +kernel
theorem dX8_layWays_110 : decode cX8_layWays 110 = .ok (.iinc 1 1, 3) := by decide +kernel
theorem dX8_layWays_113 : decode cX8_layWays 113 = .ok (.goto (-84), 3) := by decide +kernel
theorem dX8_layWays_116 : decode cX8_layWays 116 = .ok (.return_, 1) := by decide +kernel
theorem dX8_isRoad_0 : decode cX8_isRoad 0 = .ok (.iload_n 1, 1) := by decide +kernel
theorem dX8_isRoad_1 : decode cX8_isRoad 1 = .ok (.iconst 0, 1) := by decide +kernel
theorem dX8_isRoad_2 : decode cX8_isRoad 2 = .ok (.aload_n 0, 1) := by decide +kernel
theorem dX8_isRoad_3 : decode cX8_isRoad 3 = .ok (.getfield 120, 3) := by decide +kernel
theorem dX8_isRoad_6 : decode cX8_isRoad 6 = .ok (.iconst 1, 1) := by decide +kernel
theorem dX8_isRoad_7 : decode cX8_isRoad 7 = .ok (.isub, 1) := by decide +kernel
theorem dX8_isRoad_8 : decode cX8_isRoad 8 = .ok (.invokestatic 89, 3) := by decide +kernel
theorem dX8_isRoad_11 : decode cX8_isRoad 11 = .ok (.ireturn, 1) := by decide +kernel
theorem dX8_areRoads_0 : decode cX8_areRoads 0 = .ok (.aload_n 0, 1) := by decide +kernel
theorem dX8_areRoads_1 : decode cX8_areRoads 1 = .ok (.iload_n 1, 1) := by decide +kernel
theorem dX8_areRoads_2 : decode cX8_areRoads 2 = .ok (.invokevirtual 168, 3) := by decide +kernel
theorem dX8_areRoads_5 : decode cX8_areRoads 5 = .ok (.ifCond .eq 15, 3) := by decide +kernel
theorem dX8_areRoads_8 : decode cX8_areRoads 8 = .ok (.aload_n 0, 1) := by decide +kernel
theorem dX8_areRoads_9 : decode cX8_areRoads 9 = .ok (.iload_n 2, 1) := by decide +kernel
theorem dX8_areRoads_10 : decode cX8_areRoads 10 = .ok (.invokevirtual 168, 3) := by decide +kernel
theorem dX8_areRoads_13 : decode cX8_areRoads 13 = .ok (.ifCond .eq 7, 3) := by decide +kernel
theorem dX8_areRoads_16 : decode cX8_areRoads 16 = .ok (.iconst 1, 1) := by decide +kernel
theorem dX8_areRoads_17 : decode cX8_areRoads 17 = .ok (.goto 4, 3) := by decide +kernel
theorem dX8_areRoads_20 : decode cX8_areRoads 20 = .ok (.iconst 0, 1) := by decide +kernel
theorem dX8_areRoads_21 : decode cX8_areRoads 21 = .ok (.ireturn, 1) := by decide +kernel
theorem dX8_isTurn_0 : decode cX8_isTurn 0 = .ok (.aload_n 0, 1) := by decide +kernel
theorem dX8_isTurn_1 : decode cX8_isTurn 1 = .ok (.getfield 16, 3) := by decide +kernel
theorem dX8_isTurn_4 : decode cX8_isTurn 4 = .ok (.iload_n 1, 1) := by decide +kernel
theorem dX8_isTurn_5 : decode cX8_isTurn 5 = .ok (.iaload, 1) := by decide +kernel
theorem dX8_isTurn_6 : decode cX8_isTurn 6 = .ok (.aload_n 0, 1) := by decide +kernel
theorem dX8_isTurn_7 : decode cX8_isTurn 7 = .ok (.getfield 13, 3) := by decide +kernel
theorem dX8_isTurn_10 : decode cX8_isTurn 10 = .ok (.iload_n 2, 1) := by decide +kernel
theorem dX8_isTurn_11 : decode cX8_isTurn 11 = .ok (.iaload, 1) := by decide +kernel
theorem dX8_isTurn_12 : decode cX8_isTurn 12 = .ok (.if_icmp .ne 7, 3) := by decide +kernel
theorem dX8_isTurn_15 : decode cX8_isTurn 15 = .ok (.iconst 1, 1) := by decide +kernel
theorem dX8_isTurn_16 : decode cX8_isTurn 16 = .ok (.goto 4, 3) := by decide +kernel
theorem dX8_isTurn_19 : decode cX8_isTurn 19 = .ok (.iconst 0, 1) := by decide +kernel
theorem dX8_isTurn_20 : decode cX8_isTurn 20 = .ok (.ireturn, 1) := by decide +kernel
theorem dX8_alter_0 : decode cX8_alter 0 = .ok (.aload_n 0, 1) := by decide +kernel
theorem dX8_alter_1 : decode cX8_alter 1 = .ok (.dup, 1) := by decide +kernel
theorem dX8_alter_2 : decode cX8_alter 2 = .ok (.getfield 171, 3) := by decide +kernel
theorem dX8_alter_5 : decode cX8_alter 5 = .ok (.iconst 1, 1) := by decide +kernel
theorem dX8_alter_6 : decode cX8_alter 6 = .ok (.iadd, 1) := by decide +kernel
theorem dX8_alter_7 : decode cX8_alter 7 = .ok (.putfield 171, 3) := by decide +kernel
theorem dX8_alter_10 : decode cX8_alter 10 = .ok (.aload_n 0, 1) := by decide +kernel
theorem dX8_alter_11 : decode cX8_alter 11 = .ok (.invokevirtual 174, 3) := by decide +kernel
theorem dX8_alter_14 : decode cX8_alter 14 = .ok (.aload_n 0, 1) := by decide +kernel
theorem dX8_alter_15 : decode cX8_alter 15 = .ok (.invokevirtual 126, 3) := by decide +kernel
theorem dX8_alter_18 : decode cX8_alter 18 = .ok (.return_, 1) := by decide +kernel
theorem dX8_stretch_0 : decode cX8_stretch 0 = .ok (.aload_n 0, 1) := by decide +kernel
theorem dX8_stretch_1 : decode cX8_stretch 1 = .ok (.iload_n 1, 1) := by decide +kernel
theorem dX8_stretch_2 : decode cX8_stretch 2 = .ok (.invokevirtual 168, 3) := by decide +kernel
theorem dX8_stretch_5 : decode cX8_stretch 5 = .ok (.ifCond .ne 6, 3) := by decide +kernel
theorem dX8_stretch_8 : decode cX8_stretch 8 = .ok (.bipush (-101), 2) := by decide +kernel
theorem dX8_stretch_10 : decode cX8_stretch 10 = .ok (.ireturn, 1) := by decide +kernel
theorem dX8_stretch_11 : decode cX8_stretch 11 = .ok (.iload_n 2, 1) := by decide +kernel
theorem dX8_stretch_12 : decode cX8_stretch 12 = .ok (.iconst 1, 1) := by decide +kernel
theorem dX8_stretch_13 : decode cX8_stretch 13 = .ok (.bipush 99, 2) := by decide +kernel
theorem dX8_stretch_15 : decode cX8_stretch 15 = .ok (.invokestatic 89, 3) := by decide +kernel
theorem dX8_stretch_18 : decode cX8_stretch 18 = .ok (.ifCond .ne 6, 3) := by decide +kernel
theorem dX8_stretch_21 : decode cX8_stretch 21 = .ok (.bipush (-102), 2) := by decide +kernel
theorem dX8_stretch_23 : decode cX8_stretch 23 = .ok (.ireturn, 1) := by decide +kernel
theorem dX8_stretch_24 : decode cX8_stretch 24 = .ok (.aload_n 0, 1) := by decide +kernel
theorem dX8_stretch_25 : decode cX8_stretch 25 = .ok (.getfield 19, 3) := by decide +kernel
theorem dX8_stretch_28 : decode cX8_stretch 28 = .ok (.iload_n 1, 1) := by decide +kernel
theorem dX8_stretch_29 : decode cX8_stretch 29 = .ok (.iaload, 1) := by decide +kernel
theorem dX8_stretch_30 : decode cX8_stretch 30 = .ok (.istore_n 3, 1) := by decide +kernel
theorem dX8_stretch_31 : decode cX8_stretch 31 = .ok (.aload_n 0, 1) := by decide +kernel
theorem dX8_stretch_32 : decode cX8_stretch 32 = .ok (.getfield 19, 3) := by decide +kernel
theorem dX8_stretch_35 : decode cX8_stretch 35 = .ok (.iload_n 1, 1) := by decide +kernel
theorem dX8_stretch_36 : decode cX8_stretch 36 = .ok (.iload_n 2, 1) := by decide +kernel
theorem dX8_stretch_37 : decode cX8_stretch 37 = .ok (.iastore, 1) := by decide +kernel
theorem dX8_stretch_38 : decode cX8_stretch 38 = .ok (.aload_n 0, 1) := by decide +kernel
theorem dX8_stretch_39 : decode cX8_stretch 39 = .ok (.invokevirtual 177, 3) := by decide +kernel
theorem dX8_stretch_42 : decode cX8_stretch 42 = .ok (.iload_n 3, 1) := by decide +kernel
theorem dX8_stretch_43 : decode cX8_stretch 43 = .ok (.ireturn, 1) := by decide +kernel
theorem dX8_turn_0 : decode cX8_turn 0 = .ok (.aload_n 0, 1) := by decide +kernel
theorem dX8_turn_1 : decode cX8_turn 1 = .ok (.iload_n 1, 1) := by decide +kernel
theorem dX8_turn_2 : decode cX8_turn 2 = .ok (.iload_n 2, 1) := by decide +kernel
theorem dX8_turn_3 : decode cX8_turn 3 = .ok (.invokevirtual 180, 3) := by decide +kernel
theorem dX8_turn_6 : decode cX8_turn 6 = .ok (.ifCond .ne 6, 3) := by decide +kernel
theorem dX8_turn_9 : decode cX8_turn 9 = .ok (.bipush (-101), 2) := by decide +kernel
theorem dX8_turn_11 : decode cX8_turn 11 = .ok (.ireturn, 1) := by decide +kernel
theorem dX8_turn_12 : decode cX8_turn 12 = .ok (.aload_n 0, 1) := by decide +kernel
theorem dX8_turn_13 : decode cX8_turn 13 = .ok (.iload_n 1, 1) := by decide +kernel
theorem dX8_turn_14 : decode cX8_turn 14 = .ok (.iload_n 2, 1) := by decide +kernel
theorem dX8_turn_15 : decode cX8_turn 15 = .ok (.invokevirtual 183, 3) := by decide +kernel
theorem dX8_turn_18 : decode cX8_turn 18 = .ok (.ifCond .ne 6, 3) := by decide +kernel
theorem dX8_turn_21 : decode cX8_turn 21 = .ok (.bipush (-103), 2) := by decide +kernel
theorem dX8_turn_23 : decode cX8_turn 23 = .ok (.ireturn, 1) := by decide +kernel
theorem dX8_turn_24 : decode cX8_turn 24 = .ok (.iload_n 3, 1) := by decide +kernel
theorem dX8_turn_25 : decode cX8_turn 25 = .ok (.bipush (-5), 2) := by decide +kernel
theorem dX8_turn_27 : decode cX8_turn 27 = .ok (.if_icmp .eq 16, 3) := by decide +kernel
theorem dX8_turn_30 : decode cX8_turn 30 = .ok (.iload_n 3, 1) := by decide +kernel
theorem dX8_turn_31 : decode cX8_turn 31 = .ok (.iconst 0, 1) := by decide +kernel
theorem dX8_turn_32 : decode cX8_turn 32 = .ok (.bipush 50, 2) := by decide +kernel
theorem dX8_turn_34 : decode cX8_turn 34 = .ok (.invokestatic 89, 3) := by decide +kernel
theorem dX8_turn_37 : decode cX8_turn 37 = .ok (.ifCond .ne 6, 3) := by decide +kernel
theorem dX8_turn_40 : decode cX8_turn 40 = .ok (.bipush (-102), 2) := by decide +kernel
theorem dX8_turn_42 : decode cX8_turn 42 = .ok (.ireturn, 1) := by decide +kernel
theorem dX8_turn_43 : decode cX8_turn 43 = .ok (.aload_n 0, 1) := by decide +kernel
theorem dX8_turn_44 : decode cX8_turn 44 = .ok (.getfield 22, 3) := by decide +kernel
theorem dX8_turn_47 : decode cX8_turn 47 = .ok (.bipush 12, 2) := by decide +kernel
theorem dX8_turn_49 : decode cX8_turn 49 = .ok (.iload_n 1, 1) := by decide +kernel
theorem dX8_turn_50 : decode cX8_turn 50 = .ok (.imul, 1) := by decide +kernel
theorem dX8_turn_51 : decode cX8_turn 51 = .ok (.iload_n 2, 1) := by decide +kernel
theorem dX8_turn_52 : decode cX8_turn 52 = .ok (.iadd, 1) := by decide +kernel
theorem dX8_turn_53 : decode cX8_turn 53 = .ok (.iaload, 1) := by decide +kernel
theorem dX8_turn_54 : decode cX8_turn 54 = .ok (.istore 4, 2) := by decide +kernel
theorem dX8_turn_56 : decode cX8_turn 56 = .ok (.aload_n 0, 1) := by decide +kernel
theorem dX8_turn_57 : decode cX8_turn 57 = .ok (.getfield 22, 3) := by decide +kernel
theorem dX8_turn_60 : decode cX8_turn 60 = .ok (.bipush 12, 2) := by decide +kernel
theorem dX8_turn_62 : decode cX8_turn 62 = .ok (.iload_n 1, 1) := by decide +kernel
theorem dX8_turn_63 : decode cX8_turn 63 = .ok (.imul, 1) := by decide +kernel
theorem dX8_turn_64 : decode cX8_turn 64 = .ok (.iload_n 2, 1) := by decide +kernel
theorem dX8_turn_65 : decode cX8_turn 65 = .ok (.iadd, 1) := by decide +kernel
theorem dX8_turn_66 : decode cX8_turn 66 = .ok (.iload_n 3, 1) := by decide +kernel
theorem dX8_turn_67 : decode cX8_turn 67 = .ok (.iastore, 1) := by decide +kernel
theorem dX8_turn_68 : decode cX8_turn 68 = .ok (.aload_n 0, 1) := by decide +kernel
theorem dX8_turn_69 : decode cX8_turn 69 = .ok (.invokevirtual 177, 3) := by decide +kernel
theorem dX8_turn_72 : decode cX8_turn 72 = .ok (.iload 4, 2) := by decide +kernel
theorem dX8_turn_74 : decode cX8_turn 74 = .ok (.ireturn, 1) := by decide +kernel
theorem dX8_rank_0 : decode cX8_rank 0 = .ok (.iconst 0, 1) := by decide +kernel
theorem dX8_rank_1 : decode cX8_rank 1 = .ok (.istore_n 1, 1) := by decide +kernel
theorem dX8_rank_2 : decode cX8_rank 2 = .ok (.iload_n 1, 1) := by decide +kernel
theorem dX8_rank_3 : decode cX8_rank 3 = .ok (.aload_n 0, 1) := by decide +kernel
theorem dX8_rank_4 : decode cX8_rank 4 = .ok (.getfield 120, 3) := by decide +kernel
theorem dX8_rank_7 : decode cX8_rank 7 = .ok (.if_icmp .ge 21, 3) := by decide +kernel
theorem dX8_rank_10 : decode cX8_rank 10 = .ok (.aload_n 0, 1) := by decide +kernel
theorem dX8_rank_11 : decode cX8_rank 11 = .ok (.getfield 65, 3) := by decide +kernel
theorem dX8_rank_14 : decode cX8_rank 14 = .ok (.iload_n 1, 1) := by decide +kernel
theorem dX8_rank_15 : decode cX8_rank 15 = .ok (.aload_n 0, 1) := by decide +kernel
theorem dX8_rank_16 : decode cX8_rank 16 = .ok (.getfield 25, 3) := by decide +kernel
theorem dX8_rank_19 : decode cX8_rank 19 = .ok (.iload_n 1, 1) := by decide +kernel
theorem dX8_rank_20 : decode cX8_rank 20 = .ok (.iaload, 1) := by decide +kernel
theorem dX8_rank_21 : decode cX8_rank 21 = .ok (.iastore, 1) := by decide +kernel
theorem dX8_rank_22 : decode cX8_rank 22 = .ok (.iinc 1 1, 3) := by decide +kernel
theorem dX8_rank_25 : decode cX8_rank 25 = .ok (.goto (-23), 3) := by decide +kernel
theorem dX8_rank_28 : decode cX8_rank 28 = .ok (.aload_n 0, 1) := by decide +kernel
theorem dX8_rank_29 : decode cX8_rank 29 = .ok (.invokevirtual 123, 3) := by decide +kernel
theorem dX8_rank_32 : decode cX8_rank 32 = .ok (.aload_n 0, 1) := by decide +kernel
theorem dX8_rank_33 : decode cX8_rank 33 = .ok (.dup, 1) := by decide +kernel
theorem dX8_rank_34 : decode cX8_rank 34 = .ok (.getfield 186, 3) := by decide +kernel
theorem dX8_rank_37 : decode cX8_rank 37 = .ok (.iconst 1, 1) := by decide +kernel
theorem dX8_rank_38 : decode cX8_rank 38 = .ok (.iadd, 1) := by decide +kernel
theorem dX8_rank_39 : decode cX8_rank 39 = .ok (.putfield 186, 3) := by decide +kernel
theorem dX8_rank_42 : decode cX8_rank 42 = .ok (.iconst 0, 1) := by decide +kernel
theorem dX8_rank_43 : decode cX8_rank 43 = .ok (.istore_n 1, 1) := by decide +kernel
theorem dX8_rank_44 : decode cX8_rank 44 = .ok (.iconst 0, 1) := by decide +kernel
theorem dX8_rank_45 : decode cX8_rank 45 = .ok (.istore_n 2, 1) := by decide +kernel
theorem dX8_rank_46 : decode cX8_rank 46 = .ok (.iload_n 2, 1) := by decide +kernel
theorem dX8_rank_47 : decode cX8_rank 47 = .ok (.aload_n 0, 1) := by decide +kernel
theorem dX8_rank_48 : decode cX8_rank 48 = .ok (.getfield 120, 3) := by decide +kernel
theorem dX8_rank_51 : decode cX8_rank 51 = .ok (.if_icmp .ge 32, 3) := by decide +kernel
theorem dX8_rank_54 : decode cX8_rank 54 = .ok (.iload_n 1, 1) := by decide +kernel
theorem dX8_rank_55 : decode cX8_rank 55 = .ok (.aload_n 0, 1) := by decide +kernel
theorem dX8_rank_56 : decode cX8_rank 56 = .ok (.getfield 65, 3) := by decide +kernel
theorem dX8_rank_59 : decode cX8_rank 59 = .ok (.iload_n 2, 1) := by decide +kernel
theorem dX8_rank_60 : decode cX8_rank 60 = .ok (.iaload, 1) := by decide +kernel
theorem dX8_rank_61 : decode cX8_rank 61 = .ok (.aload_n 0, 1) := by decide +kernel
theorem dX8_rank_62 : decode cX8_rank 62 = .ok (.getfield 25, 3) := by decide +kernel
theorem dX8_rank_65 : decode cX8_rank 65 = .ok (.iload_n 2, 1) := by decide +kernel
theorem dX8_rank_66 : decode cX8_rank 66 = .ok (.iaload, 1) := by decide +kernel
theorem dX8_rank_67 : decode cX8_rank 67 = .ok (.if_icmp .ne 7, 3) := by decide +kernel
theorem dX8_rank_70 : decode cX8_rank 70 = .ok (.iconst 0, 1) := by decide +kernel
theorem dX8_rank_71 : decode cX8_rank 71 = .ok (.goto 4, 3) := by decide +kernel
theorem dX8_rank_74 : decode cX8_rank 74 = .ok (.iconst 1, 1) := by decide +kernel
theorem dX8_rank_75 : decode cX8_rank 75 = .ok (.iadd, 1) := by decide +kernel
theorem dX8_rank_76 : decode cX8_rank 76 = .ok (.istore_n 1, 1) := by decide +kernel
theorem dX8_rank_77 : decode cX8_rank 77 = .ok (.iinc 2 1, 3) := by decide +kernel
theorem dX8_rank_80 : decode cX8_rank 80 = .ok (.goto (-34), 3) := by decide +kernel
theorem dX8_rank_83 : decode cX8_rank 83 = .ok (.iload_n 1, 1) := by decide +kernel
theorem dX8_rank_84 : decode cX8_rank 84 = .ok (.ireturn, 1) := by decide +kernel
theorem dX8_middleOf_0 : decode cX8_middleOf 0 = .ok (.iconst 0, 1) := by decide +kernel
theorem dX8_middleOf_1 : decode cX8_middleOf 1 = .ok (.istore_n 2, 1) := by decide +kernel
theorem dX8_middleOf_2 : decode cX8_middleOf 2 = .ok (.iconst 0, 1) := by decide +kernel
theorem dX8_middleOf_3 : decode cX8_middleOf 3 = .ok (.istore_n 3, 1) := by decide +kernel
theorem dX8_middleOf_4 : decode cX8_middleOf 4 = .ok (.iload_n 3, 1) := by decide +kernel
theorem dX8_middleOf_5 : decode cX8_middleOf 5 = .ok (.aload_n 0, 1) := by decide +kernel
theorem dX8_middleOf_6 : decode cX8_middleOf 6 = .ok (.getfield 120, 3) := by decide +kernel
theorem dX8_middleOf_9 : decode cX8_middleOf 9 = .ok (.aload_n 0, 1) := by decide +kernel
theorem dX8_middleOf_10 : decode cX8_middleOf 10 = .ok (.getfield 120, 3) := by decide +kernel
theorem dX8_middleOf_13 : decode cX8_middleOf 13 = .ok (.imul, 1) := by decide +kernel
theorem dX8_middleOf_14 : decode cX8_middleOf 14 = .ok (.if_icmp .ge 58, 3) := by decide +kernel
theorem dX8_middleOf_17 : decode cX8_middleOf 17 = .ok (.bipush 12, 2) := by decide +kernel
theorem dX8_middleOf_19 : decode cX8_middleOf 19 = .ok (.iload_n 3, 1) := by decide +kernel
theorem dX8_middleOf_20 : decode cX8_middleOf 20 = .ok (.aload_n 0, 1) := by decide +kernel
theorem dX8_middleOf_21 : decode cX8_middleOf 21 = .ok (.getfield 120, 3) := by decide +kernel
theorem dX8_middleOf_24 : decode cX8_middleOf 24 = .ok (.idiv, 1) := by decide +kernel
theorem dX8_middleOf_25 : decode cX8_middleOf 25 = .ok (.imul, 1) := by decide +kernel
theorem dX8_middleOf_26 : decode cX8_middleOf 26 = .ok (.iload_n 3, 1) := by decide +kernel
theorem dX8_middleOf_27 : decode cX8_middleOf 27 = .ok (.aload_n 0, 1) := by decide +kernel
theorem dX8_middleOf_28 : decode cX8_middleOf 28 = .ok (.getfield 120, 3) := by decide +kernel
theorem dX8_middleOf_31 : decode cX8_middleOf 31 = .ok (.irem, 1) := by decide +kernel
theorem dX8_middleOf_32 : decode cX8_middleOf 32 = .ok (.iadd, 1) := by decide +kernel
theorem dX8_middleOf_33 : decode cX8_middleOf 33 = .ok (.istore 4, 2) := by decide +kernel
theorem dX8_middleOf_35 : decode cX8_middleOf 35 = .ok (.iload_n 2, 1) := by decide +kernel
theorem dX8_middleOf_36 : decode cX8_middleOf 36 = .ok (.aload_n 0, 1) := by decide +kernel
theorem dX8_middleOf_37 : decode cX8_middleOf 37 = .ok (.getfield 31, 3) := by decide +kernel
theorem dX8_middleOf_40 : decode cX8_middleOf 40 = .ok (.iload 4, 2) := by decide +kernel
theorem dX8_middleOf_42 : decode cX8_middleOf 42 = .ok (.iaload, 1) := by decide +kernel
theorem dX8_middleOf_43 : decode cX8_middleOf 43 = .ok (.ldc 136, 2) := by decide +kernel
theorem dX8_middleOf_45 : decode cX8_middleOf 45 = .ok (.if_icmp .ge 18, 3) := by decide +kernel
theorem dX8_middleOf_48 : decode cX8_middleOf 48 = .ok (.aload_n 0, 1) := by decide +kernel
theorem dX8_middleOf_49 : decode cX8_middleOf 49 = .ok (.getfield 34, 3) := by decide +kernel
theorem dX8_middleOf_52 : decode cX8_middleOf 52 = .ok (.iload 4, 2) := by decide +kernel
theorem dX8_middleOf_54 : decode cX8_middleOf 54 = .ok (.iaload, 1) := by decide +kernel
theorem dX8_middleOf_55 : decode cX8_middleOf 55 = .ok (.iload_n 1, 1) := by decide +kernel
theorem dX8_middleOf_56 : decode cX8_middleOf 56 = .ok (.if_icmp .ne 7, 3) := by decide +kernel
theorem dX8_middleOf_59 : decode cX8_middleOf 59 = .ok (.iconst 1, 1) := by decide +kernel
theorem dX8_middleOf_60 : decode cX8_middleOf 60 = .ok (.goto 4, 3) := by decide +kernel
theorem dX8_middleOf_63 : decode cX8_middleOf 63 = .ok (.iconst 0, 1) := by decide +kernel
theorem dX8_middleOf_64 : decode cX8_middleOf 64 = .ok (.iadd, 1) := by decide +kernel
theorem dX8_middleOf_65 : decode cX8_middleOf 65 = .ok (.istore_n 2, 1) := by decide +kernel
theorem dX8_middleOf_66 : decode cX8_middleOf 66 = .ok (.iinc 3 1, 3) := by decide +kernel
theorem dX8_middleOf_69 : decode cX8_middleOf 69 = .ok (.goto (-65), 3) := by decide +kernel
theorem dX8_middleOf_72 : decode cX8_middleOf 72 = .ok (.iload_n 2, 1) := by decide +kernel
theorem dX8_middleOf_73 : decode cX8_middleOf 73 = .ok (.ireturn, 1) := by decide +kernel
theorem dX8_roadNow_0 : decode cX8_roadNow 0 = .ok (.iload_n 2, 1) := by decide +kernel
theorem dX8_roadNow_1 : decode cX8_roadNow 1 = .ok (.tableswitch 69 0 4 #[35, 42, 49, 56, 63], 35) := by decide +kernel
theorem dX8_roadNow_36 : decode cX8_roadNow 36 = .ok (.aload_n 0, 1) := by decide +kernel
theorem dX8_roadNow_37 : decode cX8_roadNow 37 = .ok (.getfield 13, 3) := by decide +kernel
theorem dX8_roadNow_40 : decode cX8_roadNow 40 = .ok (.iload_n 1, 1) := by decide +kernel
theorem dX8_roadNow_41 : decode cX8_roadNow 41 = .ok (.iaload, 1) := by decide +kernel
theorem dX8_roadNow_42 : decode cX8_roadNow 42 = .ok (.ireturn, 1) := by decide +kernel
theorem dX8_roadNow_43 : decode cX8_roadNow 43 = .ok (.aload_n 0, 1) := by decide +kernel
theorem dX8_roadNow_44 : decode cX8_roadNow 44 = .ok (.getfield 16, 3) := by decide +kernel
theorem dX8_roadNow_47 : decode cX8_roadNow 47 = .ok (.iload_n 1, 1) := by decide +kernel
theorem dX8_roadNow_48 : decode cX8_roadNow 48 = .ok (.iaload, 1) := by decide +kernel
theorem dX8_roadNow_49 : decode cX8_roadNow 49 = .ok (.ireturn, 1) := by decide +kernel
theorem dX8_roadNow_50 : decode cX8_roadNow 50 = .ok (.aload_n 0, 1) := by decide +kernel
theorem dX8_roadNow_51 : decode cX8_roadNow 51 = .ok (.getfield 19, 3) := by decide +kernel
theorem dX8_roadNow_54 : decode cX8_roadNow 54 = .ok (.iload_n 1, 1) := by decide +kernel
theorem dX8_roadNow_55 : decode cX8_roadNow 55 = .ok (.iaload, 1) := by decide +kernel
theorem dX8_roadNow_56 : decode cX8_roadNow 56 = .ok (.ireturn, 1) := by decide +kernel
theorem dX8_roadNow_57 : decode cX8_roadNow 57 = .ok (.aload_n 0, 1) := by decide +kernel
theorem dX8_roadNow_58 : decode cX8_roadNow 58 = .ok (.getfield 25, 3) := by decide +kernel
theorem dX8_roadNow_61 : decode cX8_roadNow 61 = .ok (.iload_n 1, 1) := by decide +kernel
theorem dX8_roadNow_62 : decode cX8_roadNow 62 = .ok (.iaload, 1) := by decide +kernel
theorem dX8_roadNow_63 : decode cX8_roadNow 63 = .ok (.ireturn, 1) := by decide +kernel
theorem dX8_roadNow_64 : decode cX8_roadNow 64 = .ok (.aload_n 0, 1) := by decide +kernel
theorem dX8_roadNow_65 : decode cX8_roadNow 65 = .ok (.iload_n 1, 1) := by decide +kernel
theorem dX8_roadNow_66 : decode cX8_roadNow 66 = .ok (.invokevirtual 189, 3) := by decide +kernel
theorem dX8_roadNow_69 : decode cX8_roadNow 69 = .ok (.ireturn, 1) := by decide +kernel
theorem dX8_roadNow_70 : decode cX8_roadNow 70 = .ok (.aload_n 0, 1) := by decide +kernel
theorem dX8_roadNow_71 : decode cX8_roadNow 71 = .ok (.getfield 40, 3) := by decide +kernel
theorem dX8_roadNow_74 : decode cX8_roadNow 74 = .ok (.iload_n 1, 1) := by decide +kernel
theorem dX8_roadNow_75 : decode cX8_roadNow 75 = .ok (.iaload, 1) := by decide +kernel
theorem dX8_roadNow_76 : decode cX8_roadNow 76 = .ok (.ireturn, 1) := by decide +kernel
theorem dX8_road_0 : decode cX8_road 0 = .ok (.aload_n 0, 1) := by decide +kernel
theorem dX8_road_1 : decode cX8_road 1 = .ok (.iload_n 1, 1) := by decide +kernel
theorem dX8_road_2 : decode cX8_road 2 = .ok (.invokevirtual 168, 3) := by decide +kernel
theorem dX8_road_5 : decode cX8_road 5 = .ok (.ifCond .ne 6, 3) := by decide +kernel
theorem dX8_road_8 : decode cX8_road 8 = .ok (.bipush (-101), 2) := by decide +kernel
theorem dX8_road_10 : decode cX8_road 10 = .ok (.ireturn, 1) := by decide +kernel
theorem dX8_road_11 : decode cX8_road 11 = .ok (.iload_n 2, 1) := by decide +kernel
theorem dX8_road_12 : decode cX8_road 12 = .ok (.iconst 0, 1) := by decide +kernel
theorem dX8_road_13 : decode cX8_road 13 = .ok (.iconst 5, 1) := by decide +kernel
theorem dX8_road_14 : decode cX8_road 14 = .ok (.invokestatic 89, 3) := by decide +kernel
theorem dX8_road_17 : decode cX8_road 17 = .ok (.ifCond .eq 12, 3) := by decide +kernel
theorem dX8_road_20 : decode cX8_road 20 = .ok (.aload_n 0, 1) := by decide +kernel
theorem dX8_road_21 : decode cX8_road 21 = .ok (.iload_n 1, 1) := by decide +kernel
theorem dX8_road_22 : decode cX8_road 22 = .ok (.iload_n 2, 1) := by decide +kernel
theorem dX8_road_23 : decode cX8_road 23 = .ok (.invokevirtual 192, 3) := by decide +kernel
theorem dX8_road_26 : decode cX8_road 26 = .ok (.goto 5, 3) := by decide +kernel
theorem dX8_road_29 : decode cX8_road 29 = .ok (.bipush (-102), 2) := by decide +kernel
theorem dX8_road_31 : decode cX8_road 31 = .ok (.ireturn, 1) := by decide +kernel
theorem dX8_cost_0 : decode cX8_cost 0 = .ok (.aload_n 0, 1) := by decide +kernel
theorem dX8_cost_1 : decode cX8_cost 1 = .ok (.iload_n 1, 1) := by decide +kernel
theorem dX8_cost_2 : decode cX8_cost 2 = .ok (.iload_n 2, 1) := by decide +kernel
theorem dX8_cost_3 : decode cX8_cost 3 = .ok (.invokevirtual 180, 3) := by decide +kernel
theorem dX8_cost_6 : decode cX8_cost 6 = .ok (.ifCond .ne 6, 3) := by decide +kernel
theorem dX8_cost_9 : decode cX8_cost 9 = .ok (.bipush (-101), 2) := by decide +kernel
theorem dX8_cost_11 : decode cX8_cost 11 = .ok (.ireturn, 1) := by decide +kernel
theorem dX8_cost_12 : decode cX8_cost 12 = .ok (.aload_n 0, 1) := by decide +kernel
theorem dX8_cost_13 : decode cX8_cost 13 = .ok (.iload_n 1, 1) := by decide +kernel
theorem dX8_cost_14 : decode cX8_cost 14 = .ok (.iload_n 2, 1) := by decide +kernel
theorem dX8_cost_15 : decode cX8_cost 15 = .ok (.invokevirtual 183, 3) := by decide +kernel
theorem dX8_cost_18 : decode cX8_cost 18 = .ok (.ifCond .eq 17, 3) := by decide +kernel
theorem dX8_cost_21 : decode cX8_cost 21 = .ok (.aload_n 0, 1) := by decide +kernel
theorem dX8_cost_22 : decode cX8_cost 22 = .ok (.getfield 22, 3) := by decide +kernel
theorem dX8_cost_25 : decode cX8_cost 25 = .ok (.bipush 12, 2) := by decide +kernel
theorem dX8_cost_27 : decode cX8_cost 27 = .ok (.iload_n 1, 1) := by decide +kernel
theorem dX8_cost_28 : decode cX8_cost 28 = .ok (.imul, 1) := by decide +kernel
theorem dX8_cost_29 : decode cX8_cost 29 = .ok (.iload_n 2, 1) := by decide +kernel
theorem dX8_cost_30 : decode cX8_cost 30 = .ok (.iadd, 1) := by decide +kernel
theorem dX8_cost_31 : decode cX8_cost 31 = .ok (.iaload, 1) := by decide +kernel
theorem dX8_cost_32 : decode cX8_cost 32 = .ok (.goto 5, 3) := by decide +kernel
theorem dX8_cost_35 : decode cX8_cost 35 = .ok (.bipush (-103), 2) := by decide +kernel
theorem dX8_cost_37 : decode cX8_cost 37 = .ok (.ireturn, 1) := by decide +kernel
theorem dX8_order_0 : decode cX8_order 0 = .ok (.aload_n 0, 1) := by decide +kernel
theorem dX8_order_1 : decode cX8_order 1 = .ok (.iload_n 1, 1) := by decide +kernel
theorem dX8_order_2 : decode cX8_order 2 = .ok (.invokevirtual 168, 3) := by decide +kernel
theorem dX8_order_5 : decode cX8_order 5 = .ok (.ifCond .eq 12, 3) := by decide +kernel
theorem dX8_order_8 : decode cX8_order 8 = .ok (.aload_n 0, 1) := by decide +kernel
theorem dX8_order_9 : decode cX8_order 9 = .ok (.getfield 28, 3) := by decide +kernel
theorem dX8_order_12 : decode cX8_order 12 = .ok (.iload_n 1, 1) := by decide +kernel
theorem dX8_order_13 : decode cX8_order 13 = .ok (.iaload, 1) := by decide +kernel
theorem dX8_order_14 : decode cX8_order 14 = .ok (.goto 5, 3) := by decide +kernel
theorem dX8_order_17 : decode cX8_order 17 = .ok (.bipush (-101), 2) := by decide +kernel
theorem dX8_order_19 : decode cX8_order 19 = .ok (.ireturn, 1) := by decide +kernel
theorem dX8_leastNow_0 : decode cX8_leastNow 0 = .ok (.aload_n 0, 1) := by decide +kernel
theorem dX8_leastNow_1 : decode cX8_leastNow 1 = .ok (.getfield 37, 3) := by decide +kernel
theorem dX8_leastNow_4 : decode cX8_leastNow 4 = .ok (.bipush 12, 2) := by decide +kernel
theorem dX8_leastNow_6 : decode cX8_leastNow 6 = .ok (.iload_n 1, 1) := by decide +kernel
theorem dX8_leastNow_7 : decode cX8_leastNow 7 = .ok (.imul, 1) := by decide +kernel
theorem dX8_leastNow_8 : decode cX8_leastNow 8 = .ok (.iload_n 2, 1) := by decide +kernel
theorem dX8_leastNow_9 : decode cX8_leastNow 9 = .ok (.iadd, 1) := by decide +kernel
theorem dX8_leastNow_10 : decode cX8_leastNow 10 = .ok (.iaload, 1) := by decide +kernel
theorem dX8_leastNow_11 : decode cX8_leastNow 11 = .ok (.istore_n 3, 1) := by decide +kernel
theorem dX8_leastNow_12 : decode cX8_leastNow 12 = .ok (.iload_n 3, 1) := by decide +kernel
theorem dX8_leastNow_13 : decode cX8_leastNow 13 = .ok (.ldc 136, 2) := by decide +kernel
theorem dX8_leastNow_15 : decode cX8_leastNow 15 = .ok (.if_icmp .lt 7, 3) := by decide +kernel
theorem dX8_leastNow_18 : decode cX8_leastNow 18 = .ok (.iconst (-1), 1) := by decide +kernel
theorem dX8_leastNow_19 : decode cX8_leastNow 19 = .ok (.goto 7, 3) := by decide +kernel
theorem dX8_leastNow_22 : decode cX8_leastNow 22 = .ok (.iload_n 3, 1) := by decide +kernel
theorem dX8_leastNow_23 : decode cX8_leastNow 23 = .ok (.bipush 16, 2) := by decide +kernel
theorem dX8_leastNow_25 : decode cX8_leastNow 25 = .ok (.idiv, 1) := by decide +kernel
theorem dX8_leastNow_26 : decode cX8_leastNow 26 = .ok (.ireturn, 1) := by decide +kernel
theorem dX8_least_0 : decode cX8_least 0 = .ok (.aload_n 0, 1) := by decide +kernel
theorem dX8_least_1 : decode cX8_least 1 = .ok (.iload_n 1, 1) := by decide +kernel
theorem dX8_least_2 : decode cX8_least 2 = .ok (.iload_n 2, 1) := by decide +kernel
theorem dX8_least_3 : decode cX8_least 3 = .ok (.invokevirtual 180, 3) := by decide +kernel
theorem dX8_least_6 : decode cX8_least 6 = .ok (.ifCond .eq 12, 3) := by decide +kernel
theorem dX8_least_9 : decode cX8_least 9 = .ok (.aload_n 0, 1) := by decide +kernel
theorem dX8_least_10 : decode cX8_least 10 = .ok (.iload_n 1, 1) := by decide +kernel
theorem dX8_least_11 : decode cX8_least 11 = .ok (.iload_n 2, 1) := by decide +kernel
theorem dX8_least_12 : decode cX8_least 12 = .ok (.invokevirtual 195, 3) := by decide +kernel
theorem dX8_least_15 : decode cX8_least 15 = .ok (.goto 5, 3) := by decide +kernel
theorem dX8_least_18 : decode cX8_least 18 = .ok (.bipush (-101), 2) := by decide +kernel
theorem dX8_least_20 : decode cX8_least 20 = .ok (.ireturn, 1) := by decide +kernel
theorem dX8_way_0 : decode cX8_way 0 = .ok (.aload_n 0, 1) := by decide +kernel
theorem dX8_way_1 : decode cX8_way 1 = .ok (.iload_n 1, 1) := by decide +kernel
theorem dX8_way_2 : decode cX8_way 2 = .ok (.iload_n 2, 1) := by decide +kernel
theorem dX8_way_3 : decode cX8_way 3 = .ok (.invokevirtual 180, 3) := by decide +kernel
theorem dX8_way_6 : decode cX8_way 6 = .ok (.ifCond .ne 6, 3) := by decide +kernel
theorem dX8_way_9 : decode cX8_way 9 = .ok (.bipush (-101), 2) := by decide +kernel
theorem dX8_way_11 : decode cX8_way 11 = .ok (.ireturn, 1) := by decide +kernel
theorem dX8_way_12 : decode cX8_way 12 = .ok (.aload_n 0, 1) := by decide +kernel
theorem dX8_way_13 : decode cX8_way 13 = .ok (.getfield 37, 3) := by decide +kernel
theorem dX8_way_16 : decode cX8_way 16 = .ok (.bipush 12, 2) := by decide +kernel
theorem dX8_way_18 : decode cX8_way 18 = .ok (.iload_n 1, 1) := by decide +kernel
theorem dX8_way_19 : decode cX8_way 19 = .ok (.imul, 1) := by decide +kernel
theorem dX8_way_20 : decode cX8_way 20 = .ok (.iload_n 2, 1) := by decide +kernel
theorem dX8_way_21 : decode cX8_way 21 = .ok (.iadd, 1) := by decide +kernel
theorem dX8_way_22 : decode cX8_way 22 = .ok (.iaload, 1) := by decide +kernel
theorem dX8_way_23 : decode cX8_way 23 = .ok (.istore 4, 2) := by decide +kernel
theorem dX8_way_25 : decode cX8_way 25 = .ok (.iload 4, 2) := by decide +kernel
theorem dX8_way_27 : decode cX8_way 27 = .ok (.ldc 136, 2) := by decide +kernel
theorem dX8_way_29 : decode cX8_way 29 = .ok (.if_icmp .ge 16, 3) := by decide +kernel
theorem dX8_way_32 : decode cX8_way 32 = .ok (.iload_n 3, 1) := by decide +kernel
theorem dX8_way_33 : decode cX8_way 33 = .ok (.iconst 0, 1) := by decide +kernel
theorem dX8_way_34 : decode cX8_way 34 = .ok (.iload 4, 2) := by decide +kernel
theorem dX8_way_36 : decode cX8_way 36 = .ok (.bipush 16, 2) := by decide +kernel
theorem dX8_way_38 : decode cX8_way 38 = .ok (.irem, 1) := by decide +kernel
theorem dX8_way_39 : decode cX8_way 39 = .ok (.invokestatic 89, 3) := by decide +kernel
theorem dX8_way_42 : decode cX8_way 42 = .ok (.ifCond .ne 5, 3) := by decide +kernel
theorem dX8_way_45 : decode cX8_way 45 = .ok (.iconst (-1), 1) := by decide +kernel
theorem dX8_way_46 : decode cX8_way 46 = .ok (.ireturn, 1) := by decide +kernel
theorem dX8_way_47 : decode cX8_way 47 = .ok (.iload_n 1, 1) := by decide +kernel
theorem dX8_way_48 : decode cX8_way 48 = .ok (.istore 5, 2) := by decide +kernel
theorem dX8_way_50 : decode cX8_way 50 = .ok (.iconst 0, 1) := by decide +kernel
theorem dX8_way_51 : decode cX8_way 51 = .ok (.istore 6, 2) := by decide +kernel
theorem dX8_way_53 : decode cX8_way 53 = .ok (.iload 6, 2) := by decide +kernel
theorem dX8_way_55 : decode cX8_way 55 = .ok (.iload_n 3, 1) := by decide +kernel
theorem dX8_way_56 : decode cX8_way 56 = .ok (.if_icmp .ge 18, 3) := by decide +kernel
theorem dX8_way_59 : decode cX8_way 59 = .ok (.aload_n 0, 1) := by decide +kernel
theorem dX8_way_60 : decode cX8_way 60 = .ok (.iload 5, 2) := by decide +kernel
theorem dX8_way_62 : decode cX8_way 62 = .ok (.iload_n 2, 1) := by decide +kernel
theorem dX8_way_63 : decode cX8_way 63 = .ok (.invokevirtual 164, 3) := by decide +kernel
theorem dX8_way_66 : decode cX8_way 66 = .ok (.istore 5, 2) := by decide +kernel
theorem dX8_way_68 : decode cX8_way 68 = .ok (.iinc 6 1, 3) := by decide +kernel
theorem dX8_way_71 : decode cX8_way 71 = .ok (.goto (-18), 3) := by decide +kernel
theorem dX8_way_74 : decode cX8_way 74 = .ok (.iload 5, 2) := by decide +kernel
theorem dX8_way_76 : decode cX8_way 76 = .ok (.ireturn, 1) := by decide +kernel
theorem dX8_layUnpacked_0 : decode cX8_layUnpacked 0 = .ok (.aload_n 0, 1) := by decide +kernel
theorem dX8_layUnpacked_1 : decode cX8_layUnpacked 1 = .ok (.getfield 74, 3) := by decide +kernel
theorem dX8_layUnpacked_4 : decode cX8_layUnpacked 4 = .ok (.iconst 0, 1) := by decide +kernel
theorem dX8_layUnpacked_5 : decode cX8_layUnpacked 5 = .ok (.iload_n 1, 1) := by decide +kernel
theorem dX8_layUnpacked_6 : decode cX8_layUnpacked 6 = .ok (.iastore, 1) := by decide +kernel
theorem dX8_layUnpacked_7 : decode cX8_layUnpacked 7 = .ok (.aload_n 0, 1) := by decide +kernel
theorem dX8_layUnpacked_8 : decode cX8_layUnpacked 8 = .ok (.iconst 1, 1) := by decide +kernel
theorem dX8_layUnpacked_9 : decode cX8_layUnpacked 9 = .ok (.putfield 198, 3) := by decide +kernel
theorem dX8_layUnpacked_12 : decode cX8_layUnpacked 12 = .ok (.aload_n 0, 1) := by decide +kernel
theorem dX8_layUnpacked_13 : decode cX8_layUnpacked 13 = .ok (.getfield 68, 3) := by decide +kernel
theorem dX8_layUnpacked_16 : decode cX8_layUnpacked 16 = .ok (.iconst 0, 1) := by decide +kernel
theorem dX8_layUnpacked_17 : decode cX8_layUnpacked 17 = .ok (.iload_n 1, 1) := by decide +kernel
theorem dX8_layUnpacked_18 : decode cX8_layUnpacked 18 = .ok (.iastore, 1) := by decide +kernel
theorem dX8_layUnpacked_19 : decode cX8_layUnpacked 19 = .ok (.aload_n 0, 1) := by decide +kernel
theorem dX8_layUnpacked_20 : decode cX8_layUnpacked 20 = .ok (.getfield 71, 3) := by decide +kernel
theorem dX8_layUnpacked_23 : decode cX8_layUnpacked 23 = .ok (.iconst 0, 1) := by decide +kernel
theorem dX8_layUnpacked_24 : decode cX8_layUnpacked 24 = .ok (.iload_n 2, 1) := by decide +kernel
theorem dX8_layUnpacked_25 : decode cX8_layUnpacked 25 = .ok (.iastore, 1) := by decide +kernel
theorem dX8_layUnpacked_26 : decode cX8_layUnpacked 26 = .ok (.iconst 1, 1) := by decide +kernel
theorem dX8_layUnpacked_27 : decode cX8_layUnpacked 27 = .ok (.istore_n 3, 1) := by decide +kernel
theorem dX8_layUnpacked_28 : decode cX8_layUnpacked 28 = .ok (.iload_n 3, 1) := by decide +kernel
theorem dX8_layUnpacked_29 : decode cX8_layUnpacked 29 = .ok (.ifCond .le 109, 3) := by decide +kernel
theorem dX8_layUnpacked_32 : decode cX8_layUnpacked 32 = .ok (.iinc 3 (-1), 3) := by decide +kernel
theorem dX8_layUnpacked_35 : decode cX8_layUnpacked 35 = .ok (.aload_n 0, 1) := by decide +kernel
theorem dX8_layUnpacked_36 : decode cX8_layUnpacked 36 = .ok (.getfield 68, 3) := by decide +kernel
theorem dX8_layUnpacked_39 : decode cX8_layUnpacked 39 = .ok (.iload_n 3, 1) := by decide +kernel
theorem dX8_layUnpacked_40 : decode cX8_layUnpacked 40 = .ok (.iaload, 1) := by decide +kernel
theorem dX8_layUnpacked_41 : decode cX8_layUnpacked 41 = .ok (.istore 4, 2) := by decide +kernel
theorem dX8_layUnpacked_43 : decode cX8_layUnpacked 43 = .ok (.aload_n 0, 1) := by decide +kernel
theorem dX8_layUnpacked_44 : decode cX8_layUnpacked 44 = .ok (.getfield 71, 3) := by decide +kernel
theorem dX8_layUnpacked_47 : decode cX8_layUnpacked 47 = .ok (.iload_n 3, 1) := by decide +kernel
theorem dX8_layUnpacked_48 : decode cX8_layUnpacked 48 = .ok (.iaload, 1) := by decide +kernel
theorem dX8_layUnpacked_49 : decode cX8_layUnpacked 49 = .ok (.istore 5, 2) := by decide +kernel
theorem dX8_layUnpacked_51 : decode cX8_layUnpacked 51 = .ok (.aload_n 0, 1) := by decide +kernel
theorem dX8_layUnpacked_52 : decode cX8_layUnpacked 52 = .ok (.getfield 34, 3) := by decide +kernel
theorem dX8_layUnpacked_55 : decode cX8_layUnpacked 55 = .ok (.bipush 12, 2) := by decide +kernel
theorem dX8_layUnpacked_57 : decode cX8_layUnpacked 57 = .ok (.iload 4, 2) := by decide +kernel
theorem dX8_layUnpacked_59 : decode cX8_layUnpacked 59 = .ok (.imul, 1) := by decide +kernel
theorem dX8_layUnpacked_60 : decode cX8_layUnpacked 60 = .ok (.iload 5, 2) := by decide +kernel
theorem dX8_layUnpacked_62 : decode cX8_layUnpacked 62 = .ok (.iadd, 1) := by decide +kernel
theorem dX8_layUnpacked_63 : decode cX8_layUnpacked 63 = .ok (.iaload, 1) := by decide +kernel
theorem dX8_layUnpacked_64 : decode cX8_layUnpacked 64 = .ok (.istore 6, 2) := by decide +kernel
theorem dX8_layUnpacked_66 : decode cX8_layUnpacked 66 = .ok (.iload 6, 2) := by decide +kernel
theorem dX8_layUnpacked_68 : decode cX8_layUnpacked 68 = .ok (.iconst (-1), 1) := by decide +kernel
theorem dX8_layUnpacked_69 : decode cX8_layUnpacked 69 = .ok (.if_icmp .ne 27, 3) := by decide +kernel
theorem dX8_layUnpacked_72 : decode cX8_layUnpacked 72 = .ok (.aload_n 0, 1) := by decide +kernel
theorem dX8_layUnpacked_73 : decode cX8_layUnpacked 73 = .ok (.getfield 74, 3) := by decide +kernel
theorem dX8_layUnpacked_76 : decode cX8_layUnpacked 76 = .ok (.aload_n 0, 1) := by decide +kernel
theorem dX8_layUnpacked_77 : decode cX8_layUnpacked 77 = .ok (.getfield 198, 3) := by decide +kernel
theorem dX8_layUnpacked_80 : decode cX8_layUnpacked 80 = .ok (.iload 5, 2) := by decide +kernel
theorem dX8_layUnpacked_82 : decode cX8_layUnpacked 82 = .ok (.iastore, 1) := by decide +kernel
theorem dX8_layUnpacked_83 : decode cX8_layUnpacked 83 = .ok (.aload_n 0, 1) := by decide +kernel
theorem dX8_layUnpacked_84 : decode cX8_layUnpacked 84 = .ok (.dup, 1) := by decide +kernel
theorem dX8_layUnpacked_85 : decode cX8_layUnpacked 85 = .ok (.getfield 198, 3) := by decide +kernel
theorem dX8_layUnpacked_88 : decode cX8_layUnpacked 88 = .ok (.iconst 1, 1) := by decide +kernel
theorem dX8_layUnpacked_89 : decode cX8_layUnpacked 89 = .ok (.iadd, 1) := by decide +kernel
theorem dX8_layUnpacked_90 : decode cX8_layUnpacked 90 = .ok (.putfield 198, 3) := by decide +kernel
theorem dX8_layUnpacked_93 : decode cX8_layUnpacked 93 = .ok (.goto 42, 3) := by decide +kernel
theorem dX8_layUnpacked_96 : decode cX8_layUnpacked 96 = .ok (.aload_n 0, 1) := by decide +kernel
theorem dX8_layUnpacked_97 : decode cX8_layUnpacked 97 = .ok (.getfield 68, 3) := by decide +kernel
theorem dX8_layUnpacked_100 : decode cX8_layUnpacked 100 = .ok (.iload_n 3, 1) := by decide +kernel
theorem dX8_layUnpacked_101 : decode cX8_layUnpacked 101 = .ok (.iload 6, 2) := by decide +kernel
theorem dX8_layUnpacked_103 : decode cX8_layUnpacked 103 = .ok (.iastore, 1) := by decide +kernel
theorem dX8_layUnpacked_104 : decode cX8_layUnpacked 104 = .ok (.aload_n 0, 1) := by decide +kernel
theorem dX8_layUnpacked_105 : decode cX8_layUnpacked 105 = .ok (.getfield 71, 3) := by decide +kernel
theorem dX8_layUnpacked_108 : decode cX8_layUnpacked 108 = .ok (.iload_n 3, 1) := by decide +kernel
theorem dX8_layUnpacked_109 : decode cX8_layUnpacked 109 = .ok (.iload 5, 2) := by decide +kernel
theorem dX8_layUnpacked_111 : decode cX8_layUnpacked 111 = .ok (.iastore, 1) := by decide +kernel
theorem dX8_layUnpacked_112 : decode cX8_layUnpacked 112 = .ok (.aload_n 0, 1) := by decide +kernel
theorem dX8_layUnpacked_113 : decode cX8_layUnpacked 113 = .ok (.getfield 68, 3) := by decide +kernel
theorem dX8_layUnpacked_116 : decode cX8_layUnpacked 116 = .ok (.iload_n 3, 1) := by decide +kernel
theorem dX8_layUnpacked_117 : decode cX8_layUnpacked 117 = .ok (.iconst 1, 1) := by decide +kernel
theorem dX8_layUnpacked_118 : decode cX8_layUnpacked 118 = .ok (.iadd, 1) := by decide +kernel
theorem dX8_layUnpacked_119 : decode cX8_layUnpacked 119 = .ok (.iload 4, 2) := by decide +kernel
theorem dX8_layUnpacked_121 : decode cX8_layUnpacked 121 = .ok (.iastore, 1) := by decide +kernel
theorem dX8_layUnpacked_122 : decode cX8_layUnpacked 122 = .ok (.aload_n 0, 1) := by decide +kernel
theorem dX8_layUnpacked_123 : decode cX8_layUnpacked 123 = .ok (.getfield 71, 3) := by decide +kernel
theorem dX8_layUnpacked_126 : decode cX8_layUnpacked 126 = .ok (.iload_n 3, 1) := by decide +kernel
theorem dX8_layUnpacked_127 : decode cX8_layUnpacked 127 = .ok (.iconst 1, 1) := by decide +kernel
theorem dX8_layUnpacked_128 : decode cX8_layUnpacked 128 = .ok (.iadd, 1) := by decide +kernel
theorem dX8_layUnpacked_129 : decode cX8_layUnpacked 129 = .ok (.iload 6, 2) := by decide +kernel
theorem dX8_layUnpacked_131 : decode cX8_layUnpacked 131 = .ok (.iastore, 1) := by decide +kernel
theorem dX8_layUnpacked_132 : decode cX8_layUnpacked 132 = .ok (.iinc 3 2, 3) := by decide +kernel
theorem dX8_layUnpacked_135 : decode cX8_layUnpacked 135 = .ok (.goto (-107), 3) := by decide +kernel
theorem dX8_layUnpacked_138 : decode cX8_layUnpacked 138 = .ok (.return_, 1) := by decide +kernel
theorem dX8_arcNow_0 : decode cX8_arcNow 0 = .ok (.bipush 12, 2) := by decide +kernel
theorem dX8_arcNow_2 : decode cX8_arcNow 2 = .ok (.iload_n 1, 1) := by decide +kernel
theorem dX8_arcNow_3 : decode cX8_arcNow 3 = .ok (.imul, 1) := by decide +kernel
theorem dX8_arcNow_4 : decode cX8_arcNow 4 = .ok (.iload_n 2, 1) := by decide +kernel
theorem dX8_arcNow_5 : decode cX8_arcNow 5 = .ok (.iadd, 1) := by decide +kernel
theorem dX8_arcNow_6 : decode cX8_arcNow 6 = .ok (.istore 4, 2) := by decide +kernel
theorem dX8_arcNow_8 : decode cX8_arcNow 8 = .ok (.aload_n 0, 1) := by decide +kernel
theorem dX8_arcNow_9 : decode cX8_arcNow 9 = .ok (.getfield 31, 3) := by decide +kernel
theorem dX8_arcNow_12 : decode cX8_arcNow 12 = .ok (.iload 4, 2) := by decide +kernel
theorem dX8_arcNow_14 : decode cX8_arcNow 14 = .ok (.iaload, 1) := by decide +kernel
theorem dX8_arcNow_15 : decode cX8_arcNow 15 = .ok (.ldc 136, 2) := by decide +kernel
theorem dX8_arcNow_17 : decode cX8_arcNow 17 = .ok (.if_icmp .lt 5, 3) := by decide +kernel
theorem dX8_arcNow_20 : decode cX8_arcNow 20 = .ok (.iconst (-1), 1) := by decide +kernel
theorem dX8_arcNow_21 : decode cX8_arcNow 21 = .ok (.ireturn, 1) := by decide +kernel
theorem dX8_arcNow_22 : decode cX8_arcNow 22 = .ok (.iload_n 3, 1) := by decide +kernel
theorem dX8_arcNow_23 : decode cX8_arcNow 23 = .ok (.iconst 3, 1) := by decide +kernel
theorem dX8_arcNow_24 : decode cX8_arcNow 24 = .ok (.if_icmp .ne 14, 3) := by decide +kernel
theorem dX8_arcNow_27 : decode cX8_arcNow 27 = .ok (.aload_n 0, 1) := by decide +kernel
theorem dX8_arcNow_28 : decode cX8_arcNow 28 = .ok (.iload_n 1, 1) := by decide +kernel
theorem dX8_arcNow_29 : decode cX8_arcNow 29 = .ok (.iload_n 2, 1) := by decide +kernel
theorem dX8_arcNow_30 : decode cX8_arcNow 30 = .ok (.invokevirtual 201, 3) := by decide +kernel
theorem dX8_arcNow_33 : decode cX8_arcNow 33 = .ok (.aload_n 0, 1) := by decide +kernel
theorem dX8_arcNow_34 : decode cX8_arcNow 34 = .ok (.getfield 198, 3) := by decide +kernel
theorem dX8_arcNow_37 : decode cX8_arcNow 37 = .ok (.ireturn, 1) := by decide +kernel
theorem dX8_arcNow_38 : decode cX8_arcNow 38 = .ok (.iload_n 3, 1) := by decide +kernel
theorem dX8_arcNow_39 : decode cX8_arcNow 39 = .ok (.ifCond .ne 13, 3) := by decide +kernel
theorem dX8_arcNow_42 : decode cX8_arcNow 42 = .ok (.aload_n 0, 1) := by decide +kernel
theorem dX8_arcNow_43 : decode cX8_arcNow 43 = .ok (.getfield 31, 3) := by decide +kernel
theorem dX8_arcNow_46 : decode cX8_arcNow 46 = .ok (.iload 4, 2) := by decide +kernel
theorem dX8_arcNow_48 : decode cX8_arcNow 48 = .ok (.iaload, 1) := by decide +kernel
theorem dX8_arcNow_49 : decode cX8_arcNow 49 = .ok (.goto 38, 3) := by decide +kernel
theorem dX8_arcNow_52 : decode cX8_arcNow 52 = .ok (.iload_n 3, 1) := by decide +kernel
theorem dX8_arcNow_53 : decode cX8_arcNow 53 = .ok (.iconst 1, 1) := by decide +kernel
theorem dX8_arcNow_54 : decode cX8_arcNow 54 = .ok (.if_icmp .ne 13, 3) := by decide +kernel
theorem dX8_arcNow_57 : decode cX8_arcNow 57 = .ok (.aload_n 0, 1) := by decide +kernel
theorem dX8_arcNow_58 : decode cX8_arcNow 58 = .ok (.getfield 34, 3) := by decide +kernel
theorem dX8_arcNow_61 : decode cX8_arcNow 61 = .ok (.iload 4, 2) := by decide +kernel
theorem dX8_arcNow_63 : decode cX8_arcNow 63 = .ok (.iaload, 1) := by decide +kernel
theorem dX8_arcNow_64 : decode cX8_arcNow 64 = .ok (.goto 23, 3) := by decide +kernel
theorem dX8_arcNow_67 : decode cX8_arcNow 67 = .ok (.aload_n 0, 1) := by decide +kernel
theorem dX8_arcNow_68 : decode cX8_arcNow 68 = .ok (.getfield 25, 3) := by decide +kernel
theorem dX8_arcNow_71 : decode cX8_arcNow 71 = .ok (.iload_n 2, 1) := by decide +kernel
theorem dX8_arcNow_72 : decode cX8_arcNow 72 = .ok (.iaload, 1) := by decide +kernel
theorem dX8_arcNow_73 : decode cX8_arcNow 73 = .ok (.aload_n 0, 1) := by decide +kernel
theorem dX8_arcNow_74 : decode cX8_arcNow 74 = .ok (.getfield 25, 3) := by decide +kernel
theorem dX8_arcNow_77 : decode cX8_arcNow 77 = .ok (.iload_n 1, 1) := by decide +kernel
theorem dX8_arcNow_78 : decode cX8_arcNow 78 = .ok (.iaload, 1) := by decide +kernel
theorem dX8_arcNow_79 : decode cX8_arcNow 79 = .ok (.if_icmp .le 7, 3) := by decide +kernel
theorem dX8_arcNow_82 : decode cX8_arcNow 82 = .ok (.iconst 1, 1) := by decide +kernel
theorem dX8_arcNow_83 : decode cX8_arcNow 83 = .ok (.goto 4, 3) := by decide +kernel
theorem dX8_arcNow_86 : decode cX8_arcNow 86 = .ok (.iconst 0, 1) := by decide +kernel
theorem dX8_arcNow_87 : decode cX8_arcNow 87 = .ok (.ireturn, 1) := by decide +kernel
theorem dX8_arc_0 : decode cX8_arc 0 = .ok (.aload_n 0, 1) := by decide +kernel
theorem dX8_arc_1 : decode cX8_arc 1 = .ok (.iload_n 1, 1) := by decide +kernel
theorem dX8_arc_2 : decode cX8_arc 2 = .ok (.iload_n 2, 1) := by decide +kernel
theorem dX8_arc_3 : decode cX8_arc 3 = .ok (.invokevirtual 180, 3) := by decide +kernel
theorem dX8_arc_6 : decode cX8_arc 6 = .ok (.ifCond .ne 6, 3) := by decide +kernel
theorem dX8_arc_9 : decode cX8_arc 9 = .ok (.bipush (-101), 2) := by decide +kernel
theorem dX8_arc_11 : decode cX8_arc 11 = .ok (.ireturn, 1) := by decide +kernel
theorem dX8_arc_12 : decode cX8_arc 12 = .ok (.iload_n 3, 1) := by decide +kernel
theorem dX8_arc_13 : decode cX8_arc 13 = .ok (.iconst 0, 1) := by decide +kernel
theorem dX8_arc_14 : decode cX8_arc 14 = .ok (.iconst 3, 1) := by decide +kernel
theorem dX8_arc_15 : decode cX8_arc 15 = .ok (.invokestatic 89, 3) := by decide +kernel
theorem dX8_arc_18 : decode cX8_arc 18 = .ok (.ifCond .eq 13, 3) := by decide +kernel
theorem dX8_arc_21 : decode cX8_arc 21 = .ok (.aload_n 0, 1) := by decide +kernel
theorem dX8_arc_22 : decode cX8_arc 22 = .ok (.iload_n 1, 1) := by decide +kernel
theorem dX8_arc_23 : decode cX8_arc 23 = .ok (.iload_n 2, 1) := by decide +kernel
theorem dX8_arc_24 : decode cX8_arc 24 = .ok (.iload_n 3, 1) := by decide +kernel
theorem dX8_arc_25 : decode cX8_arc 25 = .ok (.invokevirtual 204, 3) := by decide +kernel
theorem dX8_arc_28 : decode cX8_arc 28 = .ok (.goto 5, 3) := by decide +kernel
theorem dX8_arc_31 : decode cX8_arc 31 = .ok (.bipush (-102), 2) := by decide +kernel
theorem dX8_arc_33 : decode cX8_arc 33 = .ok (.ireturn, 1) := by decide +kernel
theorem dX8_unpacked_0 : decode cX8_unpacked 0 = .ok (.aload_n 0, 1) := by decide +kernel
theorem dX8_unpacked_1 : decode cX8_unpacked 1 = .ok (.iload_n 1, 1) := by decide +kernel
theorem dX8_unpacked_2 : decode cX8_unpacked 2 = .ok (.iload_n 2, 1) := by decide +kernel
theorem dX8_unpacked_3 : decode cX8_unpacked 3 = .ok (.invokevirtual 180, 3) := by decide +kernel
theorem dX8_unpacked_6 : decode cX8_unpacked 6 = .ok (.ifCond .ne 6, 3) := by decide +kernel
theorem dX8_unpacked_9 : decode cX8_unpacked 9 = .ok (.bipush (-101), 2) := by decide +kernel
theorem dX8_unpacked_11 : decode cX8_unpacked 11 = .ok (.ireturn, 1) := by decide +kernel
theorem dX8_unpacked_12 : decode cX8_unpacked 12 = .ok (.aload_n 0, 1) := by decide +kernel
theorem dX8_unpacked_13 : decode cX8_unpacked 13 = .ok (.getfield 31, 3) := by decide +kernel
theorem dX8_unpacked_16 : decode cX8_unpacked 16 = .ok (.bipush 12, 2) := by decide +kernel
theorem dX8_unpacked_18 : decode cX8_unpacked 18 = .ok (.iload_n 1, 1) := by decide +kernel
theorem dX8_unpacked_19 : decode cX8_unpacked 19 = .ok (.imul, 1) := by decide +kernel
theorem dX8_unpacked_20 : decode cX8_unpacked 20 = .ok (.iload_n 2, 1) := by decide +kernel
theorem dX8_unpacked_21 : decode cX8_unpacked 21 = .ok (.iadd, 1) := by decide +kernel
theorem dX8_unpacked_22 : decode cX8_unpacked 22 = .ok (.iaload, 1) := by decide +kernel
theorem dX8_unpacked_23 : decode cX8_unpacked 23 = .ok (.ldc 136, 2) := by decide +kernel
theorem dX8_unpacked_25 : decode cX8_unpacked 25 = .ok (.if_icmp .lt 5, 3) := by decide +kernel
theorem dX8_unpacked_28 : decode cX8_unpacked 28 = .ok (.iconst (-1), 1) := by decide +kernel
theorem dX8_unpacked_29 : decode cX8_unpacked 29 = .ok (.ireturn, 1) := by decide +kernel
theorem dX8_unpacked_30 : decode cX8_unpacked 30 = .ok (.aload_n 0, 1) := by decide +kernel
theorem dX8_unpacked_31 : decode cX8_unpacked 31 = .ok (.iload_n 1, 1) := by decide +kernel
theorem dX8_unpacked_32 : decode cX8_unpacked 32 = .ok (.iload_n 2, 1) := by decide +kernel
theorem dX8_unpacked_33 : decode cX8_unpacked 33 = .ok (.invokevirtual 201, 3) := by decide +kernel
theorem dX8_unpacked_36 : decode cX8_unpacked 36 = .ok (.iload_n 3, 1) := by decide +kernel
theorem dX8_unpacked_37 : decode cX8_unpacked 37 = .ok (.iconst 0, 1) := by decide +kernel
theorem dX8_unpacked_38 : decode cX8_unpacked 38 = .ok (.aload_n 0, 1) := by decide +kernel
theorem dX8_unpacked_39 : decode cX8_unpacked 39 = .ok (.getfield 198, 3) := by decide +kernel
theorem dX8_unpacked_42 : decode cX8_unpacked 42 = .ok (.iconst 1, 1) := by decide +kernel
theorem dX8_unpacked_43 : decode cX8_unpacked 43 = .ok (.isub, 1) := by decide +kernel
theorem dX8_unpacked_44 : decode cX8_unpacked 44 = .ok (.invokestatic 89, 3) := by decide +kernel
theorem dX8_unpacked_47 : decode cX8_unpacked 47 = .ok (.ifCond .eq 12, 3) := by decide +kernel
theorem dX8_unpacked_50 : decode cX8_unpacked 50 = .ok (.aload_n 0, 1) := by decide +kernel
theorem dX8_unpacked_51 : decode cX8_unpacked 51 = .ok (.getfield 74, 3) := by decide +kernel
theorem dX8_unpacked_54 : decode cX8_unpacked 54 = .ok (.iload_n 3, 1) := by decide +kernel
theorem dX8_unpacked_55 : decode cX8_unpacked 55 = .ok (.iaload, 1) := by decide +kernel
theorem dX8_unpacked_56 : decode cX8_unpacked 56 = .ok (.goto 4, 3) := by decide +kernel
theorem dX8_unpacked_59 : decode cX8_unpacked 59 = .ok (.iconst (-1), 1) := by decide +kernel
theorem dX8_unpacked_60 : decode cX8_unpacked 60 = .ok (.ireturn, 1) := by decide +kernel
theorem dX8_layRisen_0 : decode cX8_layRisen 0 = .ok (.iconst 0, 1) := by decide +kernel
theorem dX8_layRisen_1 : decode cX8_layRisen 1 = .ok (.istore_n 3, 1) := by decide +kernel
theorem dX8_layRisen_2 : decode cX8_layRisen 2 = .ok (.iload_n 3, 1) := by decide +kernel
theorem dX8_layRisen_3 : decode cX8_layRisen 3 = .ok (.aload_n 0, 1) := by decide +kernel
theorem dX8_layRisen_4 : decode cX8_layRisen 4 = .ok (.getfield 120, 3) := by decide +kernel
theorem dX8_layRisen_7 : decode cX8_layRisen 7 = .ok (.if_icmp .ge 26, 3) := by decide +kernel
theorem dX8_layRisen_10 : decode cX8_layRisen 10 = .ok (.aload_n 0, 1) := by decide +kernel
theorem dX8_layRisen_11 : decode cX8_layRisen 11 = .ok (.getfield 77, 3) := by decide +kernel
theorem dX8_layRisen_14 : decode cX8_layRisen 14 = .ok (.iload_n 3, 1) := by decide +kernel
theorem dX8_layRisen_15 : decode cX8_layRisen 15 = .ok (.iload_n 3, 1) := by decide +kernel
theorem dX8_layRisen_16 : decode cX8_layRisen 16 = .ok (.iload_n 1, 1) := by decide +kernel
theorem dX8_layRisen_17 : decode cX8_layRisen 17 = .ok (.if_icmp .ne 7, 3) := by decide +kernel
theorem dX8_layRisen_20 : decode cX8_layRisen 20 = .ok (.iconst 0, 1) := by decide +kernel
theorem dX8_layRisen_21 : decode cX8_layRisen 21 = .ok (.goto 5, 3) := by decide +kernel
theorem dX8_layRisen_24 : decode cX8_layRisen 24 = .ok (.ldc 136, 2) := by decide +kernel
theorem dX8_layRisen_26 : decode cX8_layRisen 26 = .ok (.iastore, 1) := by decide +kernel
theorem dX8_layRisen_27 : decode cX8_layRisen 27 = .ok (.iinc 3 1, 3) := by decide +kernel
theorem dX8_layRisen_30 : decode cX8_layRisen 30 = .ok (.goto (-28), 3) := by decide +kernel
theorem dX8_layRisen_33 : decode cX8_layRisen 33 = .ok (.iconst 0, 1) := by decide +kernel
theorem dX8_layRisen_34 : decode cX8_layRisen 34 = .ok (.istore_n 3, 1) := by decide +kernel
theorem dX8_layRisen_35 : decode cX8_layRisen 35 = .ok (.iload_n 3, 1) := by decide +kernel
theorem dX8_layRisen_36 : decode cX8_layRisen 36 = .ok (.aload_n 0, 1) := by decide +kernel
theorem dX8_layRisen_37 : decode cX8_layRisen 37 = .ok (.getfield 120, 3) := by decide +kernel
theorem dX8_layRisen_40 : decode cX8_layRisen 40 = .ok (.if_icmp .ge 131, 3) := by decide +kernel
theorem dX8_layRisen_43 : decode cX8_layRisen 43 = .ok (.aload_n 0, 1) := by decide +kernel
theorem dX8_layRisen_44 : decode cX8_layRisen 44 = .ok (.getfield 28, 3) := by decide +kernel
theorem dX8_layRisen_47 : decode cX8_layRisen 47 = .ok (.iload_n 2, 1) := by decide +kernel
theorem dX8_layRisen_48 : decode cX8_layRisen 48 = .ok (.ifCond .eq 7, 3) := by decide +kernel
theorem dX8_layRisen_51 : decode cX8_layRisen 51 = .ok (.iload_n 3, 1) := by decide +kernel
theorem dX8_layRisen_52 : decode cX8_layRisen 52 = .ok (.goto 11, 3) := by decide +kernel
theorem dX8_layRisen_55 : decode cX8_layRisen 55 = .ok (.aload_n 0, 1) := by decide +kernel
theorem dX8_layRisen_56 : decode cX8_layRisen 56 = .ok (.getfield 120, 3) := by decide +kernel
theorem dX8_layRisen_59 : decode cX8_layRisen 59 = .ok (.iconst 1, 1) := by decide +kernel
theorem dX8_layRisen_60 : decode cX8_layRisen 60 = .ok (.isub, 1) := by decide +kernel
theorem dX8_layRisen_61 : decode cX8_layRisen 61 = .ok (.iload_n 3, 1) := by decide +kernel
theorem dX8_layRisen_62 : decode cX8_layRisen 62 = .ok (.isub, 1) := by decide +kernel
theorem dX8_layRisen_63 : decode cX8_layRisen 63 = .ok (.iaload, 1) := by decide +kernel
theorem dX8_layRisen_64 : decode cX8_layRisen 64 = .ok (.istore 4, 2) := by decide +kernel
theorem dX8_layRisen_66 : decode cX8_layRisen 66 = .ok (.iload_n 3, 1) := by decide +kernel
theorem dX8_layRisen_67 : decode cX8_layRisen 67 = .ok (.iconst 1, 1) := by decide +kernel
theorem dX8_layRisen_68 : decode cX8_layRisen 68 = .ok (.iadd, 1) := by decide +kernel
theorem dX8_layRisen_69 : decode cX8_layRisen 69 = .ok (.istore 5, 2) := by decide +kernel
theorem dX8_layRisen_71 : decode cX8_layRisen 71 = .ok (.iload 5, 2) := by decide +kernel
theorem dX8_layRisen_73 : decode cX8_layRisen 73 = .ok (.aload_n 0, 1) := by decide +kernel
theorem dX8_layRisen_74 : decode cX8_layRisen 74 = .ok (.getfield 120, 3) := by decide +kernel
theorem dX8_layRisen_77 : decode cX8_layRisen 77 = .ok (.if_icmp .ge 88, 3) := by decide +kernel
theorem dX8_layRisen_80 : decode cX8_layRisen 80 = .ok (.aload_n 0, 1) := by decide +kernel
theorem dX8_layRisen_81 : decode cX8_layRisen 81 = .ok (.getfield 28, 3) := by decide +kernel
theorem dX8_layRisen_84 : decode cX8_layRisen 84 = .ok (.iload_n 2, 1) := by decide +kernel
theorem dX8_layRisen_85 : decode cX8_layRisen 85 = .ok (.ifCond .eq 8, 3) := by decide +kernel
theorem dX8_layRisen_88 : decode cX8_layRisen 88 = .ok (.iload 5, 2) := by decide +kernel
theorem dX8_layRisen_90 : decode cX8_layRisen 90 = .ok (.goto 12, 3) := by decide +kernel
theorem dX8_layRisen_93 : decode cX8_layRisen 93 = .ok (.aload_n 0, 1) := by decide +kernel
theorem dX8_layRisen_94 : decode cX8_layRisen 94 = .ok (.getfield 120, 3) := by decide +kernel
theorem dX8_layRisen_97 : decode cX8_layRisen 97 = .ok (.iconst 1, 1) := by decide +kernel
theorem dX8_layRisen_98 : decode cX8_layRisen 98 = .ok (.isub, 1) := by decide +kernel
theorem dX8_layRisen_99 : decode cX8_layRisen 99 = .ok (.iload 5, 2) := by decide +kernel
theorem dX8_layRisen_101 : decode cX8_layRisen 101 = .ok (.isub, 1) := by decide +kernel
theorem dX8_layRisen_102 : decode cX8_layRisen 102 = .ok (.iaload, 1) := by decide +kernel
theorem dX8_layRisen_103 : decode cX8_layRisen 103 = .ok (.istore 6, 2) := by decide +kernel
theorem dX8_layRisen_105 : decode cX8_layRisen 105 = .ok (.aload_n 0, 1) := by decide +kernel
theorem dX8_layRisen_106 : decode cX8_layRisen 106 = .ok (.getfield 77, 3) := by decide +kernel
theorem dX8_layRisen_109 : decode cX8_layRisen 109 = .ok (.iload 4, 2) := by decide +kernel
theorem dX8_layRisen_111 : decode cX8_layRisen 111 = .ok (.iaload, 1) := by decide +kernel
theorem dX8_layRisen_112 : decode cX8_layRisen 112 = .ok (.aload_n 0, 1) := by decide +kernel
theorem dX8_layRisen_113 : decode cX8_layRisen 113 = .ok (.getfield 31, 3) := by decide +kernel
theorem dX8_layRisen_116 : decode cX8_layRisen 116 = .ok (.bipush 12, 2) := by decide +kernel
theorem dX8_layRisen_118 : decode cX8_layRisen 118 = .ok (.iload 4, 2) := by decide +kernel
theorem dX8_layRisen_120 : decode cX8_layRisen 120 = .ok (.imul, 1) := by decide +kernel
theorem dX8_layRisen_121 : decode cX8_layRisen 121 = .ok (.iload 6, 2) := by decide +kernel
theorem dX8_layRisen_123 : decode cX8_layRisen 123 = .ok (.iadd, 1) := by decide +kernel
theorem dX8_layRisen_124 : decode cX8_layRisen 124 = .ok (.iaload, 1) := by decide +kernel
theorem dX8_layRisen_125 : decode cX8_layRisen 125 = .ok (.iadd, 1) := by decide +kernel
theorem dX8_layRisen_126 : decode cX8_layRisen 126 = .ok (.istore 7, 2) := by decide +kernel
theorem dX8_layRisen_128 : decode cX8_layRisen 128 = .ok (.aload_n 0, 1) := by decide +kernel
theorem dX8_layRisen_129 : decode cX8_layRisen 129 = .ok (.getfield 77, 3) := by decide +kernel
theorem dX8_layRisen_132 : decode cX8_layRisen 132 = .ok (.iload 6, 2) := by decide +kernel
theorem dX8_layRisen_134 : decode cX8_layRisen 134 = .ok (.iload 7, 2) := by decide +kernel
theorem dX8_layRisen_136 : decode cX8_layRisen 136 = .ok (.aload_n 0, 1) := by decide +kernel
theorem dX8_layRisen_137 : decode cX8_layRisen 137 = .ok (.getfield 77, 3) := by decide +kernel
theorem dX8_layRisen_140 : decode cX8_layRisen 140 = .ok (.iload 6, 2) := by decide +kernel
theorem dX8_layRisen_142 : decode cX8_layRisen 142 = .ok (.iaload, 1) := by decide +kernel
theorem dX8_layRisen_143 : decode cX8_layRisen 143 = .ok (.if_icmp .ge 8, 3) := by decide +kernel
theorem dX8_layRisen_146 : decode cX8_layRisen 146 = .ok (.iload 7, 2) := by decide +kernel
theorem dX8_layRisen_148 : decode cX8_layRisen 148 = .ok (.goto 10, 3) := by decide +kernel
theorem dX8_layRisen_151 : decode cX8_layRisen 151 = .ok (.aload_n 0, 1) := by decide +kernel
theorem dX8_layRisen_152 : decode cX8_layRisen 152 = .ok (.getfield 77, 3) := by decide +kernel
theorem dX8_layRisen_155 : decode cX8_layRisen 155 = .ok (.iload 6, 2) := by decide +kernel
theorem dX8_layRisen_157 : decode cX8_layRisen 157 = .ok (.iaload, 1) := by decide +kernel
theorem dX8_layRisen_158 : decode cX8_layRisen 158 = .ok (.iastore, 1) := by decide +kernel
theorem dX8_layRisen_159 : decode cX8_layRisen 159 = .ok (.iinc 5 1, 3) := by decide +kernel
theorem dX8_layRisen_162 : decode cX8_layRisen 162 = .ok (.goto (-91), 3) := by decide +kernel
theorem dX8_layRisen_165 : decode cX8_layRisen 165 = .ok (.iinc 3 1, 3) := by decide +kernel
theorem dX8_layRisen_168 : decode cX8_layRisen 168 = .ok (.goto (-133), 3) := by decide +kernel
theorem dX8_layRisen_171 : decode cX8_layRisen 171 = .ok (.return_, 1) := by decide +kernel
theorem dX8_risenTo_0 : decode cX8_risenTo 0 = .ok (.aload_n 0, 1) := by decide +kernel
theorem dX8_risenTo_1 : decode cX8_risenTo 1 = .ok (.iload_n 1, 1) := by decide +kernel
theorem dX8_risenTo_2 : decode cX8_risenTo 2 = .ok (.iload_n 3, 1) := by decide +kernel
theorem dX8_risenTo_3 : decode cX8_risenTo 3 = .ok (.invokevirtual 208, 3) := by decide +kernel
theorem dX8_risenTo_6 : decode cX8_risenTo 6 = .ok (.aload_n 0, 1) := by decide +kernel
theorem dX8_risenTo_7 : decode cX8_risenTo 7 = .ok (.getfield 77, 3) := by decide +kernel
theorem dX8_risenTo_10 : decode cX8_risenTo 10 = .ok (.iload_n 2, 1) := by decide +kernel
theorem dX8_risenTo_11 : decode cX8_risenTo 11 = .ok (.iaload, 1) := by decide +kernel
theorem dX8_risenTo_12 : decode cX8_risenTo 12 = .ok (.ldc 136, 2) := by decide +kernel
theorem dX8_risenTo_14 : decode cX8_risenTo 14 = .ok (.if_icmp .lt 7, 3) := by decide +kernel
theorem dX8_risenTo_17 : decode cX8_risenTo 17 = .ok (.iconst (-1), 1) := by decide +kernel
theorem dX8_risenTo_18 : decode cX8_risenTo 18 = .ok (.goto 9, 3) := by decide +kernel
theorem dX8_risenTo_21 : decode cX8_risenTo 21 = .ok (.aload_n 0, 1) := by decide +kernel
theorem dX8_risenTo_22 : decode cX8_risenTo 22 = .ok (.getfield 77, 3) := by decide +kernel
theorem dX8_risenTo_25 : decode cX8_risenTo 25 = .ok (.iload_n 2, 1) := by decide +kernel
theorem dX8_risenTo_26 : decode cX8_risenTo 26 = .ok (.iaload, 1) := by decide +kernel
theorem dX8_risenTo_27 : decode cX8_risenTo 27 = .ok (.ireturn, 1) := by decide +kernel
theorem dX8_up_0 : decode cX8_up 0 = .ok (.aload_n 0, 1) := by decide +kernel
theorem dX8_up_1 : decode cX8_up 1 = .ok (.iload_n 1, 1) := by decide +kernel
theorem dX8_up_2 : decode cX8_up 2 = .ok (.iload_n 2, 1) := by decide +kernel
theorem dX8_up_3 : decode cX8_up 3 = .ok (.invokevirtual 180, 3) := by decide +kernel
theorem dX8_up_6 : decode cX8_up 6 = .ok (.ifCond .eq 13, 3) := by decide +kernel
theorem dX8_up_9 : decode cX8_up 9 = .ok (.aload_n 0, 1) := by decide +kernel
theorem dX8_up_10 : decode cX8_up 10 = .ok (.iload_n 1, 1) := by decide +kernel
theorem dX8_up_11 : decode cX8_up 11 = .ok (.iload_n 2, 1) := by decide +kernel
theorem dX8_up_12 : decode cX8_up 12 = .ok (.iconst 1, 1) := by decide +kernel
theorem dX8_up_13 : decode cX8_up 13 = .ok (.invokevirtual 212, 3) := by decide +kernel
theorem dX8_up_16 : decode cX8_up 16 = .ok (.goto 5, 3) := by decide +kernel
theorem dX8_up_19 : decode cX8_up 19 = .ok (.bipush (-101), 2) := by decide +kernel
theorem dX8_up_21 : decode cX8_up 21 = .ok (.ireturn, 1) := by decide +kernel
theorem dX8_down_0 : decode cX8_down 0 = .ok (.aload_n 0, 1) := by decide +kernel
theorem dX8_down_1 : decode cX8_down 1 = .ok (.iload_n 1, 1) := by decide +kernel
theorem dX8_down_2 : decode cX8_down 2 = .ok (.iload_n 2, 1) := by decide +kernel
theorem dX8_down_3 : decode cX8_down 3 = .ok (.invokevirtual 180, 3) := by decide +kernel
theorem dX8_down_6 : decode cX8_down 6 = .ok (.ifCond .eq 13, 3) := by decide +kernel
theorem dX8_down_9 : decode cX8_down 9 = .ok (.aload_n 0, 1) := by decide +kernel
theorem dX8_down_10 : decode cX8_down 10 = .ok (.iload_n 1, 1) := by decide +kernel
theorem dX8_down_11 : decode cX8_down 11 = .ok (.iload_n 2, 1) := by decide +kernel
theorem dX8_down_12 : decode cX8_down 12 = .ok (.iconst 0, 1) := by decide +kernel
theorem dX8_down_13 : decode cX8_down 13 = .ok (.invokevirtual 212, 3) := by decide +kernel
theorem dX8_down_16 : decode cX8_down 16 = .ok (.goto 5, 3) := by decide +kernel
theorem dX8_down_19 : decode cX8_down 19 = .ok (.bipush (-101), 2) := by decide +kernel
theorem dX8_down_21 : decode cX8_down 21 = .ok (.ireturn, 1) := by decide +kernel
theorem dX8_meetNow_0 : decode cX8_meetNow 0 = .ok (.aload_n 0, 1) := by decide +kernel
theorem dX8_meetNow_1 : decode cX8_meetNow 1 = .ok (.iload_n 1, 1) := by decide +kernel
theorem dX8_meetNow_2 : decode cX8_meetNow 2 = .ok (.iconst 1, 1) := by decide +kernel
theorem dX8_meetNow_3 : decode cX8_meetNow 3 = .ok (.invokevirtual 208, 3) := by decide +kernel
theorem dX8_meetNow_6 : decode cX8_meetNow 6 = .ok (.iconst 0, 1) := by decide +kernel
theorem dX8_meetNow_7 : decode cX8_meetNow 7 = .ok (.istore_n 3, 1) := by decide +kernel
theorem dX8_meetNow_8 : decode cX8_meetNow 8 = .ok (.iload_n 3, 1) := by decide +kernel
theorem dX8_meetNow_9 : decode cX8_meetNow 9 = .ok (.aload_n 0, 1) := by decide +kernel
theorem dX8_meetNow_10 : decode cX8_meetNow 10 = .ok (.getfield 120, 3) := by decide +kernel
theorem dX8_meetNow_13 : decode cX8_meetNow 13 = .ok (.if_icmp .ge 21, 3) := by decide +kernel
theorem dX8_meetNow_16 : decode cX8_meetNow 16 = .ok (.aload_n 0, 1) := by decide +kernel
theorem dX8_meetNow_17 : decode cX8_meetNow 17 = .ok (.getfield 80, 3) := by decide +kernel
theorem dX8_meetNow_20 : decode cX8_meetNow 20 = .ok (.iload_n 3, 1) := by decide +kernel
theorem dX8_meetNow_21 : decode cX8_meetNow 21 = .ok (.aload_n 0, 1) := by decide +kernel
theorem dX8_meetNow_22 : decode cX8_meetNow 22 = .ok (.getfield 77, 3) := by decide +kernel
theorem dX8_meetNow_25 : decode cX8_meetNow 25 = .ok (.iload_n 3, 1) := by decide +kernel
theorem dX8_meetNow_26 : decode cX8_meetNow 26 = .ok (.iaload, 1) := by decide +kernel
theorem dX8_meetNow_27 : decode cX8_meetNow 27 = .ok (.iastore, 1) := by decide +kernel
theorem dX8_meetNow_28 : decode cX8_meetNow 28 = .ok (.iinc 3 1, 3) := by decide +kernel
theorem dX8_meetNow_31 : decode cX8_meetNow 31 = .ok (.goto (-23), 3) := by decide +kernel
theorem dX8_meetNow_34 : decode cX8_meetNow 34 = .ok (.iconst (-1), 1) := by decide +kernel
theorem dX8_meetNow_35 : decode cX8_meetNow 35 = .ok (.istore_n 3, 1) := by decide +kernel
theorem dX8_meetNow_36 : decode cX8_meetNow 36 = .ok (.ldc 136, 2) := by decide +kernel
theorem dX8_meetNow_38 : decode cX8_meetNow 38 = .ok (.istore 4, 2) := by decide +kernel
theorem dX8_meetNow_40 : decode cX8_meetNow 40 = .ok (.iconst 0, 1) := by decide +kernel
theorem dX8_meetNow_41 : decode cX8_meetNow 41 = .ok (.istore 5, 2) := by decide +kernel
theorem dX8_meetNow_43 : decode cX8_meetNow 43 = .ok (.iload 5, 2) := by decide +kernel
theorem dX8_meetNow_45 : decode cX8_meetNow 45 = .ok (.aload_n 0, 1) := by decide +kernel
theorem dX8_meetNow_46 : decode cX8_meetNow 46 = .ok (.getfield 120, 3) := by decide +kernel
theorem dX8_meetNow_49 : decode cX8_meetNow 49 = .ok (.if_icmp .ge 62, 3) := by decide +kernel
theorem dX8_meetNow_52 : decode cX8_meetNow 52 = .ok (.aload_n 0, 1) := by decide +kernel
theorem dX8_meetNow_53 : decode cX8_meetNow 53 = .ok (.iload 5, 2) := by decide +kernel
theorem dX8_meetNow_55 : decode cX8_meetNow 55 = .ok (.iconst 0, 1) := by decide +kernel
theorem dX8_meetNow_56 : decode cX8_meetNow 56 = .ok (.invokevirtual 208, 3) := by decide +kernel
theorem dX8_meetNow_59 : decode cX8_meetNow 59 = .ok (.aload_n 0, 1) := by decide +kernel
theorem dX8_meetNow_60 : decode cX8_meetNow 60 = .ok (.getfield 80, 3) := by decide +kernel
theorem dX8_meetNow_63 : decode cX8_meetNow 63 = .ok (.iload 5, 2) := by decide +kernel
theorem dX8_meetNow_65 : decode cX8_meetNow 65 = .ok (.iaload, 1) := by decide +kernel
theorem dX8_meetNow_66 : decode cX8_meetNow 66 = .ok (.aload_n 0, 1) := by decide +kernel
theorem dX8_meetNow_67 : decode cX8_meetNow 67 = .ok (.getfield 77, 3) := by decide +kernel
theorem dX8_meetNow_70 : decode cX8_meetNow 70 = .ok (.iload_n 2, 1) := by decide +kernel
theorem dX8_meetNow_71 : decode cX8_meetNow 71 = .ok (.iaload, 1) := by decide +kernel
theorem dX8_meetNow_72 : decode cX8_meetNow 72 = .ok (.iadd, 1) := by decide +kernel
theorem dX8_meetNow_73 : decode cX8_meetNow 73 = .ok (.istore 6, 2) := by decide +kernel
theorem dX8_meetNow_75 : decode cX8_meetNow 75 = .ok (.iload 6, 2) := by decide +kernel
theorem dX8_meetNow_77 : decode cX8_meetNow 77 = .ok (.iload 4, 2) := by decide +kernel
theorem dX8_meetNow_79 : decode cX8_meetNow 79 = .ok (.if_icmp .ge 8, 3) := by decide +kernel
theorem dX8_meetNow_82 : decode cX8_meetNow 82 = .ok (.iload 5, 2) := by decide +kernel
theorem dX8_meetNow_84 : decode cX8_meetNow 84 = .ok (.goto 4, 3) := by decide +kernel
theorem dX8_meetNow_87 : decode cX8_meetNow 87 = .ok (.iload_n 3, 1) := by decide +kernel
theorem dX8_meetNow_88 : decode cX8_meetNow 88 = .ok (.istore_n 3, 1) := by decide +kernel
theorem dX8_meetNow_89 : decode cX8_meetNow 89 = .ok (.iload 6, 2) := by decide +kernel
theorem dX8_meetNow_91 : decode cX8_meetNow 91 = .ok (.iload 4, 2) := by decide +kernel
theorem dX8_meetNow_93 : decode cX8_meetNow 93 = .ok (.if_icmp .ge 8, 3) := by decide +kernel
theorem dX8_meetNow_96 : decode cX8_meetNow 96 = .ok (.iload 6, 2) := by decide +kernel
theorem dX8_meetNow_98 : decode cX8_meetNow 98 = .ok (.goto 5, 3) := by decide +kernel
theorem dX8_meetNow_101 : decode cX8_meetNow 101 = .ok (.iload 4, 2) := by decide +kernel
theorem dX8_meetNow_103 : decode cX8_meetNow 103 = .ok (.istore 4, 2) := by decide +kernel
theorem dX8_meetNow_105 : decode cX8_meetNow 105 = .ok (.iinc 5 1, 3) := by decide +kernel
theorem dX8_meetNow_108 : decode cX8_meetNow 108 = .ok (.goto (-65), 3) := by decide +kernel
theorem dX8_meetNow_111 : decode cX8_meetNow 111 = .ok (.iload_n 3, 1) := by decide +kernel
theorem dX8_meetNow_112 : decode cX8_meetNow 112 = .ok (.ireturn, 1) := by decide +kernel
theorem dX8_meet_0 : decode cX8_meet 0 = .ok (.aload_n 0, 1) := by decide +kernel
theorem dX8_meet_1 : decode cX8_meet 1 = .ok (.iload_n 1, 1) := by decide +kernel
theorem dX8_meet_2 : decode cX8_meet 2 = .ok (.iload_n 2, 1) := by decide +kernel
theorem dX8_meet_3 : decode cX8_meet 3 = .ok (.invokevirtual 180, 3) := by decide +kernel
theorem dX8_meet_6 : decode cX8_meet 6 = .ok (.ifCond .eq 12, 3) := by decide +kernel
theorem dX8_meet_9 : decode cX8_meet 9 = .ok (.aload_n 0, 1) := by decide +kernel
theorem dX8_meet_10 : decode cX8_meet 10 = .ok (.iload_n 1, 1) := by decide +kernel
theorem dX8_meet_11 : decode cX8_meet 11 = .ok (.iload_n 2, 1) := by decide +kernel
theorem dX8_meet_12 : decode cX8_meet 12 = .ok (.invokevirtual 216, 3) := by decide +kernel
theorem dX8_meet_15 : decode cX8_meet 15 = .ok (.goto 5, 3) := by decide +kernel
theorem dX8_meet_18 : decode cX8_meet 18 = .ok (.bipush (-101), 2) := by decide +kernel
theorem dX8_meet_20 : decode cX8_meet 20 = .ok (.ireturn, 1) := by decide +kernel
theorem dX8_layTried_0 : decode cX8_layTried 0 = .ok (.iconst 0, 1) := by decide +kernel
theorem dX8_layTried_1 : decode cX8_layTried 1 = .ok (.istore_n 2, 1) := by decide +kernel
theorem dX8_layTried_2 : decode cX8_layTried 2 = .ok (.iload_n 2, 1) := by decide +kernel
theorem dX8_layTried_3 : decode cX8_layTried 3 = .ok (.aload_n 0, 1) := by decide +kernel
theorem dX8_layTried_4 : decode cX8_layTried 4 = .ok (.getfield 120, 3) := by decide +kernel
theorem dX8_layTried_7 : decode cX8_layTried 7 = .ok (.if_icmp .ge 99, 3) := by decide +kernel
theorem dX8_layTried_10 : decode cX8_layTried 10 = .ok (.iconst 0, 1) := by decide +kernel
theorem dX8_layTried_11 : decode cX8_layTried 11 = .ok (.istore_n 3, 1) := by decide +kernel
theorem dX8_layTried_12 : decode cX8_layTried 12 = .ok (.iload_n 3, 1) := by decide +kernel
theorem dX8_layTried_13 : decode cX8_layTried 13 = .ok (.aload_n 0, 1) := by decide +kernel
theorem dX8_layTried_14 : decode cX8_layTried 14 = .ok (.getfield 120, 3) := by decide +kernel
theorem dX8_layTried_17 : decode cX8_layTried 17 = .ok (.if_icmp .ge 83, 3) := by decide +kernel
theorem dX8_layTried_20 : decode cX8_layTried 20 = .ok (.aload_n 0, 1) := by decide +kernel
theorem dX8_layTried_21 : decode cX8_layTried 21 = .ok (.iload_n 2, 1) := by decide +kernel
theorem dX8_layTried_22 : decode cX8_layTried 22 = .ok (.iload_n 3, 1) := by decide +kernel
theorem dX8_layTried_23 : decode cX8_layTried 23 = .ok (.invokevirtual 132, 3) := by decide +kernel
theorem dX8_layTried_26 : decode cX8_layTried 26 = .ok (.ifCond .eq 17, 3) := by decide +kernel
theorem dX8_layTried_29 : decode cX8_layTried 29 = .ok (.iload_n 2, 1) := by decide +kernel
theorem dX8_layTried_30 : decode cX8_layTried 30 = .ok (.iload_n 1, 1) := by decide +kernel
theorem dX8_layTried_31 : decode cX8_layTried 31 = .ok (.if_icmp .eq 12, 3) := by decide +kernel
theorem dX8_layTried_34 : decode cX8_layTried 34 = .ok (.iload_n 3, 1) := by decide +kernel
theorem dX8_layTried_35 : decode cX8_layTried 35 = .ok (.iload_n 1, 1) := by decide +kernel
theorem dX8_layTried_36 : decode cX8_layTried 36 = .ok (.if_icmp .eq 7, 3) := by decide +kernel
theorem dX8_layTried_39 : decode cX8_layTried 39 = .ok (.iconst 1, 1) := by decide +kernel
theorem dX8_layTried_40 : decode cX8_layTried 40 = .ok (.goto 4, 3) := by decide +kernel
theorem dX8_layTried_43 : decode cX8_layTried 43 = .ok (.iconst 0, 1) := by decide +kernel
theorem dX8_layTried_44 : decode cX8_layTried 44 = .ok (.istore 4, 2) := by decide +kernel
theorem dX8_layTried_46 : decode cX8_layTried 46 = .ok (.aload_n 0, 1) := by decide +kernel
theorem dX8_layTried_47 : decode cX8_layTried 47 = .ok (.getfield 83, 3) := by decide +kernel
theorem dX8_layTried_50 : decode cX8_layTried 50 = .ok (.bipush 12, 2) := by decide +kernel
theorem dX8_layTried_52 : decode cX8_layTried 52 = .ok (.iload_n 2, 1) := by decide +kernel
theorem dX8_layTried_53 : decode cX8_layTried 53 = .ok (.imul, 1) := by decide +kernel
theorem dX8_layTried_54 : decode cX8_layTried 54 = .ok (.iload_n 3, 1) := by decide +kernel
theorem dX8_layTried_55 : decode cX8_layTried 55 = .ok (.iadd, 1) := by decide +kernel
theorem dX8_layTried_56 : decode cX8_layTried 56 = .ok (.iload_n 2, 1) := by decide +kernel
theorem dX8_layTried_57 : decode cX8_layTried 57 = .ok (.iload_n 3, 1) := by decide +kernel
theorem dX8_layTried_58 : decode cX8_layTried 58 = .ok (.if_icmp .ne 7, 3) := by decide +kernel
theorem dX8_layTried_61 : decode cX8_layTried 61 = .ok (.iconst 0, 1) := by decide +kernel
theorem dX8_layTried_62 : decode cX8_layTried 62 = .ok (.goto 31, 3) := by decide +kernel
theorem dX8_layTried_65 : decode cX8_layTried 65 = .ok (.iload 4, 2) := by decide +kernel
theorem dX8_layTried_67 : decode cX8_layTried 67 = .ok (.ifCond .eq 24, 3) := by decide +kernel
theorem dX8_layTried_70 : decode cX8_layTried 70 = .ok (.aload_n 0, 1) := by decide +kernel
theorem dX8_layTried_71 : decode cX8_layTried 71 = .ok (.getfield 22, 3) := by decide +kernel
theorem dX8_layTried_74 : decode cX8_layTried 74 = .ok (.bipush 12, 2) := by decide +kernel
theorem dX8_layTried_76 : decode cX8_layTried 76 = .ok (.iload_n 2, 1) := by decide +kernel
theorem dX8_layTried_77 : decode cX8_layTried 77 = .ok (.imul, 1) := by decide +kernel
theorem dX8_layTried_78 : decode cX8_layTried 78 = .ok (.iload_n 3, 1) := by decide +kernel
theorem dX8_layTried_79 : decode cX8_layTried 79 = .ok (.iadd, 1) := by decide +kernel
theorem dX8_layTried_80 : decode cX8_layTried 80 = .ok (.iaload, 1) := by decide +kernel
theorem dX8_layTried_81 : decode cX8_layTried 81 = .ok (.aload_n 0, 1) := by decide +kernel
theorem dX8_layTried_82 : decode cX8_layTried 82 = .ok (.getfield 19, 3) := by decide +kernel
theorem dX8_layTried_85 : decode cX8_layTried 85 = .ok (.iload_n 3, 1) := by decide +kernel
theorem dX8_layTried_86 : decode cX8_layTried 86 = .ok (.iaload, 1) := by decide +kernel
theorem dX8_layTried_87 : decode cX8_layTried 87 = .ok (.iadd, 1) := by decide +kernel
theorem dX8_layTried_88 : decode cX8_layTried 88 = .ok (.goto 5, 3) := by decide +kernel
theorem dX8_layTried_91 : decode cX8_layTried 91 = .ok (.ldc 136, 2) := by decide +kernel
theorem dX8_layTried_93 : decode cX8_layTried 93 = .ok (.iastore, 1) := by decide +kernel
theorem dX8_layTried_94 : decode cX8_layTried 94 = .ok (.iinc 3 1, 3) := by decide +kernel
theorem dX8_layTried_97 : decode cX8_layTried 97 = .ok (.goto (-85), 3) := by decide +kernel
theorem dX8_layTried_100 : decode cX8_layTried 100 = .ok (.iinc 2 1, 3) := by decide +kernel
theorem dX8_layTried_103 : decode cX8_layTried 103 = .ok (.goto (-101), 3) := by decide +kernel
theorem dX8_layTried_106 : decode cX8_layTried 106 = .ok (.iconst 0, 1) := by decide +kernel
theorem dX8_layTried_107 : decode cX8_layTried 107 = .ok (.istore_n 2, 1) := by decide +kernel
theorem dX8_layTried_108 : decode cX8_layTried 108 = .ok (.iload_n 2, 1) := by decide +kernel
theorem dX8_layTried_109 : decode cX8_layTried 109 = .ok (.aload_n 0, 1) := by decide +kernel
theorem dX8_layTried_110 : decode cX8_layTried 110 = .ok (.getfield 120, 3) := by decide +kernel
theorem dX8_layTried_113 : decode cX8_layTried 113 = .ok (.if_icmp .ge 115, 3) := by decide +kernel
theorem dX8_layTried_116 : decode cX8_layTried 116 = .ok (.iconst 0, 1) := by decide +kernel
theorem dX8_layTried_117 : decode cX8_layTried 117 = .ok (.istore_n 3, 1) := by decide +kernel
theorem dX8_layTried_118 : decode cX8_layTried 118 = .ok (.iload_n 3, 1) := by decide +kernel
theorem dX8_layTried_119 : decode cX8_layTried 119 = .ok (.aload_n 0, 1) := by decide +kernel
theorem dX8_layTried_120 : decode cX8_layTried 120 = .ok (.getfield 120, 3) := by decide +kernel
theorem dX8_layTried_123 : decode cX8_layTried 123 = .ok (.if_icmp .ge 99, 3) := by decide +kernel
theorem dX8_layTried_126 : decode cX8_layTried 126 = .ok (.iconst 0, 1) := by decide +kernel
theorem dX8_layTried_127 : decode cX8_layTried 127 = .ok (.istore 4, 2) := by decide +kernel
theorem dX8_layTried_129 : decode cX8_layTried 129 = .ok (.iload 4, 2) := by decide +kernel
theorem dX8_layTried_131 : decode cX8_layTried 131 = .ok (.aload_n 0, 1) := by decide +kernel
theorem dX8_layTried_132 : decode cX8_layTried 132 = .ok (.getfield 120, 3) := by decide +kernel
theorem dX8_layTried_135 : decode cX8_layTried 135 = .ok (.if_icmp .ge 81, 3) := by decide +kernel
theorem dX8_layTried_138 : decode cX8_layTried 138 = .ok (.aload_n 0, 1) := by decide +kernel
theorem dX8_layTried_139 : decode cX8_layTried 139 = .ok (.getfield 83, 3) := by decide +kernel
theorem dX8_layTried_142 : decode cX8_layTried 142 = .ok (.bipush 12, 2) := by decide +kernel
theorem dX8_layTried_144 : decode cX8_layTried 144 = .ok (.iload_n 3, 1) := by decide +kernel
theorem dX8_layTried_145 : decode cX8_layTried 145 = .ok (.imul, 1) := by decide +kernel
theorem dX8_layTried_146 : decode cX8_layTried 146 = .ok (.iload_n 2, 1) := by decide +kernel
theorem dX8_layTried_147 : decode cX8_layTried 147 = .ok (.iadd, 1) := by decide +kernel
theorem dX8_layTried_148 : decode cX8_layTried 148 = .ok (.iaload, 1) := by decide +kernel
theorem dX8_layTried_149 : decode cX8_layTried 149 = .ok (.aload_n 0, 1) := by decide +kernel
theorem dX8_layTried_150 : decode cX8_layTried 150 = .ok (.getfield 83, 3) := by decide +kernel
theorem dX8_layTried_153 : decode cX8_layTried 153 = .ok (.bipush 12, 2) := by decide +kernel
theorem dX8_layTried_155 : decode cX8_layTried 155 = .ok (.iload_n 2, 1) := by decide +kernel
theorem dX8_layTried_156 : decode cX8_layTried 156 = .ok (.imul, 1) := by decide +kernel
theorem dX8_layTried_157 : decode cX8_layTried 157 = .ok (.iload 4, 2) := by decide +kernel
theorem dX8_layTried_159 : decode cX8_layTried 159 = .ok (.iadd, 1) := by decide +kernel
theorem dX8_layTried_160 : decode cX8_layTried 160 = .ok (.iaload, 1) := by decide +kernel
theorem dX8_layTried_161 : decode cX8_layTried 161 = .ok (.iadd, 1) := by decide +kernel
theorem dX8_layTried_162 : decode cX8_layTried 162 = .ok (.istore 5, 2) := by decide +kernel
theorem dX8_layTried_164 : decode cX8_layTried 164 = .ok (.aload_n 0, 1) := by decide +kernel
theorem dX8_layTried_165 : decode cX8_layTried 165 = .ok (.getfield 83, 3) := by decide +kernel
theorem dX8_layTried_168 : decode cX8_layTried 168 = .ok (.bipush 12, 2) := by decide +kernel
theorem dX8_layTried_170 : decode cX8_layTried 170 = .ok (.iload_n 3, 1) := by decide +kernel
theorem dX8_layTried_171 : decode cX8_layTried 171 = .ok (.imul, 1) := by decide +kernel
theorem dX8_layTried_172 : decode cX8_layTried 172 = .ok (.iload 4, 2) := by decide +kernel
theorem dX8_layTried_174 : decode cX8_layTried 174 = .ok (.iadd, 1) := by decide +kernel
theorem dX8_layTried_175 : decode cX8_layTried 175 = .ok (.iload 5, 2) := by decide +kernel
theorem dX8_layTried_177 : decode cX8_layTried 177 = .ok (.aload_n 0, 1) := by decide +kernel
theorem dX8_layTried_178 : decode cX8_layTried 178 = .ok (.getfield 83, 3) := by decide +kernel
theorem dX8_layTried_181 : decode cX8_layTried 181 = .ok (.bipush 12, 2) := by decide +kernel
theorem dX8_layTried_183 : decode cX8_layTried 183 = .ok (.iload_n 3, 1) := by decide +kernel
theorem dX8_layTried_184 : decode cX8_layTried 184 = .ok (.imul, 1) := by decide +kernel
theorem dX8_layTried_185 : decode cX8_layTried 185 = .ok (.iload 4, 2) := by decide +kernel
theorem dX8_layTried_187 : decode cX8_layTried 187 = .ok (.iadd, 1) := by decide +kernel
theorem dX8_layTried_188 : decode cX8_layTried 188 = .ok (.iaload, 1) := by decide +kernel
theorem dX8_layTried_189 : decode cX8_layTried 189 = .ok (.if_icmp .ge 8, 3) := by decide +kernel
theorem dX8_layTried_192 : decode cX8_layTried 192 = .ok (.iload 5, 2) := by decide +kernel
theorem dX8_layTried_194 : decode cX8_layTried 194 = .ok (.goto 15, 3) := by decide +kernel
theorem dX8_layTried_197 : decode cX8_layTried 197 = .ok (.aload_n 0, 1) := by decide +kernel
theorem dX8_layTried_198 : decode cX8_layTried 198 = .ok (.getfield 83, 3) := by decide +kernel
theorem dX8_layTried_201 : decode cX8_layTried 201 = .ok (.bipush 12, 2) := by decide +kernel
theorem dX8_layTried_203 : decode cX8_layTried 203 = .ok (.iload_n 3, 1) := by decide +kernel
theorem dX8_layTried_204 : decode cX8_layTried 204 = .ok (.imul, 1) := by decide +kernel
theorem dX8_layTried_205 : decode cX8_layTried 205 = .ok (.iload 4, 2) := by decide +kernel
theorem dX8_layTried_207 : decode cX8_layTried 207 = .ok (.iadd, 1) := by decide +kernel
theorem dX8_layTried_208 : decode cX8_layTried 208 = .ok (.iaload, 1) := by decide +kernel
theorem dX8_layTried_209 : decode cX8_layTried 209 = .ok (.iastore, 1) := by decide +kernel
theorem dX8_layTried_210 : decode cX8_layTried 210 = .ok (.iinc 4 1, 3) := by decide +kernel
theorem dX8_layTried_213 : decode cX8_layTried 213 = .ok (.goto (-84), 3) := by decide +kernel
theorem dX8_layTried_216 : decode cX8_layTried 216 = .ok (.iinc 3 1, 3) := by decide +kernel
theorem dX8_layTried_219 : decode cX8_layTried 219 = .ok (.goto (-101), 3) := by decide +kernel
theorem dX8_layTried_222 : decode cX8_layTried 222 = .ok (.iinc 2 1, 3) := by decide +kernel
theorem dX8_layTried_225 : decode cX8_layTried 225 = .ok (.goto (-117), 3) := by decide +kernel
theorem dX8_layTried_228 : decode cX8_layTried 228 = .ok (.return_, 1) := by decide +kernel
theorem dX8_routeBy_0 : decode cX8_routeBy 0 = .ok (.ldc 136, 2) := by decide +kernel
theorem dX8_routeBy_2 : decode cX8_routeBy 2 = .ok (.istore 4, 2) := by decide +kernel
theorem dX8_routeBy_4 : decode cX8_routeBy 4 = .ok (.iconst 0, 1) := by decide +kernel
theorem dX8_routeBy_5 : decode cX8_routeBy 5 = .ok (.istore 5, 2) := by decide +kernel
theorem dX8_routeBy_7 : decode cX8_routeBy 7 = .ok (.iload 5, 2) := by decide +kernel
theorem dX8_routeBy_9 : decode cX8_routeBy 9 = .ok (.aload_n 0, 1) := by decide +kernel
theorem dX8_routeBy_10 : decode cX8_routeBy 10 = .ok (.getfield 120, 3) := by decide +kernel
theorem dX8_routeBy_13 : decode cX8_routeBy 13 = .ok (.if_icmp .ge 117, 3) := by decide +kernel
theorem dX8_routeBy_16 : decode cX8_routeBy 16 = .ok (.iconst 0, 1) := by decide +kernel
theorem dX8_routeBy_17 : decode cX8_routeBy 17 = .ok (.istore 6, 2) := by decide +kernel
theorem dX8_routeBy_19 : decode cX8_routeBy 19 = .ok (.iload 6, 2) := by decide +kernel
theorem dX8_routeBy_21 : decode cX8_routeBy 21 = .ok (.aload_n 0, 1) := by decide +kernel
theorem dX8_routeBy_22 : decode cX8_routeBy 22 = .ok (.getfield 120, 3) := by decide +kernel
theorem dX8_routeBy_25 : decode cX8_routeBy 25 = .ok (.if_icmp .ge 99, 3) := by decide +kernel
theorem dX8_routeBy_28 : decode cX8_routeBy 28 = .ok (.aload_n 0, 1) := by decide +kernel
theorem dX8_routeBy_29 : decode cX8_routeBy 29 = .ok (.getfield 13, 3) := by decide +kernel
theorem dX8_routeBy_32 : decode cX8_routeBy 32 = .ok (.iload 5, 2) := by decide +kernel
theorem dX8_routeBy_34 : decode cX8_routeBy 34 = .ok (.iaload, 1) := by decide +kernel
theorem dX8_routeBy_35 : decode cX8_routeBy 35 = .ok (.iload_n 1, 1) := by decide +kernel
theorem dX8_routeBy_36 : decode cX8_routeBy 36 = .ok (.if_icmp .ne 30, 3) := by decide +kernel
theorem dX8_routeBy_39 : decode cX8_routeBy 39 = .ok (.aload_n 0, 1) := by decide +kernel
theorem dX8_routeBy_40 : decode cX8_routeBy 40 = .ok (.getfield 16, 3) := by decide +kernel
theorem dX8_routeBy_43 : decode cX8_routeBy 43 = .ok (.iload 6, 2) := by decide +kernel
theorem dX8_routeBy_45 : decode cX8_routeBy 45 = .ok (.iaload, 1) := by decide +kernel
theorem dX8_routeBy_46 : decode cX8_routeBy 46 = .ok (.iload_n 2, 1) := by decide +kernel
theorem dX8_routeBy_47 : decode cX8_routeBy 47 = .ok (.if_icmp .ne 19, 3) := by decide +kernel
theorem dX8_routeBy_50 : decode cX8_routeBy 50 = .ok (.iload 5, 2) := by decide +kernel
theorem dX8_routeBy_52 : decode cX8_routeBy 52 = .ok (.iload_n 3, 1) := by decide +kernel
theorem dX8_routeBy_53 : decode cX8_routeBy 53 = .ok (.if_icmp .eq 13, 3) := by decide +kernel
theorem dX8_routeBy_56 : decode cX8_routeBy 56 = .ok (.iload 6, 2) := by decide +kernel
theorem dX8_routeBy_58 : decode cX8_routeBy 58 = .ok (.iload_n 3, 1) := by decide +kernel
theorem dX8_routeBy_59 : decode cX8_routeBy 59 = .ok (.if_icmp .eq 7, 3) := by decide +kernel
theorem dX8_routeBy_62 : decode cX8_routeBy 62 = .ok (.iconst 1, 1) := by decide +kernel
theorem dX8_routeBy_63 : decode cX8_routeBy 63 = .ok (.goto 4, 3) := by decide +kernel
theorem dX8_routeBy_66 : decode cX8_routeBy 66 = .ok (.iconst 0, 1) := by decide +kernel
theorem dX8_routeBy_67 : decode cX8_routeBy 67 = .ok (.istore 7, 2) := by decide +kernel
theorem dX8_routeBy_69 : decode cX8_routeBy 69 = .ok (.iload 7, 2) := by decide +kernel
theorem dX8_routeBy_71 : decode cX8_routeBy 71 = .ok (.ifCond .eq 27, 3) := by decide +kernel
theorem dX8_routeBy_74 : decode cX8_routeBy 74 = .ok (.aload_n 0, 1) := by decide +kernel
theorem dX8_routeBy_75 : decode cX8_routeBy 75 = .ok (.getfield 19, 3) := by decide +kernel
theorem dX8_routeBy_78 : decode cX8_routeBy 78 = .ok (.iload 5, 2) := by decide +kernel
theorem dX8_routeBy_80 : decode cX8_routeBy 80 = .ok (.iaload, 1) := by decide +kernel
theorem dX8_routeBy_81 : decode cX8_routeBy 81 = .ok (.aload_n 0, 1) := by decide +kernel
theorem dX8_routeBy_82 : decode cX8_routeBy 82 = .ok (.getfield 83, 3) := by decide +kernel
theorem dX8_routeBy_85 : decode cX8_routeBy 85 = .ok (.bipush 12, 2) := by decide +kernel
theorem dX8_routeBy_87 : decode cX8_routeBy 87 = .ok (.iload 5, 2) := by decide +kernel
theorem dX8_routeBy_89 : decode cX8_routeBy 89 = .ok (.imul, 1) := by decide +kernel
theorem dX8_routeBy_90 : decode cX8_routeBy 90 = .ok (.iload 6, 2) := by decide +kernel
theorem dX8_routeBy_92 : decode cX8_routeBy 92 = .ok (.iadd, 1) := by decide +kernel
theorem dX8_routeBy_93 : decode cX8_routeBy 93 = .ok (.iaload, 1) := by decide +kernel
theorem dX8_routeBy_94 : decode cX8_routeBy 94 = .ok (.iadd, 1) := by decide +kernel
theorem dX8_routeBy_95 : decode cX8_routeBy 95 = .ok (.goto 5, 3) := by decide +kernel
theorem dX8_routeBy_98 : decode cX8_routeBy 98 = .ok (.ldc 136, 2) := by decide +kernel
theorem dX8_routeBy_100 : decode cX8_routeBy 100 = .ok (.istore 8, 2) := by decide +kernel
theorem dX8_routeBy_102 : decode cX8_routeBy 102 = .ok (.iload 8, 2) := by decide +kernel
theorem dX8_routeBy_104 : decode cX8_routeBy 104 = .ok (.iload 4, 2) := by decide +kernel
theorem dX8_routeBy_106 : decode cX8_routeBy 106 = .ok (.if_icmp .ge 8, 3) := by decide +kernel
theorem dX8_routeBy_109 : decode cX8_routeBy 109 = .ok (.iload 8, 2) := by decide +kernel
theorem dX8_routeBy_111 : decode cX8_routeBy 111 = .ok (.goto 5, 3) := by decide +kernel
theorem dX8_routeBy_114 : decode cX8_routeBy 114 = .ok (.iload 4, 2) := by decide +kernel
theorem dX8_routeBy_116 : decode cX8_routeBy 116 = .ok (.istore 4, 2) := by decide +kernel
theorem dX8_routeBy_118 : decode cX8_routeBy 118 = .ok (.iinc 6 1, 3) := by decide +kernel
theorem dX8_routeBy_121 : decode cX8_routeBy 121 = .ok (.goto (-102), 3) := by decide +kernel
theorem dX8_routeBy_124 : decode cX8_routeBy 124 = .ok (.iinc 5 1, 3) := by decide +kernel
theorem dX8_routeBy_127 : decode cX8_routeBy 127 = .ok (.goto (-120), 3) := by decide +kernel
theorem dX8_routeBy_130 : decode cX8_routeBy 130 = .ok (.iload 4, 2) := by decide +kernel
theorem dX8_routeBy_132 : decode cX8_routeBy 132 = .ok (.ireturn, 1) := by decide +kernel
theorem dX8_routeNow_0 : decode cX8_routeNow 0 = .ok (.aload_n 0, 1) := by decide +kernel
theorem dX8_routeNow_1 : decode cX8_routeNow 1 = .ok (.iconst (-1), 1) := by decide +kernel
theorem dX8_routeNow_2 : decode cX8_routeNow 2 = .ok (.invokevirtual 219, 3) := by decide +kernel
theorem dX8_routeNow_5 : decode cX8_routeNow 5 = .ok (.aload_n 0, 1) := by decide +kernel
theorem dX8_routeNow_6 : decode cX8_routeNow 6 = .ok (.iload_n 1, 1) := by decide +kernel
theorem dX8_routeNow_7 : decode cX8_routeNow 7 = .ok (.iload_n 2, 1) := by decide +kernel
theorem dX8_routeNow_8 : decode cX8_routeNow 8 = .ok (.iconst (-1), 1) := by decide +kernel
theorem dX8_routeNow_9 : decode cX8_routeNow 9 = .ok (.invokevirtual 222, 3) := by decide +kernel
theorem dX8_routeNow_12 : decode cX8_routeNow 12 = .ok (.istore_n 3, 1) := by decide +kernel
theorem dX8_routeNow_13 : decode cX8_routeNow 13 = .ok (.iload_n 3, 1) := by decide +kernel
theorem dX8_routeNow_14 : decode cX8_routeNow 14 = .ok (.ldc 136, 2) := by decide +kernel
theorem dX8_routeNow_16 : decode cX8_routeNow 16 = .ok (.if_icmp .lt 7, 3) := by decide +kernel
theorem dX8_routeNow_19 : decode cX8_routeNow 19 = .ok (.iconst (-1), 1) := by decide +kernel
theorem dX8_routeNow_20 : decode cX8_routeNow 20 = .ok (.goto 4, 3) := by decide +kernel
theorem dX8_routeNow_23 : decode cX8_routeNow 23 = .ok (.iload_n 3, 1) := by decide +kernel
theorem dX8_routeNow_24 : decode cX8_routeNow 24 = .ok (.ireturn, 1) := by decide +kernel
theorem dX8_route_0 : decode cX8_route 0 = .ok (.iload_n 1, 1) := by decide +kernel
theorem dX8_route_1 : decode cX8_route 1 = .ok (.iconst 0, 1) := by decide +kernel
theorem dX8_route_2 : decode cX8_route 2 = .ok (.bipush 7, 2) := by decide +kernel
theorem dX8_route_4 : decode cX8_route 4 = .ok (.invokestatic 89, 3) := by decide +kernel
theorem dX8_route_7 : decode cX8_route 7 = .ok (.ifCond .eq 13, 3) := by decide +kernel
theorem dX8_route_10 : decode cX8_route 10 = .ok (.iload_n 2, 1) := by decide +kernel
theorem dX8_route_11 : decode cX8_route 11 = .ok (.iconst 0, 1) := by decide +kernel
theorem dX8_route_12 : decode cX8_route 12 = .ok (.bipush 7, 2) := by decide +kernel
theorem dX8_route_14 : decode cX8_route 14 = .ok (.invokestatic 89, 3) := by decide +kernel
theorem dX8_route_17 : decode cX8_route 17 = .ok (.ifCond .ne 6, 3) := by decide +kernel
theorem dX8_route_20 : decode cX8_route 20 = .ok (.bipush (-101), 2) := by decide +kernel
theorem dX8_route_22 : decode cX8_route 22 = .ok (.ireturn, 1) := by decide +kernel
theorem dX8_route_23 : decode cX8_route 23 = .ok (.iload_n 1, 1) := by decide +kernel
theorem dX8_route_24 : decode cX8_route 24 = .ok (.iload_n 2, 1) := by decide +kernel
theorem dX8_route_25 : decode cX8_route 25 = .ok (.if_icmp .ne 8, 3) := by decide +kernel
theorem dX8_route_28 : decode cX8_route 28 = .ok (.bipush (-103), 2) := by decide +kernel
theorem dX8_route_30 : decode cX8_route 30 = .ok (.goto 9, 3) := by decide +kernel
theorem dX8_route_33 : decode cX8_route 33 = .ok (.aload_n 0, 1) := by decide +kernel
theorem dX8_route_34 : decode cX8_route 34 = .ok (.iload_n 1, 1) := by decide +kernel
theorem dX8_route_35 : decode cX8_route 35 = .ok (.iload_n 2, 1) := by decide +kernel
theorem dX8_route_36 : decode cX8_route 36 = .ok (.invokevirtual 225, 3) := by decide +kernel
theorem dX8_route_39 : decode cX8_route 39 = .ok (.ireturn, 1) := by decide +kernel
theorem dX8_layRoutes_0 : decode cX8_layRoutes 0 = .ok (.aload_n 0, 1) := by decide +kernel
theorem dX8_layRoutes_1 : decode cX8_layRoutes 1 = .ok (.iconst (-1), 1) := by decide +kernel
theorem dX8_layRoutes_2 : decode cX8_layRoutes 2 = .ok (.invokevirtual 219, 3) := by decide +kernel
theorem dX8_layRoutes_5 : decode cX8_layRoutes 5 = .ok (.aload_n 0, 1) := by decide +kernel
theorem dX8_layRoutes_6 : decode cX8_layRoutes 6 = .ok (.iconst 0, 1) := by decide +kernel
theorem dX8_layRoutes_7 : decode cX8_layRoutes 7 = .ok (.putfield 228, 3) := by decide +kernel
theorem dX8_layRoutes_10 : decode cX8_layRoutes 10 = .ok (.aload_n 0, 1) := by decide +kernel
theorem dX8_layRoutes_11 : decode cX8_layRoutes 11 = .ok (.iconst 0, 1) := by decide +kernel
theorem dX8_layRoutes_12 : decode cX8_layRoutes 12 = .ok (.putfield 231, 3) := by decide +kernel
theorem dX8_layRoutes_15 : decode cX8_layRoutes 15 = .ok (.iconst 0, 1) := by decide +kernel
theorem dX8_layRoutes_16 : decode cX8_layRoutes 16 = .ok (.istore_n 1, 1) := by decide +kernel
theorem dX8_layRoutes_17 : decode cX8_layRoutes 17 = .ok (.iload_n 1, 1) := by decide +kernel
theorem dX8_layRoutes_18 : decode cX8_layRoutes 18 = .ok (.bipush 64, 2) := by decide +kernel
theorem dX8_layRoutes_20 : decode cX8_layRoutes 20 = .ok (.if_icmp .ge 99, 3) := by decide +kernel
theorem dX8_layRoutes_23 : decode cX8_layRoutes 23 = .ok (.aload_n 0, 1) := by decide +kernel
theorem dX8_layRoutes_24 : decode cX8_layRoutes 24 = .ok (.getfield 86, 3) := by decide +kernel
theorem dX8_layRoutes_27 : decode cX8_layRoutes 27 = .ok (.iload_n 1, 1) := by decide +kernel
theorem dX8_layRoutes_28 : decode cX8_layRoutes 28 = .ok (.iload_n 1, 1) := by decide +kernel
theorem dX8_layRoutes_29 : decode cX8_layRoutes 29 = .ok (.bipush 8, 2) := by decide +kernel
theorem dX8_layRoutes_31 : decode cX8_layRoutes 31 = .ok (.idiv, 1) := by decide +kernel
theorem dX8_layRoutes_32 : decode cX8_layRoutes 32 = .ok (.iload_n 1, 1) := by decide +kernel
theorem dX8_layRoutes_33 : decode cX8_layRoutes 33 = .ok (.bipush 8, 2) := by decide +kernel
theorem dX8_layRoutes_35 : decode cX8_layRoutes 35 = .ok (.irem, 1) := by decide +kernel
theorem dX8_layRoutes_36 : decode cX8_layRoutes 36 = .ok (.if_icmp .ne 8, 3) := by decide +kernel
theorem dX8_layRoutes_39 : decode cX8_layRoutes 39 = .ok (.ldc 136, 2) := by decide +kernel
theorem dX8_layRoutes_41 : decode cX8_layRoutes 41 = .ok (.goto 16, 3) := by decide +kernel
theorem dX8_layRoutes_44 : decode cX8_layRoutes 44 = .ok (.aload_n 0, 1) := by decide +kernel
theorem dX8_layRoutes_45 : decode cX8_layRoutes 45 = .ok (.iload_n 1, 1) := by decide +kernel
theorem dX8_layRoutes_46 : decode cX8_layRoutes 46 = .ok (.bipush 8, 2) := by decide +kernel
theorem dX8_layRoutes_48 : decode cX8_layRoutes 48 = .ok (.idiv, 1) := by decide +kernel
theorem dX8_layRoutes_49 : decode cX8_layRoutes 49 = .ok (.iload_n 1, 1) := by decide +kernel
theorem dX8_layRoutes_50 : decode cX8_layRoutes 50 = .ok (.bipush 8, 2) := by decide +kernel
theorem dX8_layRoutes_52 : decode cX8_layRoutes 52 = .ok (.irem, 1) := by decide +kernel
theorem dX8_layRoutes_53 : decode cX8_layRoutes 53 = .ok (.iconst (-1), 1) := by decide +kernel
theorem dX8_layRoutes_54 : decode cX8_layRoutes 54 = .ok (.invokevirtual 222, 3) := by decide +kernel
theorem dX8_layRoutes_57 : decode cX8_layRoutes 57 = .ok (.iastore, 1) := by decide +kernel
theorem dX8_layRoutes_58 : decode cX8_layRoutes 58 = .ok (.aload_n 0, 1) := by decide +kernel
theorem dX8_layRoutes_59 : decode cX8_layRoutes 59 = .ok (.dup, 1) := by decide +kernel
theorem dX8_layRoutes_60 : decode cX8_layRoutes 60 = .ok (.getfield 228, 3) := by decide +kernel
theorem dX8_layRoutes_63 : decode cX8_layRoutes 63 = .ok (.aload_n 0, 1) := by decide +kernel
theorem dX8_layRoutes_64 : decode cX8_layRoutes 64 = .ok (.getfield 86, 3) := by decide +kernel
theorem dX8_layRoutes_67 : decode cX8_layRoutes 67 = .ok (.iload_n 1, 1) := by decide +kernel
theorem dX8_layRoutes_68 : decode cX8_layRoutes 68 = .ok (.iaload, 1) := by decide +kernel
theorem dX8_layRoutes_69 : decode cX8_layRoutes 69 = .ok (.ldc 136, 2) := by decide +kernel
theorem dX8_layRoutes_71 : decode cX8_layRoutes 71 = .ok (.if_icmp .ge 7, 3) := by decide +kernel
theorem dX8_layRoutes_74 : decode cX8_layRoutes 74 = .ok (.iconst 1, 1) := by decide +kernel
theorem dX8_layRoutes_75 : decode cX8_layRoutes 75 = .ok (.goto 4, 3) := by decide +kernel
theorem dX8_layRoutes_78 : decode cX8_layRoutes 78 = .ok (.iconst 0, 1) := by decide +kernel
theorem dX8_layRoutes_79 : decode cX8_layRoutes 79 = .ok (.iadd, 1) := by decide +kernel
theorem dX8_layRoutes_80 : decode cX8_layRoutes 80 = .ok (.putfield 228, 3) := by decide +kernel
theorem dX8_layRoutes_83 : decode cX8_layRoutes 83 = .ok (.aload_n 0, 1) := by decide +kernel
theorem dX8_layRoutes_84 : decode cX8_layRoutes 84 = .ok (.dup, 1) := by decide +kernel
theorem dX8_layRoutes_85 : decode cX8_layRoutes 85 = .ok (.getfield 231, 3) := by decide +kernel
theorem dX8_layRoutes_88 : decode cX8_layRoutes 88 = .ok (.aload_n 0, 1) := by decide +kernel
theorem dX8_layRoutes_89 : decode cX8_layRoutes 89 = .ok (.getfield 86, 3) := by decide +kernel
theorem dX8_layRoutes_92 : decode cX8_layRoutes 92 = .ok (.iload_n 1, 1) := by decide +kernel
theorem dX8_layRoutes_93 : decode cX8_layRoutes 93 = .ok (.iaload, 1) := by decide +kernel
theorem dX8_layRoutes_94 : decode cX8_layRoutes 94 = .ok (.ldc 136, 2) := by decide +kernel
theorem dX8_layRoutes_96 : decode cX8_layRoutes 96 = .ok (.if_icmp .ge 12, 3) := by decide +kernel
theorem dX8_layRoutes_99 : decode cX8_layRoutes 99 = .ok (.aload_n 0, 1) := by decide +kernel
theorem dX8_layRoutes_100 : decode cX8_layRoutes 100 = .ok (.getfield 86, 3) := by decide +kernel
theorem dX8_layRoutes_103 : decode cX8_layRoutes 103 = .ok (.iload_n 1, 1) := by decide +kernel
theorem dX8_layRoutes_104 : decode cX8_layRoutes 104 = .ok (.iaload, 1) := by decide +kernel
theorem dX8_layRoutes_105 : decode cX8_layRoutes 105 = .ok (.goto 4, 3) := by decide +kernel
theorem dX8_layRoutes_108 : decode cX8_layRoutes 108 = .ok (.iconst 0, 1) := by decide +kernel
theorem dX8_layRoutes_109 : decode cX8_layRoutes 109 = .ok (.iadd, 1) := by decide +kernel
theorem dX8_layRoutes_110 : decode cX8_layRoutes 110 = .ok (.putfield 231, 3) := by decide +kernel
theorem dX8_layRoutes_113 : decode cX8_layRoutes 113 = .ok (.iinc 1 1, 3) := by decide +kernel
theorem dX8_layRoutes_116 : decode cX8_layRoutes 116 = .ok (.goto (-99), 3) := by decide +kernel
theorem dX8_layRoutes_119 : decode cX8_layRoutes 119 = .ok (.return_, 1) := by decide +kernel
theorem dX8_lossNow_0 : decode cX8_lossNow 0 = .ok (.aload_n 0, 1) := by decide +kernel
theorem dX8_lossNow_1 : decode cX8_lossNow 1 = .ok (.invokevirtual 234, 3) := by decide +kernel
theorem dX8_lossNow_4 : decode cX8_lossNow 4 = .ok (.aload_n 0, 1) := by decide +kernel
theorem dX8_lossNow_5 : decode cX8_lossNow 5 = .ok (.iload_n 1, 1) := by decide +kernel
theorem dX8_lossNow_6 : decode cX8_lossNow 6 = .ok (.invokevirtual 219, 3) := by decide +kernel
theorem dX8_lossNow_9 : decode cX8_lossNow 9 = .ok (.iconst 0, 1) := by decide +kernel
theorem dX8_lossNow_10 : decode cX8_lossNow 10 = .ok (.istore_n 3, 1) := by decide +kernel
theorem dX8_lossNow_11 : decode cX8_lossNow 11 = .ok (.iconst 0, 1) := by decide +kernel
theorem dX8_lossNow_12 : decode cX8_lossNow 12 = .ok (.istore 4, 2) := by decide +kernel
theorem dX8_lossNow_14 : decode cX8_lossNow 14 = .ok (.iload 4, 2) := by decide +kernel
theorem dX8_lossNow_16 : decode cX8_lossNow 16 = .ok (.bipush 64, 2) := by decide +kernel
theorem dX8_lossNow_18 : decode cX8_lossNow 18 = .ok (.if_icmp .ge 62, 3) := by decide +kernel
theorem dX8_lossNow_21 : decode cX8_lossNow 21 = .ok (.aload_n 0, 1) := by decide +kernel
theorem dX8_lossNow_22 : decode cX8_lossNow 22 = .ok (.getfield 86, 3) := by decide +kernel
theorem dX8_lossNow_25 : decode cX8_lossNow 25 = .ok (.iload 4, 2) := by decide +kernel
theorem dX8_lossNow_27 : decode cX8_lossNow 27 = .ok (.iaload, 1) := by decide +kernel
theorem dX8_lossNow_28 : decode cX8_lossNow 28 = .ok (.ldc 136, 2) := by decide +kernel
theorem dX8_lossNow_30 : decode cX8_lossNow 30 = .ok (.if_icmp .ge 44, 3) := by decide +kernel
theorem dX8_lossNow_33 : decode cX8_lossNow 33 = .ok (.aload_n 0, 1) := by decide +kernel
theorem dX8_lossNow_34 : decode cX8_lossNow 34 = .ok (.iload 4, 2) := by decide +kernel
theorem dX8_lossNow_36 : decode cX8_lossNow 36 = .ok (.bipush 8, 2) := by decide +kernel
theorem dX8_lossNow_38 : decode cX8_lossNow 38 = .ok (.idiv, 1) := by decide +kernel
theorem dX8_lossNow_39 : decode cX8_lossNow 39 = .ok (.iload 4, 2) := by decide +kernel
theorem dX8_lossNow_41 : decode cX8_lossNow 41 = .ok (.bipush 8, 2) := by decide +kernel
theorem dX8_lossNow_43 : decode cX8_lossNow 43 = .ok (.irem, 1) := by decide +kernel
theorem dX8_lossNow_44 : decode cX8_lossNow 44 = .ok (.iload_n 1, 1) := by decide +kernel
theorem dX8_lossNow_45 : decode cX8_lossNow 45 = .ok (.invokevirtual 222, 3) := by decide +kernel
theorem dX8_lossNow_48 : decode cX8_lossNow 48 = .ok (.istore 5, 2) := by decide +kernel
theorem dX8_lossNow_50 : decode cX8_lossNow 50 = .ok (.iload_n 3, 1) := by decide +kernel
theorem dX8_lossNow_51 : decode cX8_lossNow 51 = .ok (.iload 5, 2) := by decide +kernel
theorem dX8_lossNow_53 : decode cX8_lossNow 53 = .ok (.ldc 136, 2) := by decide +kernel
theorem dX8_lossNow_55 : decode cX8_lossNow 55 = .ok (.if_icmp .lt 7, 3) := by decide +kernel
theorem dX8_lossNow_58 : decode cX8_lossNow 58 = .ok (.iload_n 2, 1) := by decide +kernel
theorem dX8_lossNow_59 : decode cX8_lossNow 59 = .ok (.goto 13, 3) := by decide +kernel
theorem dX8_lossNow_62 : decode cX8_lossNow 62 = .ok (.iload 5, 2) := by decide +kernel
theorem dX8_lossNow_64 : decode cX8_lossNow 64 = .ok (.aload_n 0, 1) := by decide +kernel
theorem dX8_lossNow_65 : decode cX8_lossNow 65 = .ok (.getfield 86, 3) := by decide +kernel
theorem dX8_lossNow_68 : decode cX8_lossNow 68 = .ok (.iload 4, 2) := by decide +kernel
theorem dX8_lossNow_70 : decode cX8_lossNow 70 = .ok (.iaload, 1) := by decide +kernel
theorem dX8_lossNow_71 : decode cX8_lossNow 71 = .ok (.isub, 1) := by decide +kernel
theorem dX8_lossNow_72 : decode cX8_lossNow 72 = .ok (.iadd, 1) := by decide +kernel
theorem dX8_lossNow_73 : decode cX8_lossNow 73 = .ok (.istore_n 3, 1) := by decide +kernel
theorem dX8_lossNow_74 : decode cX8_lossNow 74 = .ok (.iinc 4 1, 3) := by decide +kernel
theorem dX8_lossNow_77 : decode cX8_lossNow 77 = .ok (.goto (-63), 3) := by decide +kernel
theorem dX8_lossNow_80 : decode cX8_lossNow 80 = .ok (.iload_n 3, 1) := by decide +kernel
theorem dX8_lossNow_81 : decode cX8_lossNow 81 = .ok (.ireturn, 1) := by decide +kernel
theorem dX8_loss_0 : decode cX8_loss 0 = .ok (.aload_n 0, 1) := by decide +kernel
theorem dX8_loss_1 : decode cX8_loss 1 = .ok (.iload_n 1, 1) := by decide +kernel
theorem dX8_loss_2 : decode cX8_loss 2 = .ok (.invokevirtual 168, 3) := by decide +kernel
theorem dX8_loss_5 : decode cX8_loss 5 = .ok (.ifCond .ne 6, 3) := by decide +kernel
theorem dX8_loss_8 : decode cX8_loss 8 = .ok (.bipush (-101), 2) := by decide +kernel
theorem dX8_loss_10 : decode cX8_loss 10 = .ok (.ireturn, 1) := by decide +kernel
theorem dX8_loss_11 : decode cX8_loss 11 = .ok (.iload_n 2, 1) := by decide +kernel
theorem dX8_loss_12 : decode cX8_loss 12 = .ok (.iconst 0, 1) := by decide +kernel
theorem dX8_loss_13 : decode cX8_loss 13 = .ok (.sipush 999, 3) := by decide +kernel
theorem dX8_loss_16 : decode cX8_loss 16 = .ok (.invokestatic 89, 3) := by decide +kernel
theorem dX8_loss_19 : decode cX8_loss 19 = .ok (.ifCond .eq 12, 3) := by decide +kernel
theorem dX8_loss_22 : decode cX8_loss 22 = .ok (.aload_n 0, 1) := by decide +kernel
theorem dX8_loss_23 : decode cX8_loss 23 = .ok (.iload_n 1, 1) := by decide +kernel
theorem dX8_loss_24 : decode cX8_loss 24 = .ok (.iload_n 2, 1) := by decide +kernel
theorem dX8_loss_25 : decode cX8_loss 25 = .ok (.invokevirtual 237, 3) := by decide +kernel
theorem dX8_loss_28 : decode cX8_loss 28 = .ok (.goto 5, 3) := by decide +kernel
theorem dX8_loss_31 : decode cX8_loss 31 = .ok (.bipush (-102), 2) := by decide +kernel
theorem dX8_loss_33 : decode cX8_loss 33 = .ok (.ireturn, 1) := by decide +kernel
theorem dX8_busiest_0 : decode cX8_busiest 0 = .ok (.iconst (-1), 1) := by decide +kernel
theorem dX8_busiest_1 : decode cX8_busiest 1 = .ok (.istore_n 1, 1) := by decide +kernel
theorem dX8_busiest_2 : decode cX8_busiest 2 = .ok (.iconst 0, 1) := by decide +kernel
theorem dX8_busiest_3 : decode cX8_busiest 3 = .ok (.istore_n 2, 1) := by decide +kernel
theorem dX8_busiest_4 : decode cX8_busiest 4 = .ok (.iload_n 2, 1) := by decide +kernel
theorem dX8_busiest_5 : decode cX8_busiest 5 = .ok (.aload_n 0, 1) := by decide +kernel
theorem dX8_busiest_6 : decode cX8_busiest 6 = .ok (.getfield 120, 3) := by decide +kernel
theorem dX8_busiest_9 : decode cX8_busiest 9 = .ok (.if_icmp .ge 35, 3) := by decide +kernel
theorem dX8_busiest_12 : decode cX8_busiest 12 = .ok (.iload_n 1, 1) := by decide +kernel
theorem dX8_busiest_13 : decode cX8_busiest 13 = .ok (.iconst (-1), 1) := by decide +kernel
theorem dX8_busiest_14 : decode cX8_busiest 14 = .ok (.if_icmp .eq 18, 3) := by decide +kernel
theorem dX8_busiest_17 : decode cX8_busiest 17 = .ok (.aload_n 0, 1) := by decide +kernel
theorem dX8_busiest_18 : decode cX8_busiest 18 = .ok (.getfield 40, 3) := by decide +kernel
theorem dX8_busiest_21 : decode cX8_busiest 21 = .ok (.iload_n 2, 1) := by decide +kernel
theorem dX8_busiest_22 : decode cX8_busiest 22 = .ok (.iaload, 1) := by decide +kernel
theorem dX8_busiest_23 : decode cX8_busiest 23 = .ok (.aload_n 0, 1) := by decide +kernel
theorem dX8_busiest_24 : decode cX8_busiest 24 = .ok (.getfield 40, 3) := by decide +kernel
theorem dX8_busiest_27 : decode cX8_busiest 27 = .ok (.iload_n 1, 1) := by decide +kernel
theorem dX8_busiest_28 : decode cX8_busiest 28 = .ok (.iaload, 1) := by decide +kernel
theorem dX8_busiest_29 : decode cX8_busiest 29 = .ok (.if_icmp .le 7, 3) := by decide +kernel
theorem dX8_busiest_32 : decode cX8_busiest 32 = .ok (.iload_n 2, 1) := by decide +kernel
theorem dX8_busiest_33 : decode cX8_busiest 33 = .ok (.goto 4, 3) := by decide +kernel
theorem dX8_busiest_36 : decode cX8_busiest 36 = .ok (.iload_n 1, 1) := by decide +kernel
theorem dX8_busiest_37 : decode cX8_busiest 37 = .ok (.istore_n 1, 1) := by decide +kernel
theorem dX8_busiest_38 : decode cX8_busiest 38 = .ok (.iinc 2 1, 3) := by decide +kernel
theorem dX8_busiest_41 : decode cX8_busiest 41 = .ok (.goto (-37), 3) := by decide +kernel
theorem dX8_busiest_44 : decode cX8_busiest 44 = .ok (.iload_n 1, 1) := by decide +kernel
theorem dX8_busiest_45 : decode cX8_busiest 45 = .ok (.ireturn, 1) := by decide +kernel
theorem dX8_arcsAll_0 : decode cX8_arcsAll 0 = .ok (.iconst 0, 1) := by decide +kernel
theorem dX8_arcsAll_1 : decode cX8_arcsAll 1 = .ok (.istore_n 2, 1) := by decide +kernel
theorem dX8_arcsAll_2 : decode cX8_arcsAll 2 = .ok (.iconst 0, 1) := by decide +kernel
theorem dX8_arcsAll_3 : decode cX8_arcsAll 3 = .ok (.istore_n 3, 1) := by decide +kernel
theorem dX8_arcsAll_4 : decode cX8_arcsAll 4 = .ok (.iload_n 3, 1) := by decide +kernel
theorem dX8_arcsAll_5 : decode cX8_arcsAll 5 = .ok (.aload_n 0, 1) := by decide +kernel
theorem dX8_arcsAll_6 : decode cX8_arcsAll 6 = .ok (.getfield 120, 3) := by decide +kernel
theorem dX8_arcsAll_9 : decode cX8_arcsAll 9 = .ok (.aload_n 0, 1) := by decide +kernel
theorem dX8_arcsAll_10 : decode cX8_arcsAll 10 = .ok (.getfield 120, 3) := by decide +kernel
theorem dX8_arcsAll_13 : decode cX8_arcsAll 13 = .ok (.imul, 1) := by decide +kernel
theorem dX8_arcsAll_14 : decode cX8_arcsAll 14 = .ok (.if_icmp .ge 62, 3) := by decide +kernel
theorem dX8_arcsAll_17 : decode cX8_arcsAll 17 = .ok (.bipush 12, 2) := by decide +kernel
theorem dX8_arcsAll_19 : decode cX8_arcsAll 19 = .ok (.iload_n 3, 1) := by decide +kernel
theorem dX8_arcsAll_20 : decode cX8_arcsAll 20 = .ok (.aload_n 0, 1) := by decide +kernel
theorem dX8_arcsAll_21 : decode cX8_arcsAll 21 = .ok (.getfield 120, 3) := by decide +kernel
theorem dX8_arcsAll_24 : decode cX8_arcsAll 24 = .ok (.idiv, 1) := by decide +kernel
theorem dX8_arcsAll_25 : decode cX8_arcsAll 25 = .ok (.imul, 1) := by decide +kernel
theorem dX8_arcsAll_26 : decode cX8_arcsAll 26 = .ok (.iload_n 3, 1) := by decide +kernel
theorem dX8_arcsAll_27 : decode cX8_arcsAll 27 = .ok (.aload_n 0, 1) := by decide +kernel
theorem dX8_arcsAll_28 : decode cX8_arcsAll 28 = .ok (.getfield 120, 3) := by decide +kernel
theorem dX8_arcsAll_31 : decode cX8_arcsAll 31 = .ok (.irem, 1) := by decide +kernel
theorem dX8_arcsAll_32 : decode cX8_arcsAll 32 = .ok (.iadd, 1) := by decide +kernel
theorem dX8_arcsAll_33 : decode cX8_arcsAll 33 = .ok (.istore 4, 2) := by decide +kernel
theorem dX8_arcsAll_35 : decode cX8_arcsAll 35 = .ok (.iload_n 2, 1) := by decide +kernel
theorem dX8_arcsAll_36 : decode cX8_arcsAll 36 = .ok (.aload_n 0, 1) := by decide +kernel
theorem dX8_arcsAll_37 : decode cX8_arcsAll 37 = .ok (.getfield 31, 3) := by decide +kernel
theorem dX8_arcsAll_40 : decode cX8_arcsAll 40 = .ok (.iload 4, 2) := by decide +kernel
theorem dX8_arcsAll_42 : decode cX8_arcsAll 42 = .ok (.iaload, 1) := by decide +kernel
theorem dX8_arcsAll_43 : decode cX8_arcsAll 43 = .ok (.ldc 136, 2) := by decide +kernel
theorem dX8_arcsAll_45 : decode cX8_arcsAll 45 = .ok (.if_icmp .ge 22, 3) := by decide +kernel
theorem dX8_arcsAll_48 : decode cX8_arcsAll 48 = .ok (.iload_n 1, 1) := by decide +kernel
theorem dX8_arcsAll_49 : decode cX8_arcsAll 49 = .ok (.ifCond .eq 14, 3) := by decide +kernel
theorem dX8_arcsAll_52 : decode cX8_arcsAll 52 = .ok (.aload_n 0, 1) := by decide +kernel
theorem dX8_arcsAll_53 : decode cX8_arcsAll 53 = .ok (.getfield 34, 3) := by decide +kernel
theorem dX8_arcsAll_56 : decode cX8_arcsAll 56 = .ok (.iload 4, 2) := by decide +kernel
theorem dX8_arcsAll_58 : decode cX8_arcsAll 58 = .ok (.iaload, 1) := by decide +kernel
theorem dX8_arcsAll_59 : decode cX8_arcsAll 59 = .ok (.iconst (-1), 1) := by decide +kernel
theorem dX8_arcsAll_60 : decode cX8_arcsAll 60 = .ok (.if_icmp .eq 7, 3) := by decide +kernel
theorem dX8_arcsAll_63 : decode cX8_arcsAll 63 = .ok (.iconst 1, 1) := by decide +kernel
theorem dX8_arcsAll_64 : decode cX8_arcsAll 64 = .ok (.goto 4, 3) := by decide +kernel
theorem dX8_arcsAll_67 : decode cX8_arcsAll 67 = .ok (.iconst 0, 1) := by decide +kernel
theorem dX8_arcsAll_68 : decode cX8_arcsAll 68 = .ok (.iadd, 1) := by decide +kernel
theorem dX8_arcsAll_69 : decode cX8_arcsAll 69 = .ok (.istore_n 2, 1) := by decide +kernel
theorem dX8_arcsAll_70 : decode cX8_arcsAll 70 = .ok (.iinc 3 1, 3) := by decide +kernel
theorem dX8_arcsAll_73 : decode cX8_arcsAll 73 = .ok (.goto (-69), 3) := by decide +kernel
theorem dX8_arcsAll_76 : decode cX8_arcsAll 76 = .ok (.iload_n 2, 1) := by decide +kernel
theorem dX8_arcsAll_77 : decode cX8_arcsAll 77 = .ok (.ireturn, 1) := by decide +kernel
theorem dX8_allNow_0 : decode cX8_allNow 0 = .ok (.aload_n 0, 1) := by decide +kernel
theorem dX8_allNow_1 : decode cX8_allNow 1 = .ok (.invokevirtual 234, 3) := by decide +kernel
theorem dX8_allNow_4 : decode cX8_allNow 4 = .ok (.iload_n 1, 1) := by decide +kernel
theorem dX8_allNow_5 : decode cX8_allNow 5 = .ok (.tableswitch 78 0 4 #[35, 40, 61, 67, 73], 35) := by decide +kernel
theorem dX8_allNow_40 : decode cX8_allNow 40 = .ok (.aload_n 0, 1) := by decide +kernel
theorem dX8_allNow_41 : decode cX8_allNow 41 = .ok (.invokevirtual 240, 3) := by decide +kernel
theorem dX8_allNow_44 : decode cX8_allNow 44 = .ok (.ireturn, 1) := by decide +kernel
theorem dX8_allNow_45 : decode cX8_allNow 45 = .ok (.aload_n 0, 1) := by decide +kernel
theorem dX8_allNow_46 : decode cX8_allNow 46 = .ok (.getfield 120, 3) := by decide +kernel
theorem dX8_allNow_49 : decode cX8_allNow 49 = .ok (.ifCond .ne 7, 3) := by decide +kernel
theorem dX8_allNow_52 : decode cX8_allNow 52 = .ok (.iconst 0, 1) := by decide +kernel
theorem dX8_allNow_53 : decode cX8_allNow 53 = .ok (.goto 12, 3) := by decide +kernel
theorem dX8_allNow_56 : decode cX8_allNow 56 = .ok (.aload_n 0, 1) := by decide +kernel
theorem dX8_allNow_57 : decode cX8_allNow 57 = .ok (.getfield 40, 3) := by decide +kernel
theorem dX8_allNow_60 : decode cX8_allNow 60 = .ok (.aload_n 0, 1) := by decide +kernel
theorem dX8_allNow_61 : decode cX8_allNow 61 = .ok (.invokevirtual 240, 3) := by decide +kernel
theorem dX8_allNow_64 : decode cX8_allNow 64 = .ok (.iaload, 1) := by decide +kernel
theorem dX8_allNow_65 : decode cX8_allNow 65 = .ok (.ireturn, 1) := by decide +kernel
theorem dX8_allNow_66 : decode cX8_allNow 66 = .ok (.aload_n 0, 1) := by decide +kernel
theorem dX8_allNow_67 : decode cX8_allNow 67 = .ok (.iconst 0, 1) := by decide +kernel
theorem dX8_allNow_68 : decode cX8_allNow 68 = .ok (.invokevirtual 243, 3) := by decide +kernel
theorem dX8_allNow_71 : decode cX8_allNow 71 = .ok (.ireturn, 1) := by decide +kernel
theorem dX8_allNow_72 : decode cX8_allNow 72 = .ok (.aload_n 0, 1) := by decide +kernel
theorem dX8_allNow_73 : decode cX8_allNow 73 = .ok (.iconst 1, 1) := by decide +kernel
theorem dX8_allNow_74 : decode cX8_allNow 74 = .ok (.invokevirtual 243, 3) := by decide +kernel
theorem dX8_allNow_77 : decode cX8_allNow 77 = .ok (.ireturn, 1) := by decide +kernel
theorem dX8_allNow_78 : decode cX8_allNow 78 = .ok (.aload_n 0, 1) := by decide +kernel
theorem dX8_allNow_79 : decode cX8_allNow 79 = .ok (.getfield 228, 3) := by decide +kernel
theorem dX8_allNow_82 : decode cX8_allNow 82 = .ok (.ireturn, 1) := by decide +kernel
theorem dX8_allNow_83 : decode cX8_allNow 83 = .ok (.aload_n 0, 1) := by decide +kernel
theorem dX8_allNow_84 : decode cX8_allNow 84 = .ok (.getfield 231, 3) := by decide +kernel
theorem dX8_allNow_87 : decode cX8_allNow 87 = .ok (.ireturn, 1) := by decide +kernel
theorem dX8_all_0 : decode cX8_all 0 = .ok (.iload_n 1, 1) := by decide +kernel
theorem dX8_all_1 : decode cX8_all 1 = .ok (.iconst 0, 1) := by decide +kernel
theorem dX8_all_2 : decode cX8_all 2 = .ok (.iconst 5, 1) := by decide +kernel
theorem dX8_all_3 : decode cX8_all 3 = .ok (.invokestatic 89, 3) := by decide +kernel
theorem dX8_all_6 : decode cX8_all 6 = .ok (.ifCond .eq 11, 3) := by decide +kernel
theorem dX8_all_9 : decode cX8_all 9 = .ok (.aload_n 0, 1) := by decide +kernel
theorem dX8_all_10 : decode cX8_all 10 = .ok (.iload_n 1, 1) := by decide +kernel
theorem dX8_all_11 : decode cX8_all 11 = .ok (.invokevirtual 247, 3) := by decide +kernel
theorem dX8_all_14 : decode cX8_all 14 = .ok (.goto 5, 3) := by decide +kernel
theorem dX8_all_17 : decode cX8_all 17 = .ok (.bipush (-102), 2) := by decide +kernel
theorem dX8_all_19 : decode cX8_all 19 = .ok (.ireturn, 1) := by decide +kernel
theorem dX8_turnsAll_0 : decode cX8_turnsAll 0 = .ok (.iconst 0, 1) := by decide +kernel
theorem dX8_turnsAll_1 : decode cX8_turnsAll 1 = .ok (.istore_n 2, 1) := by decide +kernel
theorem dX8_turnsAll_2 : decode cX8_turnsAll 2 = .ok (.iconst 0, 1) := by decide +kernel
theorem dX8_turnsAll_3 : decode cX8_turnsAll 3 = .ok (.istore_n 3, 1) := by decide +kernel
theorem dX8_turnsAll_4 : decode cX8_turnsAll 4 = .ok (.iload_n 3, 1) := by decide +kernel
theorem dX8_turnsAll_5 : decode cX8_turnsAll 5 = .ok (.aload_n 0, 1) := by decide +kernel
theorem dX8_turnsAll_6 : decode cX8_turnsAll 6 = .ok (.getfield 120, 3) := by decide +kernel
theorem dX8_turnsAll_9 : decode cX8_turnsAll 9 = .ok (.aload_n 0, 1) := by decide +kernel
theorem dX8_turnsAll_10 : decode cX8_turnsAll 10 = .ok (.getfield 120, 3) := by decide +kernel
theorem dX8_turnsAll_13 : decode cX8_turnsAll 13 = .ok (.imul, 1) := by decide +kernel
theorem dX8_turnsAll_14 : decode cX8_turnsAll 14 = .ok (.if_icmp .ge 66, 3) := by decide +kernel
theorem dX8_turnsAll_17 : decode cX8_turnsAll 17 = .ok (.iload_n 3, 1) := by decide +kernel
theorem dX8_turnsAll_18 : decode cX8_turnsAll 18 = .ok (.aload_n 0, 1) := by decide +kernel
theorem dX8_turnsAll_19 : decode cX8_turnsAll 19 = .ok (.getfield 120, 3) := by decide +kernel
theorem dX8_turnsAll_22 : decode cX8_turnsAll 22 = .ok (.idiv, 1) := by decide +kernel
theorem dX8_turnsAll_23 : decode cX8_turnsAll 23 = .ok (.istore 4, 2) := by decide +kernel
theorem dX8_turnsAll_25 : decode cX8_turnsAll 25 = .ok (.iload_n 3, 1) := by decide +kernel
theorem dX8_turnsAll_26 : decode cX8_turnsAll 26 = .ok (.aload_n 0, 1) := by decide +kernel
theorem dX8_turnsAll_27 : decode cX8_turnsAll 27 = .ok (.getfield 120, 3) := by decide +kernel
theorem dX8_turnsAll_30 : decode cX8_turnsAll 30 = .ok (.irem, 1) := by decide +kernel
theorem dX8_turnsAll_31 : decode cX8_turnsAll 31 = .ok (.istore 5, 2) := by decide +kernel
theorem dX8_turnsAll_33 : decode cX8_turnsAll 33 = .ok (.iload_n 2, 1) := by decide +kernel
theorem dX8_turnsAll_34 : decode cX8_turnsAll 34 = .ok (.aload_n 0, 1) := by decide +kernel
theorem dX8_turnsAll_35 : decode cX8_turnsAll 35 = .ok (.iload 4, 2) := by decide +kernel
theorem dX8_turnsAll_37 : decode cX8_turnsAll 37 = .ok (.iload 5, 2) := by decide +kernel
theorem dX8_turnsAll_39 : decode cX8_turnsAll 39 = .ok (.invokevirtual 183, 3) := by decide +kernel
theorem dX8_turnsAll_42 : decode cX8_turnsAll 42 = .ok (.ifCond .eq 29, 3) := by decide +kernel
theorem dX8_turnsAll_45 : decode cX8_turnsAll 45 = .ok (.iload_n 1, 1) := by decide +kernel
theorem dX8_turnsAll_46 : decode cX8_turnsAll 46 = .ok (.ifCond .eq 21, 3) := by decide +kernel
theorem dX8_turnsAll_49 : decode cX8_turnsAll 49 = .ok (.aload_n 0, 1) := by decide +kernel
theorem dX8_turnsAll_50 : decode cX8_turnsAll 50 = .ok (.getfield 22, 3) := by decide +kernel
theorem dX8_turnsAll_53 : decode cX8_turnsAll 53 = .ok (.bipush 12, 2) := by decide +kernel
theorem dX8_turnsAll_55 : decode cX8_turnsAll 55 = .ok (.iload 4, 2) := by decide +kernel
theorem dX8_turnsAll_57 : decode cX8_turnsAll 57 = .ok (.imul, 1) := by decide +kernel
theorem dX8_turnsAll_58 : decode cX8_turnsAll 58 = .ok (.iload 5, 2) := by decide +kernel
theorem dX8_turnsAll_60 : decode cX8_turnsAll 60 = .ok (.iadd, 1) := by decide +kernel
theorem dX8_turnsAll_61 : decode cX8_turnsAll 61 = .ok (.iaload, 1) := by decide +kernel
theorem dX8_turnsAll_62 : decode cX8_turnsAll 62 = .ok (.bipush (-5), 2) := by decide +kernel
theorem dX8_turnsAll_64 : decode cX8_turnsAll 64 = .ok (.if_icmp .ne 7, 3) := by decide +kernel
theorem dX8_turnsAll_67 : decode cX8_turnsAll 67 = .ok (.iconst 1, 1) := by decide +kernel
theorem dX8_turnsAll_68 : decode cX8_turnsAll 68 = .ok (.goto 4, 3) := by decide +kernel
theorem dX8_turnsAll_71 : decode cX8_turnsAll 71 = .ok (.iconst 0, 1) := by decide +kernel
theorem dX8_turnsAll_72 : decode cX8_turnsAll 72 = .ok (.iadd, 1) := by decide +kernel
theorem dX8_turnsAll_73 : decode cX8_turnsAll 73 = .ok (.istore_n 2, 1) := by decide +kernel
theorem dX8_turnsAll_74 : decode cX8_turnsAll 74 = .ok (.iinc 3 1, 3) := by decide +kernel
theorem dX8_turnsAll_77 : decode cX8_turnsAll 77 = .ok (.goto (-73), 3) := by decide +kernel
theorem dX8_turnsAll_80 : decode cX8_turnsAll 80 = .ok (.iload_n 2, 1) := by decide +kernel
theorem dX8_turnsAll_81 : decode cX8_turnsAll 81 = .ok (.ireturn, 1) := by decide +kernel
theorem dX8_howMany_0 : decode cX8_howMany 0 = .ok (.iload_n 1, 1) := by decide +kernel
theorem dX8_howMany_1 : decode cX8_howMany 1 = .ok (.tableswitch 80 0 6 #[43, 48, 53, 59, 65, 70, 75], 43) := by decide +kernel
theorem dX8_howMany_44 : decode cX8_howMany 44 = .ok (.aload_n 0, 1) := by decide +kernel
theorem dX8_howMany_45 : decode cX8_howMany 45 = .ok (.getfield 120, 3) := by decide +kernel
theorem dX8_howMany_48 : decode cX8_howMany 48 = .ok (.ireturn, 1) := by decide +kernel
theorem dX8_howMany_49 : decode cX8_howMany 49 = .ok (.aload_n 0, 1) := by decide +kernel
theorem dX8_howMany_50 : decode cX8_howMany 50 = .ok (.getfield 93, 3) := by decide +kernel
theorem dX8_howMany_53 : decode cX8_howMany 53 = .ok (.ireturn, 1) := by decide +kernel
theorem dX8_howMany_54 : decode cX8_howMany 54 = .ok (.aload_n 0, 1) := by decide +kernel
theorem dX8_howMany_55 : decode cX8_howMany 55 = .ok (.iconst 0, 1) := by decide +kernel
theorem dX8_howMany_56 : decode cX8_howMany 56 = .ok (.invokevirtual 250, 3) := by decide +kernel
theorem dX8_howMany_59 : decode cX8_howMany 59 = .ok (.ireturn, 1) := by decide +kernel
theorem dX8_howMany_60 : decode cX8_howMany 60 = .ok (.aload_n 0, 1) := by decide +kernel
theorem dX8_howMany_61 : decode cX8_howMany 61 = .ok (.iconst 1, 1) := by decide +kernel
theorem dX8_howMany_62 : decode cX8_howMany 62 = .ok (.invokevirtual 250, 3) := by decide +kernel
theorem dX8_howMany_65 : decode cX8_howMany 65 = .ok (.ireturn, 1) := by decide +kernel
theorem dX8_howMany_66 : decode cX8_howMany 66 = .ok (.aload_n 0, 1) := by decide +kernel
theorem dX8_howMany_67 : decode cX8_howMany 67 = .ok (.getfield 129, 3) := by decide +kernel
theorem dX8_howMany_70 : decode cX8_howMany 70 = .ok (.ireturn, 1) := by decide +kernel
theorem dX8_howMany_71 : decode cX8_howMany 71 = .ok (.aload_n 0, 1) := by decide +kernel
theorem dX8_howMany_72 : decode cX8_howMany 72 = .ok (.getfield 171, 3) := by decide +kernel
theorem dX8_howMany_75 : decode cX8_howMany 75 = .ok (.ireturn, 1) := by decide +kernel
theorem dX8_howMany_76 : decode cX8_howMany 76 = .ok (.aload_n 0, 1) := by decide +kernel
theorem dX8_howMany_77 : decode cX8_howMany 77 = .ok (.getfield 186, 3) := by decide +kernel
theorem dX8_howMany_80 : decode cX8_howMany 80 = .ok (.ireturn, 1) := by decide +kernel
theorem dX8_howMany_81 : decode cX8_howMany 81 = .ok (.bipush (-102), 2) := by decide +kernel
theorem dX8_howMany_83 : decode cX8_howMany 83 = .ok (.ireturn, 1) := by decide +kernel
theorem dX8_count_0 : decode cX8_count 0 = .ok (.aload_n 0, 1) := by decide +kernel
theorem dX8_count_1 : decode cX8_count 1 = .ok (.iload_n 1, 1) := by decide +kernel
theorem dX8_count_2 : decode cX8_count 2 = .ok (.invokevirtual 253, 3) := by decide +kernel
theorem dX8_count_5 : decode cX8_count 5 = .ok (.ireturn, 1) := by decide +kernel
theorem dX8_mix_0 : decode cX8_mix 0 = .ok (.aload_n 0, 1) := by decide +kernel
theorem dX8_mix_1 : decode cX8_mix 1 = .ok (.ldc2_w 256, 3) := by decide +kernel
theorem dX8_mix_4 : decode cX8_mix 4 = .ok (.aload_n 0, 1) := by decide +kernel
theorem dX8_mix_5 : decode cX8_mix 5 = .ok (.getfield 258, 3) := by decide +kernel
theorem dX8_mix_8 : decode cX8_mix 8 = .ok (.lmul, 1) := by decide +kernel
theorem dX8_mix_9 : decode cX8_mix 9 = .ok (.lload_n 1, 1) := by decide +kernel
theorem dX8_mix_10 : decode cX8_mix 10 = .ok (.ladd, 1) := by decide +kernel
theorem dX8_mix_11 : decode cX8_mix 11 = .ok (.putfield 258, 3) := by decide +kernel
theorem dX8_mix_14 : decode cX8_mix 14 = .ok (.return_, 1) := by decide +kernel
theorem dX8_mixPair_0 : decode cX8_mixPair 0 = .ok (.aload_n 0, 1) := by decide +kernel
theorem dX8_mixPair_1 : decode cX8_mixPair 1 = .ok (.aload_n 0, 1) := by decide +kernel
theorem dX8_mixPair_2 : decode cX8_mixPair 2 = .ok (.iload_n 1, 1) := by decide +kernel
theorem dX8_mixPair_3 : decode cX8_mixPair 3 = .ok (.iload_n 2, 1) := by decide +kernel
theorem dX8_mixPair_4 : decode cX8_mixPair 4 = .ok (.invokevirtual 195, 3) := by decide +kernel
theorem dX8_mixPair_7 : decode cX8_mixPair 7 = .ok (.i2l, 1) := by decide +kernel
theorem dX8_mixPair_8 : decode cX8_mixPair 8 = .ok (.invokevirtual 262, 3) := by decide +kernel
theorem dX8_mixPair_11 : decode cX8_mixPair 11 = .ok (.aload_n 0, 1) := by decide +kernel
theorem dX8_mixPair_12 : decode cX8_mixPair 12 = .ok (.aload_n 0, 1) := by decide +kernel
theorem dX8_mixPair_13 : decode cX8_mixPair 13 = .ok (.iload_n 1, 1) := by decide +kernel
theorem dX8_mixPair_14 : decode cX8_mixPair 14 = .ok (.iload_n 2, 1) := by decide +kernel
theorem dX8_mixPair_15 : decode cX8_mixPair 15 = .ok (.iconst 1, 1) := by decide +kernel
theorem dX8_mixPair_16 : decode cX8_mixPair 16 = .ok (.invokevirtual 212, 3) := by decide +kernel
theorem dX8_mixPair_19 : decode cX8_mixPair 19 = .ok (.i2l, 1) := by decide +kernel
theorem dX8_mixPair_20 : decode cX8_mixPair 20 = .ok (.invokevirtual 262, 3) := by decide +kernel
theorem dX8_mixPair_23 : decode cX8_mixPair 23 = .ok (.aload_n 0, 1) := by decide +kernel
theorem dX8_mixPair_24 : decode cX8_mixPair 24 = .ok (.aload_n 0, 1) := by decide +kernel
theorem dX8_mixPair_25 : decode cX8_mixPair 25 = .ok (.iload_n 1, 1) := by decide +kernel
theorem dX8_mixPair_26 : decode cX8_mixPair 26 = .ok (.iload_n 2, 1) := by decide +kernel
theorem dX8_mixPair_27 : decode cX8_mixPair 27 = .ok (.iconst 0, 1) := by decide +kernel
theorem dX8_mixPair_28 : decode cX8_mixPair 28 = .ok (.invokevirtual 212, 3) := by decide +kernel
theorem dX8_mixPair_31 : decode cX8_mixPair 31 = .ok (.i2l, 1) := by decide +kernel
theorem dX8_mixPair_32 : decode cX8_mixPair 32 = .ok (.invokevirtual 262, 3) := by decide +kernel
theorem dX8_mixPair_35 : decode cX8_mixPair 35 = .ok (.aload_n 0, 1) := by decide +kernel
theorem dX8_mixPair_36 : decode cX8_mixPair 36 = .ok (.aload_n 0, 1) := by decide +kernel
theorem dX8_mixPair_37 : decode cX8_mixPair 37 = .ok (.iload_n 1, 1) := by decide +kernel
theorem dX8_mixPair_38 : decode cX8_mixPair 38 = .ok (.iload_n 2, 1) := by decide +kernel
theorem dX8_mixPair_39 : decode cX8_mixPair 39 = .ok (.invokevirtual 216, 3) := by decide +kernel
theorem dX8_mixPair_42 : decode cX8_mixPair 42 = .ok (.i2l, 1) := by decide +kernel
theorem dX8_mixPair_43 : decode cX8_mixPair 43 = .ok (.invokevirtual 262, 3) := by decide +kernel
theorem dX8_mixPair_46 : decode cX8_mixPair 46 = .ok (.iconst 0, 1) := by decide +kernel
theorem dX8_mixPair_47 : decode cX8_mixPair 47 = .ok (.istore_n 3, 1) := by decide +kernel
theorem dX8_mixPair_48 : decode cX8_mixPair 48 = .ok (.iload_n 3, 1) := by decide +kernel
theorem dX8_mixPair_49 : decode cX8_mixPair 49 = .ok (.iconst 4, 1) := by decide +kernel
theorem dX8_mixPair_50 : decode cX8_mixPair 50 = .ok (.if_icmp .ge 21, 3) := by decide +kernel
theorem dX8_mixPair_53 : decode cX8_mixPair 53 = .ok (.aload_n 0, 1) := by decide +kernel
theorem dX8_mixPair_54 : decode cX8_mixPair 54 = .ok (.aload_n 0, 1) := by decide +kernel
theorem dX8_mixPair_55 : decode cX8_mixPair 55 = .ok (.iload_n 1, 1) := by decide +kernel
theorem dX8_mixPair_56 : decode cX8_mixPair 56 = .ok (.iload_n 2, 1) := by decide +kernel
theorem dX8_mixPair_57 : decode cX8_mixPair 57 = .ok (.iload_n 3, 1) := by decide +kernel
theorem dX8_mixPair_58 : decode cX8_mixPair 58 = .ok (.invokevirtual 204, 3) := by decide +kernel
theorem dX8_mixPair_61 : decode cX8_mixPair 61 = .ok (.i2l, 1) := by decide +kernel
theorem dX8_mixPair_62 : decode cX8_mixPair 62 = .ok (.invokevirtual 262, 3) := by decide +kernel
theorem dX8_mixPair_65 : decode cX8_mixPair 65 = .ok (.iinc 3 1, 3) := by decide +kernel
theorem dX8_mixPair_68 : decode cX8_mixPair 68 = .ok (.goto (-20), 3) := by decide +kernel
theorem dX8_mixPair_71 : decode cX8_mixPair 71 = .ok (.return_, 1) := by decide +kernel
theorem dX8_digest_0 : decode cX8_digest 0 = .ok (.aload_n 0, 1) := by decide +kernel
theorem dX8_digest_1 : decode cX8_digest 1 = .ok (.ldc2_w 266, 3) := by decide +kernel
theorem dX8_digest_4 : decode cX8_digest 4 = .ok (.putfield 258, 3) := by decide +kernel
theorem dX8_digest_7 : decode cX8_digest 7 = .ok (.iconst 0, 1) := by decide +kernel
theorem dX8_digest_8 : decode cX8_digest 8 = .ok (.istore_n 1, 1) := by decide +kernel
theorem dX8_digest_9 : decode cX8_digest 9 = .ok (.iload_n 1, 1) := by decide +kernel
theorem dX8_digest_10 : decode cX8_digest 10 = .ok (.bipush 6, 2) := by decide +kernel
theorem dX8_digest_12 : decode cX8_digest 12 = .ok (.aload_n 0, 1) := by decide +kernel
theorem dX8_digest_13 : decode cX8_digest 13 = .ok (.getfield 120, 3) := by decide +kernel
theorem dX8_digest_16 : decode cX8_digest 16 = .ok (.imul, 1) := by decide +kernel
theorem dX8_digest_17 : decode cX8_digest 17 = .ok (.if_icmp .ge 26, 3) := by decide +kernel
theorem dX8_digest_20 : decode cX8_digest 20 = .ok (.aload_n 0, 1) := by decide +kernel
theorem dX8_digest_21 : decode cX8_digest 21 = .ok (.aload_n 0, 1) := by decide +kernel
theorem dX8_digest_22 : decode cX8_digest 22 = .ok (.iload_n 1, 1) := by decide +kernel
theorem dX8_digest_23 : decode cX8_digest 23 = .ok (.bipush 6, 2) := by decide +kernel
theorem dX8_digest_25 : decode cX8_digest 25 = .ok (.idiv, 1) := by decide +kernel
theorem dX8_digest_26 : decode cX8_digest 26 = .ok (.iload_n 1, 1) := by decide +kernel
theorem dX8_digest_27 : decode cX8_digest 27 = .ok (.bipush 6, 2) := by decide +kernel
theorem dX8_digest_29 : decode cX8_digest 29 = .ok (.irem, 1) := by decide +kernel
theorem dX8_digest_30 : decode cX8_digest 30 = .ok (.invokevirtual 192, 3) := by decide +kernel
theorem dX8_digest_33 : decode cX8_digest 33 = .ok (.i2l, 1) := by decide +kernel
theorem dX8_digest_34 : decode cX8_digest 34 = .ok (.invokevirtual 262, 3) := by decide +kernel
theorem dX8_digest_37 : decode cX8_digest 37 = .ok (.iinc 1 1, 3) := by decide +kernel
theorem dX8_digest_40 : decode cX8_digest 40 = .ok (.goto (-31), 3) := by decide +kernel
theorem dX8_digest_43 : decode cX8_digest 43 = .ok (.iconst 0, 1) := by decide +kernel
theorem dX8_digest_44 : decode cX8_digest 44 = .ok (.istore_n 1, 1) := by decide +kernel
theorem dX8_digest_45 : decode cX8_digest 45 = .ok (.iload_n 1, 1) := by decide +kernel
theorem dX8_digest_46 : decode cX8_digest 46 = .ok (.aload_n 0, 1) := by decide +kernel
theorem dX8_digest_47 : decode cX8_digest 47 = .ok (.getfield 120, 3) := by decide +kernel
theorem dX8_digest_50 : decode cX8_digest 50 = .ok (.if_icmp .ge 31, 3) := by decide +kernel
theorem dX8_digest_53 : decode cX8_digest 53 = .ok (.iconst 0, 1) := by decide +kernel
theorem dX8_digest_54 : decode cX8_digest 54 = .ok (.istore_n 2, 1) := by decide +kernel
theorem dX8_digest_55 : decode cX8_digest 55 = .ok (.iload_n 2, 1) := by decide +kernel
theorem dX8_digest_56 : decode cX8_digest 56 = .ok (.aload_n 0, 1) := by decide +kernel
theorem dX8_digest_57 : decode cX8_digest 57 = .ok (.getfield 120, 3) := by decide +kernel
theorem dX8_digest_60 : decode cX8_digest 60 = .ok (.if_icmp .ge 15, 3) := by decide +kernel
theorem dX8_digest_63 : decode cX8_digest 63 = .ok (.aload_n 0, 1) := by decide +kernel
theorem dX8_digest_64 : decode cX8_digest 64 = .ok (.iload_n 1, 1) := by decide +kernel
theorem dX8_digest_65 : decode cX8_digest 65 = .ok (.iload_n 2, 1) := by decide +kernel
theorem dX8_digest_66 : decode cX8_digest 66 = .ok (.invokevirtual 268, 3) := by decide +kernel
theorem dX8_digest_69 : decode cX8_digest 69 = .ok (.iinc 2 1, 3) := by decide +kernel
theorem dX8_digest_72 : decode cX8_digest 72 = .ok (.goto (-17), 3) := by decide +kernel
theorem dX8_digest_75 : decode cX8_digest 75 = .ok (.iinc 1 1, 3) := by decide +kernel
theorem dX8_digest_78 : decode cX8_digest 78 = .ok (.goto (-33), 3) := by decide +kernel
theorem dX8_digest_81 : decode cX8_digest 81 = .ok (.aload_n 0, 1) := by decide +kernel
theorem dX8_digest_82 : decode cX8_digest 82 = .ok (.invokevirtual 234, 3) := by decide +kernel
theorem dX8_digest_85 : decode cX8_digest 85 = .ok (.iconst 0, 1) := by decide +kernel
theorem dX8_digest_86 : decode cX8_digest 86 = .ok (.istore_n 1, 1) := by decide +kernel
theorem dX8_digest_87 : decode cX8_digest 87 = .ok (.iload_n 1, 1) := by decide +kernel
theorem dX8_digest_88 : decode cX8_digest 88 = .ok (.bipush 64, 2) := by decide +kernel
theorem dX8_digest_90 : decode cX8_digest 90 = .ok (.if_icmp .ge 48, 3) := by decide +kernel
theorem dX8_digest_93 : decode cX8_digest 93 = .ok (.iload_n 1, 1) := by decide +kernel
theorem dX8_digest_94 : decode cX8_digest 94 = .ok (.bipush 8, 2) := by decide +kernel
theorem dX8_digest_96 : decode cX8_digest 96 = .ok (.idiv, 1) := by decide +kernel
theorem dX8_digest_97 : decode cX8_digest 97 = .ok (.iload_n 1, 1) := by decide +kernel
theorem dX8_digest_98 : decode cX8_digest 98 = .ok (.bipush 8, 2) := by decide +kernel
theorem dX8_digest_100 : decode cX8_digest 100 = .ok (.irem, 1) := by decide +kernel
theorem dX8_digest_101 : decode cX8_digest 101 = .ok (.if_icmp .eq 31, 3) := by decide +kernel
theorem dX8_digest_104 : decode cX8_digest 104 = .ok (.aload_n 0, 1) := by decide +kernel
theorem dX8_digest_105 : decode cX8_digest 105 = .ok (.aload_n 0, 1) := by decide +kernel
theorem dX8_digest_106 : decode cX8_digest 106 = .ok (.getfield 86, 3) := by decide +kernel
theorem dX8_digest_109 : decode cX8_digest 109 = .ok (.iload_n 1, 1) := by decide +kernel
theorem dX8_digest_110 : decode cX8_digest 110 = .ok (.iaload, 1) := by decide +kernel
theorem dX8_digest_111 : decode cX8_digest 111 = .ok (.ldc 136, 2) := by decide +kernel
theorem dX8_digest_113 : decode cX8_digest 113 = .ok (.if_icmp .lt 9, 3) := by decide +kernel
theorem dX8_digest_116 : decode cX8_digest 116 = .ok (.ldc2_w 271, 3) := by decide +kernel
theorem dX8_digest_119 : decode cX8_digest 119 = .ok (.goto 10, 3) := by decide +kernel
theorem dX8_digest_122 : decode cX8_digest 122 = .ok (.aload_n 0, 1) := by decide +kernel
theorem dX8_digest_123 : decode cX8_digest 123 = .ok (.getfield 86, 3) := by decide +kernel
theorem dX8_digest_126 : decode cX8_digest 126 = .ok (.iload_n 1, 1) := by decide +kernel
theorem dX8_digest_127 : decode cX8_digest 127 = .ok (.iaload, 1) := by decide +kernel
theorem dX8_digest_128 : decode cX8_digest 128 = .ok (.i2l, 1) := by decide +kernel
theorem dX8_digest_129 : decode cX8_digest 129 = .ok (.invokevirtual 262, 3) := by decide +kernel
theorem dX8_digest_132 : decode cX8_digest 132 = .ok (.iinc 1 1, 3) := by decide +kernel
theorem dX8_digest_135 : decode cX8_digest 135 = .ok (.goto (-48), 3) := by decide +kernel
theorem dX8_digest_138 : decode cX8_digest 138 = .ok (.iconst 0, 1) := by decide +kernel
theorem dX8_digest_139 : decode cX8_digest 139 = .ok (.istore_n 1, 1) := by decide +kernel
theorem dX8_digest_140 : decode cX8_digest 140 = .ok (.iload_n 1, 1) := by decide +kernel
theorem dX8_digest_141 : decode cX8_digest 141 = .ok (.aload_n 0, 1) := by decide +kernel
theorem dX8_digest_142 : decode cX8_digest 142 = .ok (.getfield 120, 3) := by decide +kernel
theorem dX8_digest_145 : decode cX8_digest 145 = .ok (.if_icmp .ge 21, 3) := by decide +kernel
theorem dX8_digest_148 : decode cX8_digest 148 = .ok (.aload_n 0, 1) := by decide +kernel
theorem dX8_digest_149 : decode cX8_digest 149 = .ok (.aload_n 0, 1) := by decide +kernel
theorem dX8_digest_150 : decode cX8_digest 150 = .ok (.iload_n 1, 1) := by decide +kernel
theorem dX8_digest_151 : decode cX8_digest 151 = .ok (.bipush 100, 2) := by decide +kernel
theorem dX8_digest_153 : decode cX8_digest 153 = .ok (.invokevirtual 237, 3) := by decide +kernel
theorem dX8_digest_156 : decode cX8_digest 156 = .ok (.i2l, 1) := by decide +kernel
theorem dX8_digest_157 : decode cX8_digest 157 = .ok (.invokevirtual 262, 3) := by decide +kernel
theorem dX8_digest_160 : decode cX8_digest 160 = .ok (.iinc 1 1, 3) := by decide +kernel
theorem dX8_digest_163 : decode cX8_digest 163 = .ok (.goto (-23), 3) := by decide +kernel
theorem dX8_digest_166 : decode cX8_digest 166 = .ok (.iconst 0, 1) := by decide +kernel
theorem dX8_digest_167 : decode cX8_digest 167 = .ok (.istore_n 1, 1) := by decide +kernel
theorem dX8_digest_168 : decode cX8_digest 168 = .ok (.iload_n 1, 1) := by decide +kernel
theorem dX8_digest_169 : decode cX8_digest 169 = .ok (.bipush 6, 2) := by decide +kernel
theorem dX8_digest_171 : decode cX8_digest 171 = .ok (.if_icmp .ge 19, 3) := by decide +kernel
theorem dX8_digest_174 : decode cX8_digest 174 = .ok (.aload_n 0, 1) := by decide +kernel
theorem dX8_digest_175 : decode cX8_digest 175 = .ok (.aload_n 0, 1) := by decide +kernel
theorem dX8_digest_176 : decode cX8_digest 176 = .ok (.iload_n 1, 1) := by decide +kernel
theorem dX8_digest_177 : decode cX8_digest 177 = .ok (.invokevirtual 247, 3) := by decide +kernel
theorem dX8_digest_180 : decode cX8_digest 180 = .ok (.i2l, 1) := by decide +kernel
theorem dX8_digest_181 : decode cX8_digest 181 = .ok (.invokevirtual 262, 3) := by decide +kernel
theorem dX8_digest_184 : decode cX8_digest 184 = .ok (.iinc 1 1, 3) := by decide +kernel
theorem dX8_digest_187 : decode cX8_digest 187 = .ok (.goto (-19), 3) := by decide +kernel
theorem dX8_digest_190 : decode cX8_digest 190 = .ok (.iconst 0, 1) := by decide +kernel
theorem dX8_digest_191 : decode cX8_digest 191 = .ok (.istore_n 1, 1) := by decide +kernel
theorem dX8_digest_192 : decode cX8_digest 192 = .ok (.iload_n 1, 1) := by decide +kernel
theorem dX8_digest_193 : decode cX8_digest 193 = .ok (.aload_n 0, 1) := by decide +kernel
theorem dX8_digest_194 : decode cX8_digest 194 = .ok (.getfield 93, 3) := by decide +kernel
theorem dX8_digest_197 : decode cX8_digest 197 = .ok (.if_icmp .ge 20, 3) := by decide +kernel
theorem dX8_digest_200 : decode cX8_digest 200 = .ok (.aload_n 0, 1) := by decide +kernel
theorem dX8_digest_201 : decode cX8_digest 201 = .ok (.aload_n 0, 1) := by decide +kernel
theorem dX8_digest_202 : decode cX8_digest 202 = .ok (.getfield 7, 3) := by decide +kernel
theorem dX8_digest_205 : decode cX8_digest 205 = .ok (.iload_n 1, 1) := by decide +kernel
theorem dX8_digest_206 : decode cX8_digest 206 = .ok (.iaload, 1) := by decide +kernel
theorem dX8_digest_207 : decode cX8_digest 207 = .ok (.i2l, 1) := by decide +kernel
theorem dX8_digest_208 : decode cX8_digest 208 = .ok (.invokevirtual 262, 3) := by decide +kernel
theorem dX8_digest_211 : decode cX8_digest 211 = .ok (.iinc 1 1, 3) := by decide +kernel
theorem dX8_digest_214 : decode cX8_digest 214 = .ok (.goto (-22), 3) := by decide +kernel
theorem dX8_digest_217 : decode cX8_digest 217 = .ok (.iconst 0, 1) := by decide +kernel
theorem dX8_digest_218 : decode cX8_digest 218 = .ok (.istore_n 1, 1) := by decide +kernel
theorem dX8_digest_219 : decode cX8_digest 219 = .ok (.iload_n 1, 1) := by decide +kernel
theorem dX8_digest_220 : decode cX8_digest 220 = .ok (.bipush 7, 2) := by decide +kernel
theorem dX8_digest_222 : decode cX8_digest 222 = .ok (.if_icmp .ge 19, 3) := by decide +kernel
theorem dX8_digest_225 : decode cX8_digest 225 = .ok (.aload_n 0, 1) := by decide +kernel
theorem dX8_digest_226 : decode cX8_digest 226 = .ok (.aload_n 0, 1) := by decide +kernel
theorem dX8_digest_227 : decode cX8_digest 227 = .ok (.iload_n 1, 1) := by decide +kernel
theorem dX8_digest_228 : decode cX8_digest 228 = .ok (.invokevirtual 253, 3) := by decide +kernel
theorem dX8_digest_231 : decode cX8_digest 231 = .ok (.i2l, 1) := by decide +kernel
theorem dX8_digest_232 : decode cX8_digest 232 = .ok (.invokevirtual 262, 3) := by decide +kernel
theorem dX8_digest_235 : decode cX8_digest 235 = .ok (.iinc 1 1, 3) := by decide +kernel
theorem dX8_digest_238 : decode cX8_digest 238 = .ok (.goto (-19), 3) := by decide +kernel
theorem dX8_digest_241 : decode cX8_digest 241 = .ok (.aload_n 0, 1) := by decide +kernel
theorem dX8_digest_242 : decode cX8_digest 242 = .ok (.getfield 258, 3) := by decide +kernel
theorem dX8_digest_245 : decode cX8_digest 245 = .ok (.lreturn, 1) := by decide +kernel
end
section
theorem dL_law_0 : decode cL_law 0 = .ok (.new 7, 3) := by decide +kernel
theorem dL_law_3 : decode cL_law 3 = .ok (.dup, 1) := by decide +kernel
theorem dL_law_4 : decode cL_law 4 = .ok (.invokespecial 9, 3) := by decide +kernel
theorem dL_law_7 : decode cL_law 7 = .ok (.astore_n 1, 1) := by decide +kernel
theorem dL_law_8 : decode cL_law 8 = .ok (.new 10, 3) := by decide +kernel
theorem dL_law_11 : decode cL_law 11 = .ok (.dup, 1) := by decide +kernel
theorem dL_law_12 : decode cL_law 12 = .ok (.invokespecial 12, 3) := by decide +kernel
theorem dL_law_15 : decode cL_law 15 = .ok (.astore_n 2, 1) := by decide +kernel
theorem dL_law_16 : decode cL_law 16 = .ok (.iconst 0, 1) := by decide +kernel
theorem dL_law_17 : decode cL_law 17 = .ok (.istore_n 3, 1) := by decide +kernel
theorem dL_law_18 : decode cL_law 18 = .ok (.iload_n 3, 1) := by decide +kernel
theorem dL_law_19 : decode cL_law 19 = .ok (.aload_n 0, 1) := by decide +kernel
theorem dL_law_20 : decode cL_law 20 = .ok (.arraylength, 1) := by decide +kernel
theorem dL_law_21 : decode cL_law 21 = .ok (.iconst 4, 1) := by decide +kernel
theorem dL_law_22 : decode cL_law 22 = .ok (.isub, 1) := by decide +kernel
theorem dL_law_23 : decode cL_law 23 = .ok (.if_icmp .gt 746, 3) := by decide +kernel
theorem dL_law_26 : decode cL_law 26 = .ok (.aload_n 0, 1) := by decide +kernel
theorem dL_law_27 : decode cL_law 27 = .ok (.iload_n 3, 1) := by decide +kernel
theorem dL_law_28 : decode cL_law 28 = .ok (.iaload, 1) := by decide +kernel
theorem dL_law_29 : decode cL_law 29 = .ok (.bipush 31, 2) := by decide +kernel
theorem dL_law_31 : decode cL_law 31 = .ok (.iand, 1) := by decide +kernel
theorem dL_law_32 : decode cL_law 32 = .ok (.tableswitch 731 0 21 #[104, 127, 140, 153, 166, 199, 242, 255, 288, 321, 344, 377, 420, 463, 506, 539, 572, 605, 638, 671, 694, 717], 104) := by decide +kernel
theorem dL_law_136 : decode cL_law 136 = .ok (.aload_n 1, 1) := by decide +kernel
theorem dL_law_137 : decode cL_law 137 = .ok (.aload_n 0, 1) := by decide +kernel
theorem dL_law_138 : decode cL_law 138 = .ok (.iload_n 3, 1) := by decide +kernel
theorem dL_law_139 : decode cL_law 139 = .ok (.iconst 1, 1) := by decide +kernel
theorem dL_law_140 : decode cL_law 140 = .ok (.iadd, 1) := by decide +kernel
theorem dL_law_141 : decode cL_law 141 = .ok (.iaload, 1) := by decide +kernel
theorem dL_law_142 : decode cL_law 142 = .ok (.invokevirtual 13, 3) := by decide +kernel
theorem dL_law_145 : decode cL_law 145 = .ok (.aload_n 2, 1) := by decide +kernel
theorem dL_law_146 : decode cL_law 146 = .ok (.aload_n 0, 1) := by decide +kernel
theorem dL_law_147 : decode cL_law 147 = .ok (.iload_n 3, 1) := by decide +kernel
theorem dL_law_148 : decode cL_law 148 = .ok (.iconst 1, 1) := by decide +kernel
theorem dL_law_149 : decode cL_law 149 = .ok (.iadd, 1) := by decide +kernel
theorem dL_law_150 : decode cL_law 150 = .ok (.iaload, 1) := by decide +kernel
theorem dL_law_151 : decode cL_law 151 = .ok (.invokevirtual 17, 3) := by decide +kernel
theorem dL_law_154 : decode cL_law 154 = .ok (.if_icmp .eq 609, 3) := by decide +kernel
theorem dL_law_157 : decode cL_law 157 = .ok (.iconst 0, 1) := by decide +kernel
theorem dL_law_158 : decode cL_law 158 = .ok (.ireturn, 1) := by decide +kernel
theorem dL_law_159 : decode cL_law 159 = .ok (.aload_n 1, 1) := by decide +kernel
theorem dL_law_160 : decode cL_law 160 = .ok (.invokevirtual 18, 3) := by decide +kernel
theorem dL_law_163 : decode cL_law 163 = .ok (.aload_n 2, 1) := by decide +kernel
theorem dL_law_164 : decode cL_law 164 = .ok (.invokevirtual 22, 3) := by decide +kernel
theorem dL_law_167 : decode cL_law 167 = .ok (.if_icmp .eq 596, 3) := by decide +kernel
theorem dL_law_170 : decode cL_law 170 = .ok (.iconst 0, 1) := by decide +kernel
theorem dL_law_171 : decode cL_law 171 = .ok (.ireturn, 1) := by decide +kernel
theorem dL_law_172 : decode cL_law 172 = .ok (.aload_n 1, 1) := by decide +kernel
theorem dL_law_173 : decode cL_law 173 = .ok (.invokevirtual 23, 3) := by decide +kernel
theorem dL_law_176 : decode cL_law 176 = .ok (.aload_n 2, 1) := by decide +kernel
theorem dL_law_177 : decode cL_law 177 = .ok (.invokevirtual 26, 3) := by decide +kernel
theorem dL_law_180 : decode cL_law 180 = .ok (.if_icmp .eq 583, 3) := by decide +kernel
theorem dL_law_183 : decode cL_law 183 = .ok (.iconst 0, 1) := by decide +kernel
theorem dL_law_184 : decode cL_law 184 = .ok (.ireturn, 1) := by decide +kernel
theorem dL_law_185 : decode cL_law 185 = .ok (.aload_n 1, 1) := by decide +kernel
theorem dL_law_186 : decode cL_law 186 = .ok (.invokevirtual 27, 3) := by decide +kernel
theorem dL_law_189 : decode cL_law 189 = .ok (.aload_n 2, 1) := by decide +kernel
theorem dL_law_190 : decode cL_law 190 = .ok (.invokevirtual 30, 3) := by decide +kernel
theorem dL_law_193 : decode cL_law 193 = .ok (.if_icmp .eq 570, 3) := by decide +kernel
theorem dL_law_196 : decode cL_law 196 = .ok (.iconst 0, 1) := by decide +kernel
theorem dL_law_197 : decode cL_law 197 = .ok (.ireturn, 1) := by decide +kernel
theorem dL_law_198 : decode cL_law 198 = .ok (.aload_n 1, 1) := by decide +kernel
theorem dL_law_199 : decode cL_law 199 = .ok (.aload_n 0, 1) := by decide +kernel
theorem dL_law_200 : decode cL_law 200 = .ok (.iload_n 3, 1) := by decide +kernel
theorem dL_law_201 : decode cL_law 201 = .ok (.iconst 1, 1) := by decide +kernel
theorem dL_law_202 : decode cL_law 202 = .ok (.iadd, 1) := by decide +kernel
theorem dL_law_203 : decode cL_law 203 = .ok (.iaload, 1) := by decide +kernel
theorem dL_law_204 : decode cL_law 204 = .ok (.aload_n 0, 1) := by decide +kernel
theorem dL_law_205 : decode cL_law 205 = .ok (.iload_n 3, 1) := by decide +kernel
theorem dL_law_206 : decode cL_law 206 = .ok (.iconst 2, 1) := by decide +kernel
theorem dL_law_207 : decode cL_law 207 = .ok (.iadd, 1) := by decide +kernel
theorem dL_law_208 : decode cL_law 208 = .ok (.iaload, 1) := by decide +kernel
theorem dL_law_209 : decode cL_law 209 = .ok (.invokevirtual 31, 3) := by decide +kernel
theorem dL_law_212 : decode cL_law 212 = .ok (.aload_n 2, 1) := by decide +kernel
theorem dL_law_213 : decode cL_law 213 = .ok (.aload_n 0, 1) := by decide +kernel
theorem dL_law_214 : decode cL_law 214 = .ok (.iload_n 3, 1) := by decide +kernel
theorem dL_law_215 : decode cL_law 215 = .ok (.iconst 1, 1) := by decide +kernel
theorem dL_law_216 : decode cL_law 216 = .ok (.iadd, 1) := by decide +kernel
theorem dL_law_217 : decode cL_law 217 = .ok (.iaload, 1) := by decide +kernel
theorem dL_law_218 : decode cL_law 218 = .ok (.aload_n 0, 1) := by decide +kernel
theorem dL_law_219 : decode cL_law 219 = .ok (.iload_n 3, 1) := by decide +kernel
theorem dL_law_220 : decode cL_law 220 = .ok (.iconst 2, 1) := by decide +kernel
theorem dL_law_221 : decode cL_law 221 = .ok (.iadd, 1) := by decide +kernel
theorem dL_law_222 : decode cL_law 222 = .ok (.iaload, 1) := by decide +kernel
theorem dL_law_223 : decode cL_law 223 = .ok (.invokevirtual 35, 3) := by decide +kernel
theorem dL_law_226 : decode cL_law 226 = .ok (.if_icmp .eq 537, 3) := by decide +kernel
theorem dL_law_229 : decode cL_law 229 = .ok (.iconst 0, 1) := by decide +kernel
theorem dL_law_230 : decode cL_law 230 = .ok (.ireturn, 1) := by decide +kernel
theorem dL_law_231 : decode cL_law 231 = .ok (.aload_n 1, 1) := by decide +kernel
theorem dL_law_232 : decode cL_law 232 = .ok (.aload_n 0, 1) := by decide +kernel
theorem dL_law_233 : decode cL_law 233 = .ok (.iload_n 3, 1) := by decide +kernel
theorem dL_law_234 : decode cL_law 234 = .ok (.iconst 1, 1) := by decide +kernel
theorem dL_law_235 : decode cL_law 235 = .ok (.iadd, 1) := by decide +kernel
theorem dL_law_236 : decode cL_law 236 = .ok (.iaload, 1) := by decide +kernel
theorem dL_law_237 : decode cL_law 237 = .ok (.aload_n 0, 1) := by decide +kernel
theorem dL_law_238 : decode cL_law 238 = .ok (.iload_n 3, 1) := by decide +kernel
theorem dL_law_239 : decode cL_law 239 = .ok (.iconst 2, 1) := by decide +kernel
theorem dL_law_240 : decode cL_law 240 = .ok (.iadd, 1) := by decide +kernel
theorem dL_law_241 : decode cL_law 241 = .ok (.iaload, 1) := by decide +kernel
theorem dL_law_242 : decode cL_law 242 = .ok (.aload_n 0, 1) := by decide +kernel
theorem dL_law_243 : decode cL_law 243 = .ok (.iload_n 3, 1) := by decide +kernel
theorem dL_law_244 : decode cL_law 244 = .ok (.iconst 3, 1) := by decide +kernel
theorem dL_law_245 : decode cL_law 245 = .ok (.iadd, 1) := by decide +kernel
theorem dL_law_246 : decode cL_law 246 = .ok (.iaload, 1) := by decide +kernel
theorem dL_law_247 : decode cL_law 247 = .ok (.invokevirtual 36, 3) := by decide +kernel
theorem dL_law_250 : decode cL_law 250 = .ok (.aload_n 2, 1) := by decide +kernel
theorem dL_law_251 : decode cL_law 251 = .ok (.aload_n 0, 1) := by decide +kernel
theorem dL_law_252 : decode cL_law 252 = .ok (.iload_n 3, 1) := by decide +kernel
theorem dL_law_253 : decode cL_law 253 = .ok (.iconst 1, 1) := by decide +kernel
theorem dL_law_254 : decode cL_law 254 = .ok (.iadd, 1) := by decide +kernel
theorem dL_law_255 : decode cL_law 255 = .ok (.iaload, 1) := by decide +kernel
theorem dL_law_256 : decode cL_law 256 = .ok (.aload_n 0, 1) := by decide +kernel
theorem dL_law_257 : decode cL_law 257 = .ok (.iload_n 3, 1) := by decide +kernel
theorem dL_law_258 : decode cL_law 258 = .ok (.iconst 2, 1) := by decide +kernel
theorem dL_law_259 : decode cL_law 259 = .ok (.iadd, 1) := by decide +kernel
theorem dL_law_260 : decode cL_law 260 = .ok (.iaload, 1) := by decide +kernel
theorem dL_law_261 : decode cL_law 261 = .ok (.aload_n 0, 1) := by decide +kernel
theorem dL_law_262 : decode cL_law 262 = .ok (.iload_n 3, 1) := by decide +kernel
theorem dL_law_263 : decode cL_law 263 = .ok (.iconst 3, 1) := by decide +kernel
theorem dL_law_264 : decode cL_law 264 = .ok (.iadd, 1) := by decide +kernel
theorem dL_law_265 : decode cL_law 265 = .ok (.iaload, 1) := by decide +kernel
theorem dL_law_266 : decode cL_law 266 = .ok (.invokevirtual 40, 3) := by decide +kernel
theorem dL_law_269 : decode cL_law 269 = .ok (.if_icmp .eq 494, 3) := by decide +kernel
theorem dL_law_272 : decode cL_law 272 = .ok (.iconst 0, 1) := by decide +kernel
theorem dL_law_273 : decode cL_law 273 = .ok (.ireturn, 1) := by decide +kernel
theorem dL_law_274 : decode cL_law 274 = .ok (.aload_n 1, 1) := by decide +kernel
theorem dL_law_275 : decode cL_law 275 = .ok (.invokevirtual 41, 3) := by decide +kernel
theorem dL_law_278 : decode cL_law 278 = .ok (.aload_n 2, 1) := by decide +kernel
theorem dL_law_279 : decode cL_law 279 = .ok (.invokevirtual 44, 3) := by decide +kernel
theorem dL_law_282 : decode cL_law 282 = .ok (.if_icmp .eq 481, 3) := by decide +kernel
theorem dL_law_285 : decode cL_law 285 = .ok (.iconst 0, 1) := by decide +kernel
theorem dL_law_286 : decode cL_law 286 = .ok (.ireturn, 1) := by decide +kernel
theorem dL_law_287 : decode cL_law 287 = .ok (.aload_n 1, 1) := by decide +kernel
theorem dL_law_288 : decode cL_law 288 = .ok (.aload_n 0, 1) := by decide +kernel
theorem dL_law_289 : decode cL_law 289 = .ok (.iload_n 3, 1) := by decide +kernel
theorem dL_law_290 : decode cL_law 290 = .ok (.iconst 1, 1) := by decide +kernel
theorem dL_law_291 : decode cL_law 291 = .ok (.iadd, 1) := by decide +kernel
theorem dL_law_292 : decode cL_law 292 = .ok (.iaload, 1) := by decide +kernel
theorem dL_law_293 : decode cL_law 293 = .ok (.aload_n 0, 1) := by decide +kernel
theorem dL_law_294 : decode cL_law 294 = .ok (.iload_n 3, 1) := by decide +kernel
theorem dL_law_295 : decode cL_law 295 = .ok (.iconst 2, 1) := by decide +kernel
theorem dL_law_296 : decode cL_law 296 = .ok (.iadd, 1) := by decide +kernel
theorem dL_law_297 : decode cL_law 297 = .ok (.iaload, 1) := by decide +kernel
theorem dL_law_298 : decode cL_law 298 = .ok (.invokevirtual 45, 3) := by decide +kernel
theorem dL_law_301 : decode cL_law 301 = .ok (.aload_n 2, 1) := by decide +kernel
theorem dL_law_302 : decode cL_law 302 = .ok (.aload_n 0, 1) := by decide +kernel
theorem dL_law_303 : decode cL_law 303 = .ok (.iload_n 3, 1) := by decide +kernel
theorem dL_law_304 : decode cL_law 304 = .ok (.iconst 1, 1) := by decide +kernel
theorem dL_law_305 : decode cL_law 305 = .ok (.iadd, 1) := by decide +kernel
theorem dL_law_306 : decode cL_law 306 = .ok (.iaload, 1) := by decide +kernel
theorem dL_law_307 : decode cL_law 307 = .ok (.aload_n 0, 1) := by decide +kernel
theorem dL_law_308 : decode cL_law 308 = .ok (.iload_n 3, 1) := by decide +kernel
theorem dL_law_309 : decode cL_law 309 = .ok (.iconst 2, 1) := by decide +kernel
theorem dL_law_310 : decode cL_law 310 = .ok (.iadd, 1) := by decide +kernel
theorem dL_law_311 : decode cL_law 311 = .ok (.iaload, 1) := by decide +kernel
theorem dL_law_312 : decode cL_law 312 = .ok (.invokevirtual 48, 3) := by decide +kernel
theorem dL_law_315 : decode cL_law 315 = .ok (.if_icmp .eq 448, 3) := by decide +kernel
theorem dL_law_318 : decode cL_law 318 = .ok (.iconst 0, 1) := by decide +kernel
theorem dL_law_319 : decode cL_law 319 = .ok (.ireturn, 1) := by decide +kernel
theorem dL_law_320 : decode cL_law 320 = .ok (.aload_n 1, 1) := by decide +kernel
theorem dL_law_321 : decode cL_law 321 = .ok (.aload_n 0, 1) := by decide +kernel
theorem dL_law_322 : decode cL_law 322 = .ok (.iload_n 3, 1) := by decide +kernel
theorem dL_law_323 : decode cL_law 323 = .ok (.iconst 1, 1) := by decide +kernel
theorem dL_law_324 : decode cL_law 324 = .ok (.iadd, 1) := by decide +kernel
theorem dL_law_325 : decode cL_law 325 = .ok (.iaload, 1) := by decide +kernel
theorem dL_law_326 : decode cL_law 326 = .ok (.aload_n 0, 1) := by decide +kernel
theorem dL_law_327 : decode cL_law 327 = .ok (.iload_n 3, 1) := by decide +kernel
theorem dL_law_328 : decode cL_law 328 = .ok (.iconst 2, 1) := by decide +kernel
theorem dL_law_329 : decode cL_law 329 = .ok (.iadd, 1) := by decide +kernel
theorem dL_law_330 : decode cL_law 330 = .ok (.iaload, 1) := by decide +kernel
theorem dL_law_331 : decode cL_law 331 = .ok (.invokevirtual 49, 3) := by decide +kernel
theorem dL_law_334 : decode cL_law 334 = .ok (.aload_n 2, 1) := by decide +kernel
theorem dL_law_335 : decode cL_law 335 = .ok (.aload_n 0, 1) := by decide +kernel
theorem dL_law_336 : decode cL_law 336 = .ok (.iload_n 3, 1) := by decide +kernel
theorem dL_law_337 : decode cL_law 337 = .ok (.iconst 1, 1) := by decide +kernel
theorem dL_law_338 : decode cL_law 338 = .ok (.iadd, 1) := by decide +kernel
theorem dL_law_339 : decode cL_law 339 = .ok (.iaload, 1) := by decide +kernel
theorem dL_law_340 : decode cL_law 340 = .ok (.aload_n 0, 1) := by decide +kernel
theorem dL_law_341 : decode cL_law 341 = .ok (.iload_n 3, 1) := by decide +kernel
theorem dL_law_342 : decode cL_law 342 = .ok (.iconst 2, 1) := by decide +kernel
theorem dL_law_343 : decode cL_law 343 = .ok (.iadd, 1) := by decide +kernel
theorem dL_law_344 : decode cL_law 344 = .ok (.iaload, 1) := by decide +kernel
theorem dL_law_345 : decode cL_law 345 = .ok (.invokevirtual 52, 3) := by decide +kernel
theorem dL_law_348 : decode cL_law 348 = .ok (.if_icmp .eq 415, 3) := by decide +kernel
theorem dL_law_351 : decode cL_law 351 = .ok (.iconst 0, 1) := by decide +kernel
theorem dL_law_352 : decode cL_law 352 = .ok (.ireturn, 1) := by decide +kernel
theorem dL_law_353 : decode cL_law 353 = .ok (.aload_n 1, 1) := by decide +kernel
theorem dL_law_354 : decode cL_law 354 = .ok (.aload_n 0, 1) := by decide +kernel
theorem dL_law_355 : decode cL_law 355 = .ok (.iload_n 3, 1) := by decide +kernel
theorem dL_law_356 : decode cL_law 356 = .ok (.iconst 1, 1) := by decide +kernel
theorem dL_law_357 : decode cL_law 357 = .ok (.iadd, 1) := by decide +kernel
theorem dL_law_358 : decode cL_law 358 = .ok (.iaload, 1) := by decide +kernel
theorem dL_law_359 : decode cL_law 359 = .ok (.invokevirtual 53, 3) := by decide +kernel
theorem dL_law_362 : decode cL_law 362 = .ok (.aload_n 2, 1) := by decide +kernel
theorem dL_law_363 : decode cL_law 363 = .ok (.aload_n 0, 1) := by decide +kernel
theorem dL_law_364 : decode cL_law 364 = .ok (.iload_n 3, 1) := by decide +kernel
theorem dL_law_365 : decode cL_law 365 = .ok (.iconst 1, 1) := by decide +kernel
theorem dL_law_366 : decode cL_law 366 = .ok (.iadd, 1) := by decide +kernel
theorem dL_law_367 : decode cL_law 367 = .ok (.iaload, 1) := by decide +kernel
theorem dL_law_368 : decode cL_law 368 = .ok (.invokevirtual 56, 3) := by decide +kernel
theorem dL_law_371 : decode cL_law 371 = .ok (.if_icmp .eq 392, 3) := by decide +kernel
theorem dL_law_374 : decode cL_law 374 = .ok (.iconst 0, 1) := by decide +kernel
theorem dL_law_375 : decode cL_law 375 = .ok (.ireturn, 1) := by decide +kernel
theorem dL_law_376 : decode cL_law 376 = .ok (.aload_n 1, 1) := by decide +kernel
theorem dL_law_377 : decode cL_law 377 = .ok (.aload_n 0, 1) := by decide +kernel
theorem dL_law_378 : decode cL_law 378 = .ok (.iload_n 3, 1) := by decide +kernel
theorem dL_law_379 : decode cL_law 379 = .ok (.iconst 1, 1) := by decide +kernel
theorem dL_law_380 : decode cL_law 380 = .ok (.iadd, 1) := by decide +kernel
theorem dL_law_381 : decode cL_law 381 = .ok (.iaload, 1) := by decide +kernel
theorem dL_law_382 : decode cL_law 382 = .ok (.aload_n 0, 1) := by decide +kernel
theorem dL_law_383 : decode cL_law 383 = .ok (.iload_n 3, 1) := by decide +kernel
theorem dL_law_384 : decode cL_law 384 = .ok (.iconst 2, 1) := by decide +kernel
theorem dL_law_385 : decode cL_law 385 = .ok (.iadd, 1) := by decide +kernel
theorem dL_law_386 : decode cL_law 386 = .ok (.iaload, 1) := by decide +kernel
theorem dL_law_387 : decode cL_law 387 = .ok (.invokevirtual 57, 3) := by decide +kernel
theorem dL_law_390 : decode cL_law 390 = .ok (.aload_n 2, 1) := by decide +kernel
theorem dL_law_391 : decode cL_law 391 = .ok (.aload_n 0, 1) := by decide +kernel
theorem dL_law_392 : decode cL_law 392 = .ok (.iload_n 3, 1) := by decide +kernel
theorem dL_law_393 : decode cL_law 393 = .ok (.iconst 1, 1) := by decide +kernel
theorem dL_law_394 : decode cL_law 394 = .ok (.iadd, 1) := by decide +kernel
theorem dL_law_395 : decode cL_law 395 = .ok (.iaload, 1) := by decide +kernel
theorem dL_law_396 : decode cL_law 396 = .ok (.aload_n 0, 1) := by decide +kernel
theorem dL_law_397 : decode cL_law 397 = .ok (.iload_n 3, 1) := by decide +kernel
theorem dL_law_398 : decode cL_law 398 = .ok (.iconst 2, 1) := by decide +kernel
theorem dL_law_399 : decode cL_law 399 = .ok (.iadd, 1) := by decide +kernel
theorem dL_law_400 : decode cL_law 400 = .ok (.iaload, 1) := by decide +kernel
theorem dL_law_401 : decode cL_law 401 = .ok (.invokevirtual 60, 3) := by decide +kernel
theorem dL_law_404 : decode cL_law 404 = .ok (.if_icmp .eq 359, 3) := by decide +kernel
theorem dL_law_407 : decode cL_law 407 = .ok (.iconst 0, 1) := by decide +kernel
theorem dL_law_408 : decode cL_law 408 = .ok (.ireturn, 1) := by decide +kernel
theorem dL_law_409 : decode cL_law 409 = .ok (.aload_n 1, 1) := by decide +kernel
theorem dL_law_410 : decode cL_law 410 = .ok (.aload_n 0, 1) := by decide +kernel
theorem dL_law_411 : decode cL_law 411 = .ok (.iload_n 3, 1) := by decide +kernel
theorem dL_law_412 : decode cL_law 412 = .ok (.iconst 1, 1) := by decide +kernel
theorem dL_law_413 : decode cL_law 413 = .ok (.iadd, 1) := by decide +kernel
theorem dL_law_414 : decode cL_law 414 = .ok (.iaload, 1) := by decide +kernel
theorem dL_law_415 : decode cL_law 415 = .ok (.aload_n 0, 1) := by decide +kernel
theorem dL_law_416 : decode cL_law 416 = .ok (.iload_n 3, 1) := by decide +kernel
theorem dL_law_417 : decode cL_law 417 = .ok (.iconst 2, 1) := by decide +kernel
theorem dL_law_418 : decode cL_law 418 = .ok (.iadd, 1) := by decide +kernel
theorem dL_law_419 : decode cL_law 419 = .ok (.iaload, 1) := by decide +kernel
theorem dL_law_420 : decode cL_law 420 = .ok (.aload_n 0, 1) := by decide +kernel
theorem dL_law_421 : decode cL_law 421 = .ok (.iload_n 3, 1) := by decide +kernel
theorem dL_law_422 : decode cL_law 422 = .ok (.iconst 3, 1) := by decide +kernel
theorem dL_law_423 : decode cL_law 423 = .ok (.iadd, 1) := by decide +kernel
theorem dL_law_424 : decode cL_law 424 = .ok (.iaload, 1) := by decide +kernel
theorem dL_law_425 : decode cL_law 425 = .ok (.invokevirtual 61, 3) := by decide +kernel
theorem dL_law_428 : decode cL_law 428 = .ok (.aload_n 2, 1) := by decide +kernel
theorem dL_law_429 : decode cL_law 429 = .ok (.aload_n 0, 1) := by decide +kernel
theorem dL_law_430 : decode cL_law 430 = .ok (.iload_n 3, 1) := by decide +kernel
theorem dL_law_431 : decode cL_law 431 = .ok (.iconst 1, 1) := by decide +kernel
theorem dL_law_432 : decode cL_law 432 = .ok (.iadd, 1) := by decide +kernel
theorem dL_law_433 : decode cL_law 433 = .ok (.iaload, 1) := by decide +kernel
theorem dL_law_434 : decode cL_law 434 = .ok (.aload_n 0, 1) := by decide +kernel
theorem dL_law_435 : decode cL_law 435 = .ok (.iload_n 3, 1) := by decide +kernel
theorem dL_law_436 : decode cL_law 436 = .ok (.iconst 2, 1) := by decide +kernel
theorem dL_law_437 : decode cL_law 437 = .ok (.iadd, 1) := by decide +kernel
theorem dL_law_438 : decode cL_law 438 = .ok (.iaload, 1) := by decide +kernel
theorem dL_law_439 : decode cL_law 439 = .ok (.aload_n 0, 1) := by decide +kernel
theorem dL_law_440 : decode cL_law 440 = .ok (.iload_n 3, 1) := by decide +kernel
theorem dL_law_441 : decode cL_law 441 = .ok (.iconst 3, 1) := by decide +kernel
theorem dL_law_442 : decode cL_law 442 = .ok (.iadd, 1) := by decide +kernel
theorem dL_law_443 : decode cL_law 443 = .ok (.iaload, 1) := by decide +kernel
theorem dL_law_444 : decode cL_law 444 = .ok (.invokevirtual 64, 3) := by decide +kernel
theorem dL_law_447 : decode cL_law 447 = .ok (.if_icmp .eq 316, 3) := by decide +kernel
theorem dL_law_450 : decode cL_law 450 = .ok (.iconst 0, 1) := by decide +kernel
theorem dL_law_451 : decode cL_law 451 = .ok (.ireturn, 1) := by decide +kernel
theorem dL_law_452 : decode cL_law 452 = .ok (.aload_n 1, 1) := by decide +kernel
theorem dL_law_453 : decode cL_law 453 = .ok (.aload_n 0, 1) := by decide +kernel
theorem dL_law_454 : decode cL_law 454 = .ok (.iload_n 3, 1) := by decide +kernel
theorem dL_law_455 : decode cL_law 455 = .ok (.iconst 1, 1) := by decide +kernel
theorem dL_law_456 : decode cL_law 456 = .ok (.iadd, 1) := by decide +kernel
theorem dL_law_457 : decode cL_law 457 = .ok (.iaload, 1) := by decide +kernel
theorem dL_law_458 : decode cL_law 458 = .ok (.aload_n 0, 1) := by decide +kernel
theorem dL_law_459 : decode cL_law 459 = .ok (.iload_n 3, 1) := by decide +kernel
theorem dL_law_460 : decode cL_law 460 = .ok (.iconst 2, 1) := by decide +kernel
theorem dL_law_461 : decode cL_law 461 = .ok (.iadd, 1) := by decide +kernel
theorem dL_law_462 : decode cL_law 462 = .ok (.iaload, 1) := by decide +kernel
theorem dL_law_463 : decode cL_law 463 = .ok (.aload_n 0, 1) := by decide +kernel
theorem dL_law_464 : decode cL_law 464 = .ok (.iload_n 3, 1) := by decide +kernel
theorem dL_law_465 : decode cL_law 465 = .ok (.iconst 3, 1) := by decide +kernel
theorem dL_law_466 : decode cL_law 466 = .ok (.iadd, 1) := by decide +kernel
theorem dL_law_467 : decode cL_law 467 = .ok (.iaload, 1) := by decide +kernel
theorem dL_law_468 : decode cL_law 468 = .ok (.invokevirtual 65, 3) := by decide +kernel
theorem dL_law_471 : decode cL_law 471 = .ok (.aload_n 2, 1) := by decide +kernel
theorem dL_law_472 : decode cL_law 472 = .ok (.aload_n 0, 1) := by decide +kernel
theorem dL_law_473 : decode cL_law 473 = .ok (.iload_n 3, 1) := by decide +kernel
theorem dL_law_474 : decode cL_law 474 = .ok (.iconst 1, 1) := by decide +kernel
theorem dL_law_475 : decode cL_law 475 = .ok (.iadd, 1) := by decide +kernel
theorem dL_law_476 : decode cL_law 476 = .ok (.iaload, 1) := by decide +kernel
theorem dL_law_477 : decode cL_law 477 = .ok (.aload_n 0, 1) := by decide +kernel
theorem dL_law_478 : decode cL_law 478 = .ok (.iload_n 3, 1) := by decide +kernel
theorem dL_law_479 : decode cL_law 479 = .ok (.iconst 2, 1) := by decide +kernel
theorem dL_law_480 : decode cL_law 480 = .ok (.iadd, 1) := by decide +kernel
theorem dL_law_481 : decode cL_law 481 = .ok (.iaload, 1) := by decide +kernel
theorem dL_law_482 : decode cL_law 482 = .ok (.aload_n 0, 1) := by decide +kernel
theorem dL_law_483 : decode cL_law 483 = .ok (.iload_n 3, 1) := by decide +kernel
theorem dL_law_484 : decode cL_law 484 = .ok (.iconst 3, 1) := by decide +kernel
theorem dL_law_485 : decode cL_law 485 = .ok (.iadd, 1) := by decide +kernel
theorem dL_law_486 : decode cL_law 486 = .ok (.iaload, 1) := by decide +kernel
theorem dL_law_487 : decode cL_law 487 = .ok (.invokevirtual 68, 3) := by decide +kernel
theorem dL_law_490 : decode cL_law 490 = .ok (.if_icmp .eq 273, 3) := by decide +kernel
theorem dL_law_493 : decode cL_law 493 = .ok (.iconst 0, 1) := by decide +kernel
theorem dL_law_494 : decode cL_law 494 = .ok (.ireturn, 1) := by decide +kernel
theorem dL_law_495 : decode cL_law 495 = .ok (.aload_n 1, 1) := by decide +kernel
theorem dL_law_496 : decode cL_law 496 = .ok (.aload_n 0, 1) := by decide +kernel
theorem dL_law_497 : decode cL_law 497 = .ok (.iload_n 3, 1) := by decide +kernel
theorem dL_law_498 : decode cL_law 498 = .ok (.iconst 1, 1) := by decide +kernel
theorem dL_law_499 : decode cL_law 499 = .ok (.iadd, 1) := by decide +kernel
theorem dL_law_500 : decode cL_law 500 = .ok (.iaload, 1) := by decide +kernel
theorem dL_law_501 : decode cL_law 501 = .ok (.aload_n 0, 1) := by decide +kernel
theorem dL_law_502 : decode cL_law 502 = .ok (.iload_n 3, 1) := by decide +kernel
theorem dL_law_503 : decode cL_law 503 = .ok (.iconst 2, 1) := by decide +kernel
theorem dL_law_504 : decode cL_law 504 = .ok (.iadd, 1) := by decide +kernel
theorem dL_law_505 : decode cL_law 505 = .ok (.iaload, 1) := by decide +kernel
theorem dL_law_506 : decode cL_law 506 = .ok (.aload_n 0, 1) := by decide +kernel
theorem dL_law_507 : decode cL_law 507 = .ok (.iload_n 3, 1) := by decide +kernel
theorem dL_law_508 : decode cL_law 508 = .ok (.iconst 3, 1) := by decide +kernel
theorem dL_law_509 : decode cL_law 509 = .ok (.iadd, 1) := by decide +kernel
theorem dL_law_510 : decode cL_law 510 = .ok (.iaload, 1) := by decide +kernel
theorem dL_law_511 : decode cL_law 511 = .ok (.invokevirtual 69, 3) := by decide +kernel
theorem dL_law_514 : decode cL_law 514 = .ok (.aload_n 2, 1) := by decide +kernel
theorem dL_law_515 : decode cL_law 515 = .ok (.aload_n 0, 1) := by decide +kernel
theorem dL_law_516 : decode cL_law 516 = .ok (.iload_n 3, 1) := by decide +kernel
theorem dL_law_517 : decode cL_law 517 = .ok (.iconst 1, 1) := by decide +kernel
theorem dL_law_518 : decode cL_law 518 = .ok (.iadd, 1) := by decide +kernel
theorem dL_law_519 : decode cL_law 519 = .ok (.iaload, 1) := by decide +kernel
theorem dL_law_520 : decode cL_law 520 = .ok (.aload_n 0, 1) := by decide +kernel
theorem dL_law_521 : decode cL_law 521 = .ok (.iload_n 3, 1) := by decide +kernel
theorem dL_law_522 : decode cL_law 522 = .ok (.iconst 2, 1) := by decide +kernel
theorem dL_law_523 : decode cL_law 523 = .ok (.iadd, 1) := by decide +kernel
theorem dL_law_524 : decode cL_law 524 = .ok (.iaload, 1) := by decide +kernel
theorem dL_law_525 : decode cL_law 525 = .ok (.aload_n 0, 1) := by decide +kernel
theorem dL_law_526 : decode cL_law 526 = .ok (.iload_n 3, 1) := by decide +kernel
theorem dL_law_527 : decode cL_law 527 = .ok (.iconst 3, 1) := by decide +kernel
theorem dL_law_528 : decode cL_law 528 = .ok (.iadd, 1) := by decide +kernel
theorem dL_law_529 : decode cL_law 529 = .ok (.iaload, 1) := by decide +kernel
theorem dL_law_530 : decode cL_law 530 = .ok (.invokevirtual 72, 3) := by decide +kernel
theorem dL_law_533 : decode cL_law 533 = .ok (.if_icmp .eq 230, 3) := by decide +kernel
theorem dL_law_536 : decode cL_law 536 = .ok (.iconst 0, 1) := by decide +kernel
theorem dL_law_537 : decode cL_law 537 = .ok (.ireturn, 1) := by decide +kernel
theorem dL_law_538 : decode cL_law 538 = .ok (.aload_n 1, 1) := by decide +kernel
theorem dL_law_539 : decode cL_law 539 = .ok (.aload_n 0, 1) := by decide +kernel
theorem dL_law_540 : decode cL_law 540 = .ok (.iload_n 3, 1) := by decide +kernel
theorem dL_law_541 : decode cL_law 541 = .ok (.iconst 1, 1) := by decide +kernel
theorem dL_law_542 : decode cL_law 542 = .ok (.iadd, 1) := by decide +kernel
theorem dL_law_543 : decode cL_law 543 = .ok (.iaload, 1) := by decide +kernel
theorem dL_law_544 : decode cL_law 544 = .ok (.aload_n 0, 1) := by decide +kernel
theorem dL_law_545 : decode cL_law 545 = .ok (.iload_n 3, 1) := by decide +kernel
theorem dL_law_546 : decode cL_law 546 = .ok (.iconst 2, 1) := by decide +kernel
theorem dL_law_547 : decode cL_law 547 = .ok (.iadd, 1) := by decide +kernel
theorem dL_law_548 : decode cL_law 548 = .ok (.iaload, 1) := by decide +kernel
theorem dL_law_549 : decode cL_law 549 = .ok (.invokevirtual 73, 3) := by decide +kernel
theorem dL_law_552 : decode cL_law 552 = .ok (.aload_n 2, 1) := by decide +kernel
theorem dL_law_553 : decode cL_law 553 = .ok (.aload_n 0, 1) := by decide +kernel
theorem dL_law_554 : decode cL_law 554 = .ok (.iload_n 3, 1) := by decide +kernel
theorem dL_law_555 : decode cL_law 555 = .ok (.iconst 1, 1) := by decide +kernel
theorem dL_law_556 : decode cL_law 556 = .ok (.iadd, 1) := by decide +kernel
theorem dL_law_557 : decode cL_law 557 = .ok (.iaload, 1) := by decide +kernel
theorem dL_law_558 : decode cL_law 558 = .ok (.aload_n 0, 1) := by decide +kernel
theorem dL_law_559 : decode cL_law 559 = .ok (.iload_n 3, 1) := by decide +kernel
theorem dL_law_560 : decode cL_law 560 = .ok (.iconst 2, 1) := by decide +kernel
theorem dL_law_561 : decode cL_law 561 = .ok (.iadd, 1) := by decide +kernel
theorem dL_law_562 : decode cL_law 562 = .ok (.iaload, 1) := by decide +kernel
theorem dL_law_563 : decode cL_law 563 = .ok (.invokevirtual 76, 3) := by decide +kernel
theorem dL_law_566 : decode cL_law 566 = .ok (.if_icmp .eq 197, 3) := by decide +kernel
theorem dL_law_569 : decode cL_law 569 = .ok (.iconst 0, 1) := by decide +kernel
theorem dL_law_570 : decode cL_law 570 = .ok (.ireturn, 1) := by decide +kernel
theorem dL_law_571 : decode cL_law 571 = .ok (.aload_n 1, 1) := by decide +kernel
theorem dL_law_572 : decode cL_law 572 = .ok (.aload_n 0, 1) := by decide +kernel
theorem dL_law_573 : decode cL_law 573 = .ok (.iload_n 3, 1) := by decide +kernel
theorem dL_law_574 : decode cL_law 574 = .ok (.iconst 1, 1) := by decide +kernel
theorem dL_law_575 : decode cL_law 575 = .ok (.iadd, 1) := by decide +kernel
theorem dL_law_576 : decode cL_law 576 = .ok (.iaload, 1) := by decide +kernel
theorem dL_law_577 : decode cL_law 577 = .ok (.aload_n 0, 1) := by decide +kernel
theorem dL_law_578 : decode cL_law 578 = .ok (.iload_n 3, 1) := by decide +kernel
theorem dL_law_579 : decode cL_law 579 = .ok (.iconst 2, 1) := by decide +kernel
theorem dL_law_580 : decode cL_law 580 = .ok (.iadd, 1) := by decide +kernel
theorem dL_law_581 : decode cL_law 581 = .ok (.iaload, 1) := by decide +kernel
theorem dL_law_582 : decode cL_law 582 = .ok (.invokevirtual 77, 3) := by decide +kernel
theorem dL_law_585 : decode cL_law 585 = .ok (.aload_n 2, 1) := by decide +kernel
theorem dL_law_586 : decode cL_law 586 = .ok (.aload_n 0, 1) := by decide +kernel
theorem dL_law_587 : decode cL_law 587 = .ok (.iload_n 3, 1) := by decide +kernel
theorem dL_law_588 : decode cL_law 588 = .ok (.iconst 1, 1) := by decide +kernel
theorem dL_law_589 : decode cL_law 589 = .ok (.iadd, 1) := by decide +kernel
theorem dL_law_590 : decode cL_law 590 = .ok (.iaload, 1) := by decide +kernel
theorem dL_law_591 : decode cL_law 591 = .ok (.aload_n 0, 1) := by decide +kernel
theorem dL_law_592 : decode cL_law 592 = .ok (.iload_n 3, 1) := by decide +kernel
theorem dL_law_593 : decode cL_law 593 = .ok (.iconst 2, 1) := by decide +kernel
theorem dL_law_594 : decode cL_law 594 = .ok (.iadd, 1) := by decide +kernel
theorem dL_law_595 : decode cL_law 595 = .ok (.iaload, 1) := by decide +kernel
theorem dL_law_596 : decode cL_law 596 = .ok (.invokevirtual 80, 3) := by decide +kernel
theorem dL_law_599 : decode cL_law 599 = .ok (.if_icmp .eq 164, 3) := by decide +kernel
theorem dL_law_602 : decode cL_law 602 = .ok (.iconst 0, 1) := by decide +kernel
theorem dL_law_603 : decode cL_law 603 = .ok (.ireturn, 1) := by decide +kernel
theorem dL_law_604 : decode cL_law 604 = .ok (.aload_n 1, 1) := by decide +kernel
theorem dL_law_605 : decode cL_law 605 = .ok (.aload_n 0, 1) := by decide +kernel
theorem dL_law_606 : decode cL_law 606 = .ok (.iload_n 3, 1) := by decide +kernel
theorem dL_law_607 : decode cL_law 607 = .ok (.iconst 1, 1) := by decide +kernel
theorem dL_law_608 : decode cL_law 608 = .ok (.iadd, 1) := by decide +kernel
theorem dL_law_609 : decode cL_law 609 = .ok (.iaload, 1) := by decide +kernel
theorem dL_law_610 : decode cL_law 610 = .ok (.aload_n 0, 1) := by decide +kernel
theorem dL_law_611 : decode cL_law 611 = .ok (.iload_n 3, 1) := by decide +kernel
theorem dL_law_612 : decode cL_law 612 = .ok (.iconst 2, 1) := by decide +kernel
theorem dL_law_613 : decode cL_law 613 = .ok (.iadd, 1) := by decide +kernel
theorem dL_law_614 : decode cL_law 614 = .ok (.iaload, 1) := by decide +kernel
theorem dL_law_615 : decode cL_law 615 = .ok (.invokevirtual 81, 3) := by decide +kernel
theorem dL_law_618 : decode cL_law 618 = .ok (.aload_n 2, 1) := by decide +kernel
theorem dL_law_619 : decode cL_law 619 = .ok (.aload_n 0, 1) := by decide +kernel
theorem dL_law_620 : decode cL_law 620 = .ok (.iload_n 3, 1) := by decide +kernel
theorem dL_law_621 : decode cL_law 621 = .ok (.iconst 1, 1) := by decide +kernel
theorem dL_law_622 : decode cL_law 622 = .ok (.iadd, 1) := by decide +kernel
theorem dL_law_623 : decode cL_law 623 = .ok (.iaload, 1) := by decide +kernel
theorem dL_law_624 : decode cL_law 624 = .ok (.aload_n 0, 1) := by decide +kernel
theorem dL_law_625 : decode cL_law 625 = .ok (.iload_n 3, 1) := by decide +kernel
theorem dL_law_626 : decode cL_law 626 = .ok (.iconst 2, 1) := by decide +kernel
theorem dL_law_627 : decode cL_law 627 = .ok (.iadd, 1) := by decide +kernel
theorem dL_law_628 : decode cL_law 628 = .ok (.iaload, 1) := by decide +kernel
theorem dL_law_629 : decode cL_law 629 = .ok (.invokevirtual 84, 3) := by decide +kernel
theorem dL_law_632 : decode cL_law 632 = .ok (.if_icmp .eq 131, 3) := by decide +kernel
theorem dL_law_635 : decode cL_law 635 = .ok (.iconst 0, 1) := by decide +kernel
theorem dL_law_636 : decode cL_law 636 = .ok (.ireturn, 1) := by decide +kernel
theorem dL_law_637 : decode cL_law 637 = .ok (.aload_n 1, 1) := by decide +kernel
theorem dL_law_638 : decode cL_law 638 = .ok (.aload_n 0, 1) := by decide +kernel
theorem dL_law_639 : decode cL_law 639 = .ok (.iload_n 3, 1) := by decide +kernel
theorem dL_law_640 : decode cL_law 640 = .ok (.iconst 1, 1) := by decide +kernel
theorem dL_law_641 : decode cL_law 641 = .ok (.iadd, 1) := by decide +kernel
theorem dL_law_642 : decode cL_law 642 = .ok (.iaload, 1) := by decide +kernel
theorem dL_law_643 : decode cL_law 643 = .ok (.aload_n 0, 1) := by decide +kernel
theorem dL_law_644 : decode cL_law 644 = .ok (.iload_n 3, 1) := by decide +kernel
theorem dL_law_645 : decode cL_law 645 = .ok (.iconst 2, 1) := by decide +kernel
theorem dL_law_646 : decode cL_law 646 = .ok (.iadd, 1) := by decide +kernel
theorem dL_law_647 : decode cL_law 647 = .ok (.iaload, 1) := by decide +kernel
theorem dL_law_648 : decode cL_law 648 = .ok (.invokevirtual 85, 3) := by decide +kernel
theorem dL_law_651 : decode cL_law 651 = .ok (.aload_n 2, 1) := by decide +kernel
theorem dL_law_652 : decode cL_law 652 = .ok (.aload_n 0, 1) := by decide +kernel
theorem dL_law_653 : decode cL_law 653 = .ok (.iload_n 3, 1) := by decide +kernel
theorem dL_law_654 : decode cL_law 654 = .ok (.iconst 1, 1) := by decide +kernel
theorem dL_law_655 : decode cL_law 655 = .ok (.iadd, 1) := by decide +kernel
theorem dL_law_656 : decode cL_law 656 = .ok (.iaload, 1) := by decide +kernel
theorem dL_law_657 : decode cL_law 657 = .ok (.aload_n 0, 1) := by decide +kernel
theorem dL_law_658 : decode cL_law 658 = .ok (.iload_n 3, 1) := by decide +kernel
theorem dL_law_659 : decode cL_law 659 = .ok (.iconst 2, 1) := by decide +kernel
theorem dL_law_660 : decode cL_law 660 = .ok (.iadd, 1) := by decide +kernel
theorem dL_law_661 : decode cL_law 661 = .ok (.iaload, 1) := by decide +kernel
theorem dL_law_662 : decode cL_law 662 = .ok (.invokevirtual 88, 3) := by decide +kernel
theorem dL_law_665 : decode cL_law 665 = .ok (.if_icmp .eq 98, 3) := by decide +kernel
theorem dL_law_668 : decode cL_law 668 = .ok (.iconst 0, 1) := by decide +kernel
theorem dL_law_669 : decode cL_law 669 = .ok (.ireturn, 1) := by decide +kernel
theorem dL_law_670 : decode cL_law 670 = .ok (.aload_n 1, 1) := by decide +kernel
theorem dL_law_671 : decode cL_law 671 = .ok (.aload_n 0, 1) := by decide +kernel
theorem dL_law_672 : decode cL_law 672 = .ok (.iload_n 3, 1) := by decide +kernel
theorem dL_law_673 : decode cL_law 673 = .ok (.iconst 1, 1) := by decide +kernel
theorem dL_law_674 : decode cL_law 674 = .ok (.iadd, 1) := by decide +kernel
theorem dL_law_675 : decode cL_law 675 = .ok (.iaload, 1) := by decide +kernel
theorem dL_law_676 : decode cL_law 676 = .ok (.aload_n 0, 1) := by decide +kernel
theorem dL_law_677 : decode cL_law 677 = .ok (.iload_n 3, 1) := by decide +kernel
theorem dL_law_678 : decode cL_law 678 = .ok (.iconst 2, 1) := by decide +kernel
theorem dL_law_679 : decode cL_law 679 = .ok (.iadd, 1) := by decide +kernel
theorem dL_law_680 : decode cL_law 680 = .ok (.iaload, 1) := by decide +kernel
theorem dL_law_681 : decode cL_law 681 = .ok (.invokevirtual 89, 3) := by decide +kernel
theorem dL_law_684 : decode cL_law 684 = .ok (.aload_n 2, 1) := by decide +kernel
theorem dL_law_685 : decode cL_law 685 = .ok (.aload_n 0, 1) := by decide +kernel
theorem dL_law_686 : decode cL_law 686 = .ok (.iload_n 3, 1) := by decide +kernel
theorem dL_law_687 : decode cL_law 687 = .ok (.iconst 1, 1) := by decide +kernel
theorem dL_law_688 : decode cL_law 688 = .ok (.iadd, 1) := by decide +kernel
theorem dL_law_689 : decode cL_law 689 = .ok (.iaload, 1) := by decide +kernel
theorem dL_law_690 : decode cL_law 690 = .ok (.aload_n 0, 1) := by decide +kernel
theorem dL_law_691 : decode cL_law 691 = .ok (.iload_n 3, 1) := by decide +kernel
theorem dL_law_692 : decode cL_law 692 = .ok (.iconst 2, 1) := by decide +kernel
theorem dL_law_693 : decode cL_law 693 = .ok (.iadd, 1) := by decide +kernel
theorem dL_law_694 : decode cL_law 694 = .ok (.iaload, 1) := by decide +kernel
theorem dL_law_695 : decode cL_law 695 = .ok (.invokevirtual 92, 3) := by decide +kernel
theorem dL_law_698 : decode cL_law 698 = .ok (.if_icmp .eq 65, 3) := by decide +kernel
theorem dL_law_701 : decode cL_law 701 = .ok (.iconst 0, 1) := by decide +kernel
theorem dL_law_702 : decode cL_law 702 = .ok (.ireturn, 1) := by decide +kernel
theorem dL_law_703 : decode cL_law 703 = .ok (.aload_n 1, 1) := by decide +kernel
theorem dL_law_704 : decode cL_law 704 = .ok (.aload_n 0, 1) := by decide +kernel
theorem dL_law_705 : decode cL_law 705 = .ok (.iload_n 3, 1) := by decide +kernel
theorem dL_law_706 : decode cL_law 706 = .ok (.iconst 1, 1) := by decide +kernel
theorem dL_law_707 : decode cL_law 707 = .ok (.iadd, 1) := by decide +kernel
theorem dL_law_708 : decode cL_law 708 = .ok (.iaload, 1) := by decide +kernel
theorem dL_law_709 : decode cL_law 709 = .ok (.invokevirtual 93, 3) := by decide +kernel
theorem dL_law_712 : decode cL_law 712 = .ok (.aload_n 2, 1) := by decide +kernel
theorem dL_law_713 : decode cL_law 713 = .ok (.aload_n 0, 1) := by decide +kernel
theorem dL_law_714 : decode cL_law 714 = .ok (.iload_n 3, 1) := by decide +kernel
theorem dL_law_715 : decode cL_law 715 = .ok (.iconst 1, 1) := by decide +kernel
theorem dL_law_716 : decode cL_law 716 = .ok (.iadd, 1) := by decide +kernel
theorem dL_law_717 : decode cL_law 717 = .ok (.iaload, 1) := by decide +kernel
theorem dL_law_718 : decode cL_law 718 = .ok (.invokevirtual 96, 3) := by decide +kernel
theorem dL_law_721 : decode cL_law 721 = .ok (.if_icmp .eq 42, 3) := by decide +kernel
theorem dL_law_724 : decode cL_law 724 = .ok (.iconst 0, 1) := by decide +kernel
theorem dL_law_725 : decode cL_law 725 = .ok (.ireturn, 1) := by decide +kernel
theorem dL_law_726 : decode cL_law 726 = .ok (.aload_n 1, 1) := by decide +kernel
theorem dL_law_727 : decode cL_law 727 = .ok (.aload_n 0, 1) := by decide +kernel
theorem dL_law_728 : decode cL_law 728 = .ok (.iload_n 3, 1) := by decide +kernel
theorem dL_law_729 : decode cL_law 729 = .ok (.iconst 1, 1) := by decide +kernel
theorem dL_law_730 : decode cL_law 730 = .ok (.iadd, 1) := by decide +kernel
theorem dL_law_731 : decode cL_law 731 = .ok (.iaload, 1) := by decide +kernel
theorem dL_law_732 : decode cL_law 732 = .ok (.invokevirtual 97, 3) := by decide +kernel
theorem dL_law_735 : decode cL_law 735 = .ok (.aload_n 2, 1) := by decide +kernel
theorem dL_law_736 : decode cL_law 736 = .ok (.aload_n 0, 1) := by decide +kernel
theorem dL_law_737 : decode cL_law 737 = .ok (.iload_n 3, 1) := by decide +kernel
theorem dL_law_738 : decode cL_law 738 = .ok (.iconst 1, 1) := by decide +kernel
theorem dL_law_739 : decode cL_law 739 = .ok (.iadd, 1) := by decide +kernel
theorem dL_law_740 : decode cL_law 740 = .ok (.iaload, 1) := by decide +kernel
theorem dL_law_741 : decode cL_law 741 = .ok (.invokevirtual 100, 3) := by decide +kernel
theorem dL_law_744 : decode cL_law 744 = .ok (.if_icmp .eq 19, 3) := by decide +kernel
theorem dL_law_747 : decode cL_law 747 = .ok (.iconst 0, 1) := by decide +kernel
theorem dL_law_748 : decode cL_law 748 = .ok (.ireturn, 1) := by decide +kernel
theorem dL_law_749 : decode cL_law 749 = .ok (.aload_n 1, 1) := by decide +kernel
theorem dL_law_750 : decode cL_law 750 = .ok (.invokevirtual 101, 3) := by decide +kernel
theorem dL_law_753 : decode cL_law 753 = .ok (.aload_n 2, 1) := by decide +kernel
theorem dL_law_754 : decode cL_law 754 = .ok (.invokevirtual 105, 3) := by decide +kernel
theorem dL_law_757 : decode cL_law 757 = .ok (.lcmp, 1) := by decide +kernel
theorem dL_law_758 : decode cL_law 758 = .ok (.ifCond .eq 5, 3) := by decide +kernel
theorem dL_law_761 : decode cL_law 761 = .ok (.iconst 0, 1) := by decide +kernel
theorem dL_law_762 : decode cL_law 762 = .ok (.ireturn, 1) := by decide +kernel
theorem dL_law_763 : decode cL_law 763 = .ok (.iinc 3 4, 3) := by decide +kernel
theorem dL_law_766 : decode cL_law 766 = .ok (.goto (-748), 3) := by decide +kernel
theorem dL_law_769 : decode cL_law 769 = .ok (.iconst 1, 1) := by decide +kernel
theorem dL_law_770 : decode cL_law 770 = .ok (.ireturn, 1) := by decide +kernel
end
section
/-! A world by a layout: cells of objects and of arrays of ints, what they hold in three lists (ints, longs, rows) -/
abbrev gfd : Type := Nat × Nat
abbrev gcl : Type := (Nat × Nat × Bool) ⊕ (Nat × List gfd)
abbrev gS : Type := List Int32 × List Int64 × List (Nat → Int32)
def gval (q : Nat → Nat) (w : gS) (f : gfd) : Value := if f.1 = 0 then .int (w.1.getD f.2 0) else if f.1 = 1 then .ref (q f.2) else .long (w.2.1.getD f.2 0)
def gcell (cI cZ : ClassId) (q : Nat → Nat) (w : gS) (d : gcl) : va_E := match d with
  | .inl a => .inl (if a.2.2 = true then cZ else cI, a.2.1, .inl (w.2.2.getD a.1 (fun _ => 0)))
  | .inr o => .inr (o.1, o.2.map (gval q w))
def gw (cI cZ : ClassId) (lay : List gcl) (q : Nat → Nat) (w : gS) : va_W := lay.zipIdx.map (fun d => (q d.2, gcell cI cZ q w d.1))
theorem gw_get (cI cZ : ClassId) (lay : List gcl) (q : Nat → Nat) (w : gS) (i : Nat) : (gw cI cZ lay q w)[i]? = (lay[i]?).map (fun d => (q i, gcell cI cZ q w d)) := by
  simp [gw, List.getElem?_map, List.getElem?_zipIdx, Option.map_map, Function.comp_def]
theorem gw_len (cI cZ : ClassId) (lay : List gcl) (q : Nat → Nat) (w : gS) : (gw cI cZ lay q w).length = lay.length := by simp [gw]
theorem gw_at {cI cZ : ClassId} {lay : List gcl} {q : Nat → Nat} {w : gS} {i : Nat} {d : gcl} (h : lay[i]? = some d) : (gw cI cZ lay q w)[i]? = some (q i, gcell cI cZ q w d) := by
  rw [gw_get, h]; rfl
/-- which addresses are the world's -/
def gA (lay : List gcl) (q : Nat → Nat) : Nat → Prop := fun a => ∃ i, i < lay.length ∧ q i = a
/-- the addresses are apart -/
def gJ (lay : List gcl) (q : Nat → Nat) : Prop := ∀ i j, i < lay.length → j < lay.length → q i = q j → i = j
theorem gD {cI cZ : ClassId} {lay : List gcl} {q : Nat → Nat} {w : gS} (hq : gJ lay q) : va_D (gA lay q) (gw cI cZ lay q w) := by
  have key : ∀ (i : Nat) (p : Nat × va_E), (gw cI cZ lay q w)[i]? = some p → i < lay.length ∧ q i = p.1 := by
    intro i p h
    have hl : i < (gw cI cZ lay q w).length := (List.getElem?_eq_some_iff.mp h).1
    rw [gw_len] at hl
    rw [gw_at (List.getElem?_eq_getElem hl)] at h
    have h := Option.some.inj h
    exact ⟨hl, by rw [← h]⟩
  refine ⟨fun i j a b hi hj hab => ?_, fun k a hk => ?_⟩
  · obtain ⟨h1, h2⟩ := key i a hi
    obtain ⟨h3, h4⟩ := key j b hj
    exact hq i j h1 h3 (by rw [h2, h4, hab])
  · obtain ⟨h1, h2⟩ := key k a hk
    exact ⟨k, h1, h2⟩
/-- a field (an array's row) stands at one place alone -/
def guB (lay : List gcl) (f : gfd) (i k : Nat) : Bool := lay.zipIdx.all (fun d => match d.1 with
  | .inl _ => true
  | .inr o => o.2.zipIdx.all (fun g => !(g.1 == f) || (d.2 == i && g.2 == k)))
theorem guB_spec {lay : List gcl} {f : gfd} {i k : Nat} (h : guB lay f i k = true) (i' k' c : Nat) (fs : List gfd) (h1 : lay[i']? = some (.inr (c, fs))) (h2 : fs[k']? = some f) : i' = i ∧ k' = k := by
  have m1 : ((.inr (c, fs) : gcl), i') ∈ lay.zipIdx := by
    apply List.mem_of_getElem? (i := i')
    rw [List.getElem?_zipIdx, h1]; simp
  have a1 := List.all_eq_true.mp h _ m1
  have m2 : (f, k') ∈ fs.zipIdx := by
    apply List.mem_of_getElem? (i := k')
    rw [List.getElem?_zipIdx, h2]; simp
  have a2 := List.all_eq_true.mp a1 _ m2
  simpa using a2
def gaB (lay : List gcl) (k i : Nat) : Bool := lay.zipIdx.all (fun d => match d.1 with
  | .inl a => !(a.1 == k) || d.2 == i
  | .inr _ => true)
theorem gaB_spec {lay : List gcl} {i k : Nat} (h : gaB lay k i = true) (i' n : Nat) (b : Bool) (h1 : lay[i']? = some (.inl (k, n, b))) : i' = i := by
  have m1 : ((.inl (k, n, b) : gcl), i') ∈ lay.zipIdx := by
    apply List.mem_of_getElem? (i := i')
    rw [List.getElem?_zipIdx, h1]; simp
  have a1 := List.all_eq_true.mp h _ m1
  simpa using a1
/-- two worlds that differ at most in one cell -/
theorem gw_set {cI cZ : ClassId} {lay : List gcl} {q : Nat → Nat} {w w' : gS} {i : Nat} {d : gcl} {e : va_E} (hi : lay[i]? = some d) (he : e = gcell cI cZ q w' d) (ho : ∀ n d', lay[n]? = some d' → n ≠ i → gcell cI cZ q w d' = gcell cI cZ q w' d') :
    (gw cI cZ lay q w).set i (q i, e) = gw cI cZ lay q w' := by
  apply List.ext_getElem?
  intro n
  rw [List.getElem?_set, gw_get, gw_get, gw_len]
  have hl : i < lay.length := (List.getElem?_eq_some_iff.mp hi).1
  by_cases hn : i = n
  · subst hn
    rw [if_pos rfl, if_pos hl, hi, he]
    rfl
  · rw [if_neg hn]
    cases hd : lay[n]? with
    | none => rfl
    | some d' =>
      show some (q n, gcell cI cZ q w d') = some (q n, gcell cI cZ q w' d')
      rw [ho n d' hd (Ne.symm hn)]
theorem gval_setI {q : Nat → Nat} {w : gS} {j : Nat} {x : Int32} {f : gfd} (h : f ≠ (0, j)) : gval q (w.1.set j x, w.2) f = gval q w f := by
  obtain ⟨a, b⟩ := f
  unfold gval
  by_cases ha : a = 0
  · subst ha
    have hb : b ≠ j := fun e => h (by rw [e])
    simp [List.getElem?_set, Ne.symm hb]
  · simp [ha]
theorem gval_setJ {q : Nat → Nat} {w : gS} {j : Nat} {x : Int64} {f : gfd} (h : f ≠ (2, j)) (h2 : f.1 ≤ 2) : gval q (w.1, w.2.1.set j x, w.2.2) f = gval q w f := by
  obtain ⟨a, b⟩ := f
  unfold gval
  by_cases ha : a = 0
  · simp [ha]
  · by_cases hb : a = 1
    · simp [hb]
    · have hc : a = 2 := by have : a ≤ 2 := h2; omega
      subst hc
      have hb : b ≠ j := fun e => h (by rw [e])
      simp [List.getElem?_set, Ne.symm hb]
theorem gw_setI {cI cZ : ClassId} {lay : List gcl} {q : Nat → Nat} {w : gS} {i k j ci : Nat} {fs : List gfd} {x : Int32} (hi : lay[i]? = some (.inr (ci, fs))) (hk : fs[k]? = some (0, j)) (hu : guB lay (0, j) i k = true) (hj : j < w.1.length) :
    (gw cI cZ lay q w).set i (q i, .inr (ci, (fs.map (gval q w)).set k (.int x))) = gw cI cZ lay q (w.1.set j x, w.2) := by
  refine gw_set hi ?_ (fun n d' hn hne => ?_)
  · show Sum.inr (ci, (fs.map (gval q w)).set k (.int x)) = Sum.inr (ci, fs.map (gval q (w.1.set j x, w.2)))
    congr 2
    apply List.ext_getElem?
    intro k'
    rw [List.getElem?_set, List.getElem?_map, List.getElem?_map, List.length_map]
    have hl : k < fs.length := (List.getElem?_eq_some_iff.mp hk).1
    by_cases hkk : k = k'
    · subst hkk
      rw [if_pos rfl, if_pos hl, hk]
      simp [gval, hj]
    · rw [if_neg hkk]
      cases hf : fs[k']? with
      | none => rfl
      | some f =>
        show some (gval q w f) = some (gval q (w.1.set j x, w.2) f)
        rw [gval_setI (fun e => hkk (guB_spec hu i k' ci fs hi (e ▸ hf)).2.symm)]
  · cases d' with
    | inl a => rfl
    | inr o =>
      obtain ⟨c', fs'⟩ := o
      show Sum.inr (c', fs'.map (gval q w)) = Sum.inr (c', fs'.map (gval q (w.1.set j x, w.2)))
      congr 2
      apply List.map_congr_left
      intro f hf
      obtain ⟨k', hk'⟩ := List.getElem?_of_mem hf
      exact (gval_setI (fun e => hne (guB_spec hu n k' c' fs' hn (e ▸ hk')).1)).symm
/-- the fields' kinds are three -/
def gkB (lay : List gcl) : Bool := lay.all (fun d => match d with
  | .inl _ => true
  | .inr o => o.2.all (fun g => decide (g.1 ≤ 2)))
theorem gkB_spec {lay : List gcl} (h : gkB lay = true) {i c : Nat} {fs : List gfd} (h1 : lay[i]? = some (.inr (c, fs))) {f : gfd} (hf : f ∈ fs) : f.1 ≤ 2 := by
  have a1 := List.all_eq_true.mp h _ (List.mem_of_getElem? h1)
  have a2 := List.all_eq_true.mp a1 _ hf
  simpa using a2
theorem gw_setJ {cI cZ : ClassId} {lay : List gcl} {q : Nat → Nat} {w : gS} {i k j ci : Nat} {fs : List gfd} {x : Int64} (hi : lay[i]? = some (.inr (ci, fs))) (hk : fs[k]? = some (2, j)) (hu : guB lay (2, j) i k = true) (hg : gkB lay = true) (hj : j < w.2.1.length) :
    (gw cI cZ lay q w).set i (q i, .inr (ci, (fs.map (gval q w)).set k (.long x))) = gw cI cZ lay q (w.1, w.2.1.set j x, w.2.2) := by
  refine gw_set hi ?_ (fun n d' hn hne => ?_)
  · show Sum.inr (ci, (fs.map (gval q w)).set k (.long x)) = Sum.inr (ci, fs.map (gval q (w.1, w.2.1.set j x, w.2.2)))
    congr 2
    apply List.ext_getElem?
    intro k'
    rw [List.getElem?_set, List.getElem?_map, List.getElem?_map, List.length_map]
    have hl : k < fs.length := (List.getElem?_eq_some_iff.mp hk).1
    by_cases hkk : k = k'
    · subst hkk
      rw [if_pos rfl, if_pos hl, hk]
      simp [gval, hj]
    · rw [if_neg hkk]
      cases hf : fs[k']? with
      | none => rfl
      | some f =>
        show some (gval q w f) = some (gval q (w.1, w.2.1.set j x, w.2.2) f)
        rw [gval_setJ (fun e => hkk (guB_spec hu i k' ci fs hi (e ▸ hf)).2.symm) (gkB_spec hg hi (List.mem_of_getElem? hf))]
  · cases d' with
    | inl a => rfl
    | inr o =>
      obtain ⟨c', fs'⟩ := o
      show Sum.inr (c', fs'.map (gval q w)) = Sum.inr (c', fs'.map (gval q (w.1, w.2.1.set j x, w.2.2)))
      congr 2
      apply List.map_congr_left
      intro f hf
      obtain ⟨k', hk'⟩ := List.getElem?_of_mem hf
      exact (gval_setJ (fun e => hne (guB_spec hu n k' c' fs' hn (e ▸ hk')).1) (gkB_spec hg hn hf)).symm
theorem gw_setA {cI cZ : ClassId} {lay : List gcl} {q : Nat → Nat} {w : gS} {i k n : Nat} {b : Bool} {f : Nat → Int32} (hi : lay[i]? = some (.inl (k, n, b))) (hu : gaB lay k i = true) (hk : k < w.2.2.length) :
    (gw cI cZ lay q w).set i (q i, .inl (if b = true then cZ else cI, n, .inl f)) = gw cI cZ lay q (w.1, w.2.1, w.2.2.set k f) := by
  refine gw_set hi ?_ (fun n' d' hn hne => ?_)
  · show Sum.inl (if b = true then cZ else cI, n, Sum.inl f) = Sum.inl (if b = true then cZ else cI, n, Sum.inl ((w.2.2.set k f).getD k (fun _ => 0)))
    simp [hk]
  · cases d' with
    | inl a =>
      obtain ⟨k', n'', b'⟩ := a
      show Sum.inl (if b' = true then cZ else cI, n'', Sum.inl (w.2.2.getD k' (fun _ => 0))) = Sum.inl (if b' = true then cZ else cI, n'', Sum.inl ((w.2.2.set k f).getD k' (fun _ => 0)))
      have hkk : k ≠ k' := fun e => hne (gaB_spec hu n' n'' b' (by rw [e]; exact hn))
      simp [List.getElem?_set, hkk]
    | inr o => rfl
/-! The words that every method here has: all good ones of the tables -/
def gtbl : List Cond := lw_tbl.filter goodWord
theorem tbM {w : Cond} (h : w ∈ lw_tbl) (g : goodWord w = true) : w ∈ gtbl := List.mem_filter.mpr ⟨h, g⟩
theorem tbG {w : Cond} (h : w ∈ gtbl) : goodWord w = true := (List.mem_filter.mp h).2
theorem tbT {w : Cond} (i : Nat) (h : tables_1[i]? = some w) (g : goodWord w = true) : w ∈ gtbl := tbM (List.mem_append_right _ (List.mem_of_getElem? h)) g
theorem tbS {w : Cond} (i : Nat) (h : (k2_sels lw_privs)[i]? = some w) (g : goodWord w = true) : w ∈ gtbl := tbM (List.mem_append_left _ (List.mem_of_getElem? h)) g
theorem tbI {y y' : MethodName} {c c' : ByteArray} {n n' : Nat} {r r' : Option FieldType} (h : Cond.code y' c' n' r' ∈ gtbl) : GoodIn (Cond.code y c n r :: gtbl) (Cond.code y' c' n' r' :: gtbl) := by
  intro w hw
  have hm : w ∈ gtbl := by
    rcases List.mem_cons.mp hw with rfl | h1
    · exact h
    · exact h1
  exact ⟨List.mem_cons_of_mem _ hm, good_of_word (tbG hm)⟩
theorem tbI' {y' : MethodName} {c' : ByteArray} {n' : Nat} {r' : Option FieldType} (h : Cond.code y' c' n' r' ∈ gtbl) : GoodIn gtbl (Cond.code y' c' n' r' :: gtbl) := by
  intro w hw
  have hm : w ∈ gtbl := by
    rcases List.mem_cons.mp hw with rfl | h1
    · exact h
    · exact h1
  exact ⟨hm, good_of_word (tbG hm)⟩
/-! A class's fields, a field's link, a method's link -/
def FLD (ci : Nat) (C : String) (T : u_T) (N : Nat) (ty0 : Nat → FieldType) : Prop := vwCl[ci]? = some (C, T, N) ∧ (∀ w ∈ u_ws C T N, w ∈ gtbl) ∧ (∀ k, k < N → parseFieldDescriptor (T k).2.2.1 = some (ty0 k)) ∧ ∀ a, a < N → ∀ b, b < N → a ≠ b → (T a).2.1 ≠ (T b).2.1
def FL (own : String) (index ci k : Nat) : Prop := ∃ (C : String) (T : u_T) (N : Nat) (ty0 : Nat → FieldType), FLD ci C T N ty0 ∧ k < N ∧ Cond.fieldLink own index (T k).1 (T k).2.1 (T k).2.2.1 ∈ gtbl
def FP (own : String) (index ci k : Nat) (ty : FieldType) : Prop := ∃ (C : String) (T : u_T) (N : Nat) (ty0 : Nat → FieldType), FLD ci C T N ty0 ∧ k < N ∧ Cond.fieldLink own index (T k).1 (T k).2.1 (T k).2.2.1 ∈ gtbl ∧ (T k).2.2.2 = false ∧ ty0 k = ty
def ML (own : String) (index : Nat) (y : MethodName) (bytes : ByteArray) (maxL : Nat) (ret : Option FieldType) (n : Nat) : Prop := Cond.methodLink own index y ∈ gtbl ∧ Cond.instanceMethod y ∈ gtbl ∧ Cond.selects y.cls y y ∈ gtbl ∧ Cond.initialized y.cls ∈ gtbl ∧ Cond.code y bytes maxL ret ∈ gtbl ∧ y.cls ≠ "java/lang/invoke/MethodHandle" ∧ y.cls ≠ "java/lang/invoke/VarHandle" ∧ (parseMethodDescriptor y.desc).map (fun d => d.parameters.length) = some n
def MLs (own : String) (index : Nat) (y : MethodName) (bytes : ByteArray) (maxL : Nat) (ret : Option FieldType) (n : Nat) : Prop := Cond.methodLink own index y ∈ gtbl ∧ Cond.static y ∈ gtbl ∧ Cond.initialized y.cls ∈ gtbl ∧ Cond.code y bytes maxL ret ∈ gtbl ∧ y.cls ≠ "java/lang/invoke/MethodHandle" ∧ y.cls ≠ "java/lang/invoke/VarHandle" ∧ (parseMethodDescriptor y.desc).map (fun d => d.parameters.length) = some n
/-- what the tables say of the classes, of int and boolean arrays, and of the one call among nest mates -/
def GT (D : va_G) (cI cZ : ClassId) (s : State) : Prop := va_K D vwCl [(cI, .int), (cZ, .boolean)] s ∧ va_Nw (.methodLinkNest RX4 57 yX7_isPlace RX7) s
theorem GT.warm {D : va_G} {cI cZ : ClassId} {s U : State} (hW : s.WarmedH U.vm) (h : GT D cI cZ s) : GT D cI cZ U := ⟨va_K.moved hW.alike h.1, va_Nw.warmM hW h.2⟩
theorem GT.calling {D : va_G} {cI cZ : ClassId} {U : State} {g : JFrame} {mk : MethodId} {a : Array Value} (h : GT D cI cZ U) : GT D cI cZ (U.calling g mk a) := ⟨va_K.moved (u := U) (U := U.calling g mk a) (Vm.Alike.refl U.vm) h.1, va_Nw.same (U := U.calling g mk a) rfl rfl h.2⟩
/-- the world at heap H, and that nothing else was written since s -/
def GH (D : va_G) (cI cZ : ClassId) (lay : List gcl) (q : Nat → Nat) (s : State) (w : gS) (H : Heap) (locs : List Loc) : Prop := va_P D vwCl (gw cI cZ lay q w) H ∧ va_S (gA lay q) s.heap H locs
def GPc (D : va_G) (cI cZ : ClassId) (lay : List gcl) (q : Nat → Nat) (av : List Value) (w : gS) : Array Value → State → Prop := va_Pc av (fun U => va_P D vwCl (gw cI cZ lay q w) U.heap ∧ GT D cI cZ U)
def GQc (D : va_G) (cI cZ : ClassId) (lay : List gcl) (q : Nat → Nat) (o : Option Value) (w' : gS) : Array Value → State → Outcome → State → Prop := fun _ st oc t => oc = .returned o ∧ va_P D vwCl (gw cI cZ lay q w') t.heap ∧ va_F (gA lay q) st t
/-- a method's contract: from the world w it answers o and leaves the world w' -/
def GM (l : Launch) (y : MethodName) (cc : ByteArray) (nL : Nat) (ret : Option FieldType) (fr lo : Nat) (D : va_G) (cI cZ : ClassId) (lay : List gcl) (q : Nat → Nat) (av : List Value) (w : gS) (o : Option Value) (w' : gS) : Prop :=
  Met l y (Cond.code y cc nL ret :: gtbl) { frames := fr, cells := 0, slots := 0, locals := lo } (GPc D cI cZ lay q av w) (GQc D cI cZ lay q o w') 0 0 (gA lay q)
theorem GM.intro {l : Launch} {y : MethodName} {cc : ByteArray} {nL : Nat} {ret : Option FieldType} {fr lo : Nat} {D : va_G} {cI cZ : ClassId} {lay : List gcl} {q : Nat → Nat} {av : List Value} {w : gS} {o : Option Value} {w' : gS} (own : String) (hy : plainName y.cls = true) (hC : y.cls = own) (hn : (lg_sl av).length ≤ nL)
    (body : ∀ (p : Program) (e : Env) (s : State) (m : MethodId) (below : List Frame) (meth : Method) (c : Code) (ls : Array Slot), CallFix p m c cc nL s av.toArray gtbl own → meth.sig.returnType = ret → meth.locks = false → GT D cI cZ s → GH D cI cZ lay q s w s.heap [] → lv_has ls nL (lv_args 0 av) →
      W p l e { frames := fr, cells := 0, slots := 0, locals := lo } s m av.toArray below meth c s.heap [] 0 0 (MQ below (GQc D cI cZ lay q o w') av.toArray s 0 0 (gA lay q)) (F0 m 0 ls [])) : GM l y cc nL ret fr lo D cI cZ lay q av w o w' := by
  refine Met.ofW (cc := cc) (maxL := nL) (ret := ret) hy rfl ?_
  intro p e s m args below meth c s₁ B hml hv
  obtain ⟨rfl, hP, hT⟩ := hv
  have hts := atoms_spec (ws := Cond.code y cc nL ret :: gtbl) B.pre
  have hown : s.vm.findClass own = some m.cls := hC ▸ findClass_of_methodNamed B.named
  have hl := lv_entry av hn
  rw [lg_entry_eq]
  exact body p e s m below meth c _ ⟨B.exec, B.bytes, hml, hown, fun w h => hts w (List.mem_cons_of_mem _ h)⟩ B.returns B.notSynchronized hT ⟨hP, va_S.rf⟩ hl
section GR
variable {p : Program} {l : Launch} {e : Env} {R : Room} {s : State} {m : MethodId} {args : Array Value} {below : List Frame} {meth : Method} {c : Code} {H : Heap} {locs : List Loc} {Q : State → Prop}
variable {cc : ByteArray} {pc nL : Nat} {ls : Array Slot} {rest : List Value} {own : String} {D : va_G} {cI cZ : ClassId} {lay : List gcl} {q : Nat → Nat} {w : gS}
theorem g_get (X : CallFix p m c cc nL s args gtbl own) (hT : GT D cI cZ s) (hG : GH D cI cZ lay q s w H locs) {index ci k : Nat} (hF : FL own index ci k) (i : Nat) {fs : List gfd} (hi : lay[i]? = some (.inr (ci, fs))) {f : gfd} (hk : fs[k]? = some f) {v : Value} (hv : gval q w f = v) (hdg : decode cc pc = .ok (.getfield index, 3))
    (kk : W p l e R s m args below meth c H locs 0 0 Q (F0 m (pc + 3) ls (v :: rest))) : W p l e R s m args below meth c H locs 0 0 Q (F0 m pc ls (.ref (q i) :: rest)) := by
  obtain ⟨hx, hb, hml, hown, hts⟩ := X
  obtain ⟨C, T, N, ty0, ⟨h1, h2, h3, h4⟩, h5, h6⟩ := hF
  refine va_get (C := C) (T := T) (N := N) hx hb hts h2 hown hT.1 hG.1 i (gw_at hi) h1 k h5 (hts _ h6) (fun _ h9 => h9) (v := v) ?_ hdg kk
  show (fs.map (gval q w))[k]? = some v
  rw [List.getElem?_map, hk, ← hv]
  rfl
theorem g_putI (X : CallFix p m c cc nL s args gtbl own) (hT : GT D cI cZ s) (hq : gJ lay q) (hG : GH D cI cZ lay q s w H locs) {index ci k : Nat} (hF : FP own index ci k .int) (i : Nat) {fs : List gfd} (hi : lay[i]? = some (.inr (ci, fs))) {j : Nat} (hk : fs[k]? = some (0, j)) (hu : guB lay (0, j) i k = true) (hj : j < w.1.length) {x : Int32} {w' : gS} (hw : (w.1.set j x, w.2) = w') (hdg : decode cc pc = .ok (.putfield index, 3))
    (kk : ∀ (H : Heap) (locs : List Loc), GH D cI cZ lay q s w' H locs → W p l e R s m args below meth c H locs 0 0 Q (F0 m (pc + 3) ls rest)) : W p l e R s m args below meth c H locs 0 0 Q (F0 m pc ls (.int x :: .ref (q i) :: rest)) := by
  obtain ⟨hx, hb, hml, hown, hts⟩ := X
  obtain ⟨C, T, N, ty0, ⟨h1, h2, h3, h4⟩, h5, h6, h7, h8⟩ := hF
  have hl : k < (fs.map (gval q w)).length := by rw [List.length_map]; exact (List.getElem?_eq_some_iff.mp hk).1
  refine va_put (C := C) (T := T) (N := N) (v := .int x) (ty := .int) hx hb hts h2 ty0 h3 h4 hown hT.1 hG.1 (gD hq) hG.2 i (gw_at hi) h1 k h5 (hts _ h6) (fun _ h9 => h9) h7 (by rw [h3 k h5, h8]) rfl rfl hl hdg (fun H1 locs1 hP1 _ hS1 => ?_)
  rw [gw_setI hi hk hu hj, hw] at hP1
  exact kk H1 locs1 ⟨hP1, hS1⟩
theorem g_putJ (X : CallFix p m c cc nL s args gtbl own) (hT : GT D cI cZ s) (hq : gJ lay q) (hG : GH D cI cZ lay q s w H locs) {index ci k : Nat} (hF : FP own index ci k .long) (i : Nat) {fs : List gfd} (hi : lay[i]? = some (.inr (ci, fs))) {j : Nat} (hk : fs[k]? = some (2, j)) (hu : guB lay (2, j) i k = true) (hg : gkB lay = true) (hj : j < w.2.1.length) {x : Int64} {w' : gS} (hw : (w.1, w.2.1.set j x, w.2.2) = w') (hdg : decode cc pc = .ok (.putfield index, 3))
    (kk : ∀ (H : Heap) (locs : List Loc), GH D cI cZ lay q s w' H locs → W p l e R s m args below meth c H locs 0 0 Q (F0 m (pc + 3) ls rest)) : W p l e R s m args below meth c H locs 0 0 Q (F0 m pc ls (.long x :: .ref (q i) :: rest)) := by
  obtain ⟨hx, hb, hml, hown, hts⟩ := X
  obtain ⟨C, T, N, ty0, ⟨h1, h2, h3, h4⟩, h5, h6, h7, h8⟩ := hF
  have hl : k < (fs.map (gval q w)).length := by rw [List.length_map]; exact (List.getElem?_eq_some_iff.mp hk).1
  refine va_put (C := C) (T := T) (N := N) (v := .long x) (ty := .long) hx hb hts h2 ty0 h3 h4 hown hT.1 hG.1 (gD hq) hG.2 i (gw_at hi) h1 k h5 (hts _ h6) (fun _ h9 => h9) h7 (by rw [h3 k h5, h8]) rfl rfl hl hdg (fun H1 locs1 hP1 _ hS1 => ?_)
  rw [gw_setJ hi hk hu hg hj, hw] at hP1
  exact kk H1 locs1 ⟨hP1, hS1⟩
theorem g_ald (X : CallFix p m c cc nL s args gtbl own) (hT : GT D cI cZ s) (hG : GH D cI cZ lay q s w H locs) (i : Nat) {k n : Nat} (hi : lay[i]? = some (.inl (k, n, false))) {f : Nat → Int32} (hf : w.2.2.getD k (fun _ => 0) = f) {x : Int32} (hin : vp_in x n) (hdg : decode cc pc = .ok (.iaload, 1))
    (kk : W p l e R s m args below meth c H locs 0 0 Q (F0 m (pc + 1) ls (.int (f x.toNatClampNeg) :: rest))) : W p l e R s m args below meth c H locs 0 0 Q (F0 m pc ls (.int x :: .ref (q i) :: rest)) := by
  obtain ⟨hx, hb, hml, hown, hts⟩ := X
  subst hf
  exact va_iald hx hb hT.1 hG.1 i 0 (gw_at hi) rfl hin hdg kk
theorem g_zald (X : CallFix p m c cc nL s args gtbl own) (hT : GT D cI cZ s) (hG : GH D cI cZ lay q s w H locs) (i : Nat) {k n : Nat} (hi : lay[i]? = some (.inl (k, n, true))) {f : Nat → Int32} (hf : w.2.2.getD k (fun _ => 0) = f) {x : Int32} (hin : vp_in x n) (hdg : decode cc pc = .ok (.baload, 1))
    (kk : W p l e R s m args below meth c H locs 0 0 Q (F0 m (pc + 1) ls (.int (f x.toNatClampNeg) :: rest))) : W p l e R s m args below meth c H locs 0 0 Q (F0 m pc ls (.int x :: .ref (q i) :: rest)) := by
  obtain ⟨hx, hb, hml, hown, hts⟩ := X
  subst hf
  exact va_zald hx hb hT.1 hG.1 i 1 (gw_at hi) rfl hin hdg kk
theorem g_ast (X : CallFix p m c cc nL s args gtbl own) (hT : GT D cI cZ s) (hq : gJ lay q) (hG : GH D cI cZ lay q s w H locs) (i : Nat) {k n : Nat} (hi : lay[i]? = some (.inl (k, n, false))) (hu : gaB lay k i = true) (hk : k < w.2.2.length) {x y : Int32} (hin : vp_in x n) {w' : gS} (hw : (w.1, w.2.1, w.2.2.set k (upd (w.2.2.getD k (fun _ => 0)) x.toNatClampNeg y)) = w') (hdg : decode cc pc = .ok (.iastore, 1))
    (kk : ∀ (H : Heap) (locs : List Loc), GH D cI cZ lay q s w' H locs → W p l e R s m args below meth c H locs 0 0 Q (F0 m (pc + 1) ls rest)) : W p l e R s m args below meth c H locs 0 0 Q (F0 m pc ls (.int y :: .int x :: .ref (q i) :: rest)) := by
  obtain ⟨hx, hb, hml, hown, hts⟩ := X
  refine va_iast hx hb hT.1 hG.1 (gD hq) hG.2 i 0 (gw_at hi) rfl hin hdg (fun H1 locs1 hP1 _ hS1 => ?_)
  have e := gw_setA (cI := cI) (cZ := cZ) (q := q) (w := w) (f := upd (w.2.2.getD k (fun _ => 0)) x.toNatClampNeg y) hi hu hk
  rw [e, hw] at hP1
  exact kk H1 locs1 ⟨hP1, hS1⟩
theorem g_zast (X : CallFix p m c cc nL s args gtbl own) (hT : GT D cI cZ s) (hq : gJ lay q) (hG : GH D cI cZ lay q s w H locs) (i : Nat) {k n : Nat} (hi : lay[i]? = some (.inl (k, n, true))) (hu : gaB lay k i = true) (hk : k < w.2.2.length) {x y : Int32} (hin : vp_in x n) {w' : gS} (hw : (w.1, w.2.1, w.2.2.set k (upd (w.2.2.getD k (fun _ => 0)) x.toNatClampNeg (vp_nar .boolean y))) = w') (hdg : decode cc pc = .ok (.bastore, 1))
    (kk : ∀ (H : Heap) (locs : List Loc), GH D cI cZ lay q s w' H locs → W p l e R s m args below meth c H locs 0 0 Q (F0 m (pc + 1) ls rest)) : W p l e R s m args below meth c H locs 0 0 Q (F0 m pc ls (.int y :: .int x :: .ref (q i) :: rest)) := by
  obtain ⟨hx, hb, hml, hown, hts⟩ := X
  refine va_zast hx hb hT.1 hG.1 (gD hq) hG.2 i 1 (gw_at hi) rfl hin hdg (fun H1 locs1 hP1 _ hS1 => ?_)
  have e := gw_setA (cI := cI) (cZ := cZ) (q := q) (w := w) (f := upd (w.2.2.getD k (fun _ => 0)) x.toNatClampNeg (vp_nar .boolean y)) hi hu hk
  rw [e, hw] at hP1
  exact kk H1 locs1 ⟨hP1, hS1⟩
theorem g_alen (X : CallFix p m c cc nL s args gtbl own) (hT : GT D cI cZ s) (hG : GH D cI cZ lay q s w H locs) (i : Nat) {k n : Nat} (hi : lay[i]? = some (.inl (k, n, false))) {v : Int32} (hv : Int32.ofNat n = v) (hdg : decode cc pc = .ok (.arraylength, 1))
    (kk : W p l e R s m args below meth c H locs 0 0 Q (F0 m (pc + 1) ls (.int v :: rest))) : W p l e R s m args below meth c H locs 0 0 Q (F0 m pc ls (.ref (q i) :: rest)) := by
  obtain ⟨hx, hb, hml, hown, hts⟩ := X
  exact va_alen hx hb hT.1 hG.1 i 0 (gw_at hi) rfl hv hdg kk
/-! ends -/
theorem g_iret {v : Int32} {w' : gS} (X : CallFix p m c cc nL s args gtbl own) (hT : GT D cI cZ s) (hG : GH D cI cZ lay q s w' H locs) (hr : meth.sig.returnType = some .int) (hlk : meth.locks = false) (hdg : decode cc pc = .ok (.ireturn, 1)) :
    W p l e R s m args below meth c H locs 0 0 (MQ below (GQc D cI cZ lay q (some (.int v)) w') args s 0 0 (gA lay q)) (F0 m pc ls [.int v]) :=
  W.iret X.1 X.2.1 hr (fun t ht hW => ⟨rfl, by rw [ht]; exact hG.1, hG.2.F ht⟩) hG.2.2.2 hdg hlk
theorem g_zret {v : Int32} {w' : gS} (X : CallFix p m c cc nL s args gtbl own) (hT : GT D cI cZ s) (hG : GH D cI cZ lay q s w' H locs) (hr : meth.sig.returnType = some .boolean) (hlk : meth.locks = false) (hz : v = 0 ∨ v = 1) (hdg : decode cc pc = .ok (.ireturn, 1)) :
    W p l e R s m args below meth c H locs 0 0 (MQ below (GQc D cI cZ lay q (some (.int v)) w') args s 0 0 (gA lay q)) (F0 m pc ls [.int v]) :=
  W.zret X.1 X.2.1 hr (by rcases hz with rfl | rfl <;> decide) (fun t ht hW => ⟨rfl, by rw [ht]; exact hG.1, hG.2.F ht⟩) hG.2.2.2 hdg hlk
theorem g_lret {v : Int64} {w' : gS} (X : CallFix p m c cc nL s args gtbl own) (hT : GT D cI cZ s) (hG : GH D cI cZ lay q s w' H locs) (hr : meth.sig.returnType = some .long) (hlk : meth.locks = false) (hdg : decode cc pc = .ok (.lreturn, 1)) :
    W p l e R s m args below meth c H locs 0 0 (MQ below (GQc D cI cZ lay q (some (.long v)) w') args s 0 0 (gA lay q)) (F0 m pc ls [.long v]) :=
  W.lret X.1 X.2.1 hr (fun t ht hW => ⟨rfl, by rw [ht]; exact hG.1, hG.2.F ht⟩) hG.2.2.2 hdg hlk
theorem g_vret {w' : gS} (X : CallFix p m c cc nL s args gtbl own) (hT : GT D cI cZ s) (hG : GH D cI cZ lay q s w' H locs) (hr : meth.sig.returnType = none) (hlk : meth.locks = false) (hdg : decode cc pc = .ok (.return_, 1)) :
    W p l e R s m args below meth c H locs 0 0 (MQ below (GQc D cI cZ lay q none w') args s 0 0 (gA lay q)) (F0 m pc ls []) :=
  W.vret X.1 X.2.1 hr (fun t ht hW => ⟨rfl, by rw [ht]; exact hG.1, hG.2.F ht⟩) hG.2.2.2 hdg hlk
/-! calls -/
theorem g_run {st0 : List Value} {a : Array Value} {o : Option Value} {w' : gS} (hr : va_Run p l e R s m args below meth c H locs 0 0 0 0 (F0 m pc ls st0) rest (GQc D cI cZ lay q o w' a) (gA lay q)) (hG : GH D cI cZ lay q s w H locs)
    (kk : ∀ (H : Heap) (locs : List Loc), GH D cI cZ lay q s w' H locs → W p l e R s m args below meth c H locs 0 0 Q (F0 m (pc + 3) ls (o.toList ++ rest))) : W p l e R s m args below meth c H locs 0 0 Q (F0 m pc ls st0) := by
  have hS := hG.2
  intro T hT X
  obtain ⟨v, st₀, t, T', L, h0, X', hL, e1, e2, ⟨hv, hP1, hz, hk⟩, st⟩ := hr T hT X
  cases hv
  rw [h0] at hz hk
  obtain ⟨t2, a1, b1⟩ := kk T'.heap (locs ++ L) ⟨by rw [e1]; exact hP1, Nat.le_trans hS.1 (by rw [e1]; exact hz), fun q' h1 h2 => by rw [e1, hk q' (Nat.lt_of_lt_of_le h1 hS.1) h2]; exact hS.2.1 q' h1 h2, fun q' hq' => by
      rcases List.mem_append.mp hq' with h | h
      · exact hS.2.2 q' h
      · exact hL q' h⟩ T' rfl X'
  exact ⟨t2, st t2 a1, b1⟩
theorem g_blind {D : va_G} {cI cZ : ClassId} {lay : List gcl} {q : Nat → Nat} {av : List Value} {w : gS} : FrameBlind (GPc D cI cZ lay q av w) := fun _ _ _ _ h => ⟨h.1, h.2.1, h.2.2.calling⟩
theorem g_callV {st0 : List Value} {y : MethodName} {bytes : ByteArray} {maxL n fr lo index ci : Nat} {ret : Option FieldType} {o : Option Value} {w' : gS} {fs : List gfd} {r : vw_C} (As rest : List Value) (i : Nat) (X : CallFix p m c cc nL s args gtbl own) (hT : GT D cI cZ s) (hG : GH D cI cZ lay q s w H locs) (hL : ML own index y bytes maxL ret n) (hM : GM l y bytes maxL ret fr lo D cI cZ lay q (.ref (q i) :: As) w o w')
    (hi : lay[i]? = some (.inr (ci, fs))) (hc : vwCl[ci]? = some r) (hy : r.1 = y.cls) (hst : st0 = As.reverse ++ .ref (q i) :: rest) (hn : As.length = n) (hsz : ls.size = nL) (hW : (rest.map fun v => v.category).sum ≤ 8) (hR : fr + 1 ≤ R.frames ∧ 8 + (maxL + 11) + lo ≤ R.locals) (hdg : decode cc pc = .ok (.invokevirtual index, 3))
    (kk : ∀ (H : Heap) (locs : List Loc), GH D cI cZ lay q s w' H locs → W p l e R s m args below meth c H locs 0 0 Q (F0 m (pc + 3) ls (o.toList ++ rest))) : W p l e R s m args below meth c H locs 0 0 Q (F0 m pc ls st0) := by
  obtain ⟨m1, m2, m3, m4, m5, m6, m7, m8⟩ := hL
  have hts := X.2.2.2.2
  refine g_run (a := (Value.ref (q i) :: As).toArray) (rest := rest) (o := o) (w' := w') ?_ hG kk
  refine va_runV (As := As) (rest := rest) (n := n) (C := y.cls) X hM ⟨callB_of n hts (tbI' m5) rfl rfl rfl (hts _ m4) (hts _ m1) ⟨m6, m7, m8⟩ hR, hts _ m2, hts _ m3⟩ ⟨g_blind, ?_, fun U hU hW => ⟨rfl, by rw [hU]; exact hG.1, hT.warm hW⟩⟩ rfl hn hsz hst (lv_room hW) hdg ⟨Nat.zero_le _, Nat.zero_le _⟩
  obtain ⟨cell, a1, a2, a3⟩ := va_recv hT.1 hG.1 hc (gw_at hi)
  exact ⟨cell, a1, a2, by rw [← hy]; exact a3⟩
theorem g_callS {st0 : List Value} {y : MethodName} {bytes : ByteArray} {maxL n fr lo index : Nat} {ret : Option FieldType} {o : Option Value} {w' : gS} (As rest : List Value) (X : CallFix p m c cc nL s args gtbl own) (hT : GT D cI cZ s) (hG : GH D cI cZ lay q s w H locs) (hL : MLs own index y bytes maxL ret n) (hM : GM l y bytes maxL ret fr lo D cI cZ lay q As w o w')
    (hst : st0 = As.reverse ++ rest) (hn : As.length = n) (hsz : ls.size = nL) (hW : (rest.map fun v => v.category).sum ≤ 8) (hR : fr + 1 ≤ R.frames ∧ 8 + (maxL + 11) + lo ≤ R.locals) (hdg : decode cc pc = .ok (.invokestatic index, 3))
    (kk : ∀ (H : Heap) (locs : List Loc), GH D cI cZ lay q s w' H locs → W p l e R s m args below meth c H locs 0 0 Q (F0 m (pc + 3) ls (o.toList ++ rest))) : W p l e R s m args below meth c H locs 0 0 Q (F0 m pc ls st0) := by
  obtain ⟨m1, m2, m4, m5, m6, m7, m8⟩ := hL
  have hts := X.2.2.2.2
  refine g_run (a := As.toArray) (rest := rest) (o := o) (w' := w') ?_ hG kk
  exact va_runS (As := As) (rest := rest) (n := n) X hM ⟨callB_of n hts (tbI' m5) rfl rfl rfl (hts _ m4) (hts _ m1) ⟨m6, m7, m8⟩ hR, hts _ m2⟩ ⟨g_blind, fun U hU hW => ⟨rfl, by rw [hU]; exact hG.1, hT.warm hW⟩⟩ rfl hn hsz hst (lv_room hW) hdg ⟨Nat.zero_le _, Nat.zero_le _⟩
/-- the one static call among nest mates -/
theorem g_callSN {st0 : List Value} {y : MethodName} {bytes : ByteArray} {maxL n fr lo index : Nat} {ret : Option FieldType} {o : Option Value} {w' : gS} {host : String} (As rest : List Value) (X : CallFix p m c cc nL s args gtbl own) (hT : GT D cI cZ s) (hG : GH D cI cZ lay q s w H locs) (hN : va_Nw (.methodLinkNest own index y host) s) (hL : Cond.static y ∈ gtbl ∧ Cond.initialized y.cls ∈ gtbl ∧ Cond.code y bytes maxL ret ∈ gtbl ∧ y.cls ≠ "java/lang/invoke/MethodHandle" ∧ y.cls ≠ "java/lang/invoke/VarHandle" ∧ (parseMethodDescriptor y.desc).map (fun d => d.parameters.length) = some n) (hM : GM l y bytes maxL ret fr lo D cI cZ lay q As w o w')
    (hst : st0 = As.reverse ++ rest) (hn : As.length = n) (hsz : ls.size = nL) (hW : (rest.map fun v => v.category).sum ≤ 8) (hR : fr + 1 ≤ R.frames ∧ 8 + (maxL + 11) + lo ≤ R.locals) (hdg : decode cc pc = .ok (.invokestatic index, 3))
    (kk : ∀ (H : Heap) (locs : List Loc), GH D cI cZ lay q s w' H locs → W p l e R s m args below meth c H locs 0 0 Q (F0 m (pc + 3) ls (o.toList ++ rest))) : W p l e R s m args below meth c H locs 0 0 Q (F0 m pc ls st0) := by
  obtain ⟨m2, m4, m5, m6, m7, m8⟩ := hL
  have hts := X.2.2.2.2
  refine g_run (a := As.toArray) (rest := rest) (o := o) (w' := w') ?_ hG kk
  exact va_runSN (As := As) (rest := rest) (n := n) X hM ⟨va_cnB n hts (tbI' m5) rfl rfl rfl hN (hts _ m4) ⟨m6, m7, m8⟩ hR, hts _ m2, trivial⟩ ⟨g_blind, fun U hU hW => ⟨rfl, by rw [hU]; exact hG.1, hT.warm hW⟩⟩ rfl hn hsz hst (lv_room hW) hdg ⟨Nat.zero_le _, Nat.zero_le _⟩
end GR
/-! What a method computes, as a function that may answer none (an index outside, a divisor 0, no fuel left) -/
def ckin {α : Type} (i : Int32) (n : Nat) (k : Option α) : Option α := if ¬ (i < 0 ∨ n ≤ i.toNatClampNeg) then k else none
theorem ckin_some {α : Type} {i : Int32} {n : Nat} {k : Option α} {o : α} (h : ckin i n k = some o) : vp_in i n ∧ k = some o := by
  unfold ckin at h
  split at h
  · rename_i h1; exact ⟨h1, h⟩
  · cases h
theorem ckin_in {α : Type} {i : Int32} {n : Nat} {k : Option α} (h : vp_in i n) : ckin i n k = k := if_pos h
def ckz {α : Type} (y : Int32) (k : Option α) : Option α := if y = 0 then none else k
theorem ckz_some {α : Type} {y : Int32} {k : Option α} {o : α} (h : ckz y k = some o) : ¬ y = 0 ∧ k = some o := by
  unfold ckz at h
  split at h
  · cases h
  · rename_i h1; exact ⟨h1, h⟩
def ckb {α : Type} (y : Int32) (k : Option α) : Option α := if y = 0 ∨ y = 1 then k else none
theorem ckb_some {α : Type} {y : Int32} {k : Option α} {o : α} (h : ckb y k = some o) : (y = 0 ∨ y = 1) ∧ k = some o := by
  unfold ckb at h
  split at h
  · rename_i h1; exact ⟨h1, h⟩
  · cases h
def ckp {α : Type} (c : Prop) [Decidable c] (k : Option α) : Option α := if c then k else none
theorem ckp_some {α : Type} {c : Prop} [Decidable c] {k : Option α} {o : α} (h : ckp c k = some o) : c ∧ k = some o := by
  unfold ckp at h
  split at h
  · rename_i h1; exact ⟨h1, h⟩
  · cases h
def bd {α β : Type} (x : α) (f : α → β) : β := f x
theorem bd_e {α β : Type} {e v : α} {f : α → Option β} {o : β} (ev : v = e) (h : bd e f = some o) : f v = some o := by rw [ev]; exact h
theorem ite_t {c : Prop} [Decidable c] {α : Type} {a b : Option α} {o : α} (hc : c) (h : (if c then a else b) = some o) : a = some o := by rw [if_pos hc] at h; exact h
theorem ite_f {c : Prop} [Decidable c] {α : Type} {a b : Option α} {o : α} (hc : ¬ c) (h : (if c then a else b) = some o) : b = some o := by rw [if_neg hc] at h; exact h
def bnd1 {α γ : Type} (x : Option α) (f : α → Option γ) : Option γ := x.bind f
def bnd2 {α β γ : Type} (x : Option (α × β)) (f : α → β → Option γ) : Option γ := x.bind fun z => f z.1 z.2
def bnd3 {α β δ γ : Type} (x : Option (α × β × δ)) (f : α → β → δ → Option γ) : Option γ := x.bind fun z => f z.1 z.2.1 z.2.2
def bnd4 {α β δ ε γ : Type} (x : Option (α × β × δ × ε)) (f : α → β → δ → ε → Option γ) : Option γ := x.bind fun z => f z.1 z.2.1 z.2.2.1 z.2.2.2
def bnd5 {α β δ ε ζ γ : Type} (x : Option (α × β × δ × ε × ζ)) (f : α → β → δ → ε → ζ → Option γ) : Option γ := x.bind fun z => f z.1 z.2.1 z.2.2.1 z.2.2.2.1 z.2.2.2.2
def bnd6 {α β δ ε ζ η γ : Type} (x : Option (α × β × δ × ε × ζ × η)) (f : α → β → δ → ε → ζ → η → Option γ) : Option γ := x.bind fun z => f z.1 z.2.1 z.2.2.1 z.2.2.2.1 z.2.2.2.2.1 z.2.2.2.2.2
def bnd7 {α β δ ε ζ η θ γ : Type} (x : Option (α × β × δ × ε × ζ × η × θ)) (f : α → β → δ → ε → ζ → η → θ → Option γ) : Option γ := x.bind fun z => f z.1 z.2.1 z.2.2.1 z.2.2.2.1 z.2.2.2.2.1 z.2.2.2.2.2.1 z.2.2.2.2.2.2
def bnd8 {α β δ ε ζ η θ ι γ : Type} (x : Option (α × β × δ × ε × ζ × η × θ × ι)) (f : α → β → δ → ε → ζ → η → θ → ι → Option γ) : Option γ := x.bind fun z => f z.1 z.2.1 z.2.2.1 z.2.2.2.1 z.2.2.2.2.1 z.2.2.2.2.2.1 z.2.2.2.2.2.2.1 z.2.2.2.2.2.2.2
def bnd9 {α β δ ε ζ η θ ι κ γ : Type} (x : Option (α × β × δ × ε × ζ × η × θ × ι × κ)) (f : α → β → δ → ε → ζ → η → θ → ι → κ → Option γ) : Option γ := x.bind fun z => f z.1 z.2.1 z.2.2.1 z.2.2.2.1 z.2.2.2.2.1 z.2.2.2.2.2.1 z.2.2.2.2.2.2.1 z.2.2.2.2.2.2.2.1 z.2.2.2.2.2.2.2.2
theorem bnd1_some {α γ : Type} {x : Option α} {f : α → Option γ} {o : γ} (h : bnd1 x f = some o) : ∃ a, x = some a ∧ f a = some o := by
  cases x with
  | none => cases h
  | some z => exact ⟨_, rfl, h⟩
theorem bnd2_some {α β γ : Type} {x : Option (α × β)} {f : α → β → Option γ} {o : γ} (h : bnd2 x f = some o) : ∃ a b, x = some (a, b) ∧ f a b = some o := by
  cases x with
  | none => cases h
  | some z => exact ⟨_, _, rfl, h⟩
theorem bnd3_some {α β δ γ : Type} {x : Option (α × β × δ)} {f : α → β → δ → Option γ} {o : γ} (h : bnd3 x f = some o) : ∃ a b d, x = some (a, b, d) ∧ f a b d = some o := by
  cases x with
  | none => cases h
  | some z => exact ⟨_, _, _, rfl, h⟩
theorem bnd4_some {α β δ ε γ : Type} {x : Option (α × β × δ × ε)} {f : α → β → δ → ε → Option γ} {o : γ} (h : bnd4 x f = some o) : ∃ a b d e, x = some (a, b, d, e) ∧ f a b d e = some o := by
  cases x with
  | none => cases h
  | some z => exact ⟨_, _, _, _, rfl, h⟩
theorem bnd5_some {α β δ ε ζ γ : Type} {x : Option (α × β × δ × ε × ζ)} {f : α → β → δ → ε → ζ → Option γ} {o : γ} (h : bnd5 x f = some o) : ∃ a b d e g, x = some (a, b, d, e, g) ∧ f a b d e g = some o := by
  cases x with
  | none => cases h
  | some z => exact ⟨_, _, _, _, _, rfl, h⟩
theorem bnd6_some {α β δ ε ζ η γ : Type} {x : Option (α × β × δ × ε × ζ × η)} {f : α → β → δ → ε → ζ → η → Option γ} {o : γ} (h : bnd6 x f = some o) : ∃ a b d e g i, x = some (a, b, d, e, g, i) ∧ f a b d e g i = some o := by
  cases x with
  | none => cases h
  | some z => exact ⟨_, _, _, _, _, _, rfl, h⟩
theorem bnd7_some {α β δ ε ζ η θ γ : Type} {x : Option (α × β × δ × ε × ζ × η × θ)} {f : α → β → δ → ε → ζ → η → θ → Option γ} {o : γ} (h : bnd7 x f = some o) : ∃ a b d e g i j, x = some (a, b, d, e, g, i, j) ∧ f a b d e g i j = some o := by
  cases x with
  | none => cases h
  | some z => exact ⟨_, _, _, _, _, _, _, rfl, h⟩
theorem bnd8_some {α β δ ε ζ η θ ι γ : Type} {x : Option (α × β × δ × ε × ζ × η × θ × ι)} {f : α → β → δ → ε → ζ → η → θ → ι → Option γ} {o : γ} (h : bnd8 x f = some o) : ∃ a b d e g i j k, x = some (a, b, d, e, g, i, j, k) ∧ f a b d e g i j k = some o := by
  cases x with
  | none => cases h
  | some z => exact ⟨_, _, _, _, _, _, _, _, rfl, h⟩
theorem bnd9_some {α β δ ε ζ η θ ι κ γ : Type} {x : Option (α × β × δ × ε × ζ × η × θ × ι × κ)} {f : α → β → δ → ε → ζ → η → θ → ι → κ → Option γ} {o : γ} (h : bnd9 x f = some o) : ∃ a b d e g i j k m, x = some (a, b, d, e, g, i, j, k, m) ∧ f a b d e g i j k m = some o := by
  cases x with
  | none => cases h
  | some z => exact ⟨_, _, _, _, _, _, _, _, _, rfl, h⟩
/-- a loop: its body goes on with a new state (inl) or leaves (inr); the fuel ends it -/
def lpG {σ ρ : Type} (b : σ → Option (σ ⊕ ρ)) : Nat → σ → Option ρ
  | 0, _ => none
  | n + 1, x => match b x with
    | none => none
    | some (.inl y) => lpG b n y
    | some (.inr o) => some o
theorem lpG_W {σ ρ : Type} {b : σ → Option (σ ⊕ ρ)} {out : ρ} (Wh : σ → Prop) (hs : ∀ (x : σ) (r : σ ⊕ ρ), b x = some r → (∀ y, r = .inl y → Wh y) → (∀ o, r = .inr o → o = out) → Wh x) : ∀ (n : Nat) (x : σ), lpG b n x = some out → Wh x
  | 0, _, h => by cases h
  | n + 1, x, h => by
    unfold lpG at h
    cases hb : b x with
    | none => rw [hb] at h; cases h
    | some r =>
      rw [hb] at h
      refine hs x r hb (fun y hy => ?_) (fun o ho => ?_)
      · subst hy
        exact lpG_W Wh hs n y h
      · subst ho
        exact Option.some.inj h
end
section
theorem tbL {ws : List Cond} (ps : List Nat) (hp : ws = ps.filterMap (fun i => tables_1[i]?)) (h : ws.all goodWord = true) : ∀ w ∈ ws, w ∈ gtbl := by
  intro w hw
  have h1 := List.all_eq_true.mp h w hw
  rw [hp] at hw
  obtain ⟨i, -, hi⟩ := List.mem_filterMap.mp hw
  exact tbT i hi h1
def layM : List gcl := [.inr (8, [(0, 0), (1, 1), (0, 1), (1, 2), (1, 3), (1, 4), (1, 5), (1, 6), (1, 7), (1, 8), (1, 9), (1, 10), (1, 11), (0, 2), (0, 3), (0, 4), (0, 5), (0, 6), (0, 7), (1, 12), (1, 13), (1, 14), (1, 15), (1, 16), (1, 17), (1, 18), (1, 19), (1, 20), (1, 21), (0, 8), (1, 22), (1, 23), (1, 24), (1, 25), (1, 26), (0, 9), (0, 10), (2, 0)]), .inl (0, 60, false), .inl (1, 12, false), .inl (2, 12, false), .inl (3, 12, false), .inl (4, 144, false), .inl (5, 12, false), .inl (6, 12, false), .inl (7, 144, false), .inl (8, 144, false), .inl (9, 144, false), .inl (10, 12, false), .inl (11, 12, false), .inl (12, 12, false), .inl (13, 12, false), .inl (14, 12, true), .inl (15, 144, false), .inl (16, 144, false), .inl (17, 144, true), .inl (18, 12, false), .inl (19, 64, false), .inl (20, 64, false), .inl (21, 64, false), .inl (22, 12, false), .inl (23, 12, false), .inl (24, 144, false), .inl (25, 64, false)]
def layB : List gcl := [.inr (1, [(1, 11)]), .inr (1, [(1, 12)]), .inr (1, [(1, 13)]), .inr (1, [(1, 14)]), .inr (1, [(1, 15)]), .inr (1, [(1, 16)]), .inr (1, [(1, 17)]), .inr (1, [(1, 18)]), .inr (1, [(1, 19)]), .inr (1, [(1, 20)]), .inr (1, [(1, 21)]), .inl (0, 144, false), .inl (1, 144, false), .inl (2, 144, false), .inl (3, 144, false), .inl (4, 144, false), .inl (5, 144, false), .inl (6, 144, false), .inl (7, 144, false), .inl (8, 144, false), .inl (9, 144, false), .inl (10, 144, false), .inr (7, [(1, 23), (1, 24), (1, 25), (1, 26), (1, 27), (1, 28), (0, 0), (0, 1), (0, 2)]), .inr (4, [(1, 29), (0, 3), (1, 30), (1, 31), (1, 32), (0, 4), (0, 5)]), .inr (3, [(0, 6), (1, 33), (1, 34), (1, 35), (1, 0)]), .inr (2, [(0, 7), (1, 1), (1, 2), (1, 36), (1, 37), (1, 38), (1, 39), (1, 3), (1, 4), (1, 5)]), .inr (0, [(1, 6), (1, 7)]), .inr (6, [(1, 8), (1, 9), (1, 40)]), .inr (5, [(1, 41), (1, 42), (1, 10)]), .inl (11, 60, false), .inl (12, 12, false), .inl (13, 12, false), .inl (14, 12, false), .inl (15, 12, false), .inl (16, 12, false), .inl (17, 12, false), .inl (18, 12, false), .inl (19, 12, false), .inl (20, 12, false), .inl (21, 12, false), .inl (22, 12, false), .inl (23, 64, false), .inl (24, 64, false)]
theorem fw_X0 : ∀ w ∈ u_ws RX0 TX0 2, w ∈ gtbl := tbL [156, 158] (by decide +kernel) (by decide +kernel)
theorem fd_X0 : FLD 0 RX0 TX0 2 tyX0 := ⟨rfl, fw_X0, tyX0_ok, nmX0⟩
theorem fw_X1 : ∀ w ∈ u_ws RX1 TX1 1, w ∈ gtbl := tbL [68] (by decide +kernel) (by decide +kernel)
theorem fd_X1 : FLD 1 RX1 TX1 1 tyX1 := ⟨rfl, fw_X1, tyX1_ok, nmX1⟩
theorem fw_X2 : ∀ w ∈ u_ws RX2 TX2 10, w ∈ gtbl := tbL [123, 125, 127, 129, 131, 133, 135, 137, 139, 141] (by decide +kernel) (by decide +kernel)
theorem fd_X2 : FLD 2 RX2 TX2 10 tyX2 := ⟨rfl, fw_X2, tyX2_ok, nmX2⟩
theorem fw_X3 : ∀ w ∈ u_ws RX3 TX3 5, w ∈ gtbl := tbL [87, 89, 91, 93, 95] (by decide +kernel) (by decide +kernel)
theorem fd_X3 : FLD 3 RX3 TX3 5 tyX3 := ⟨rfl, fw_X3, tyX3_ok, nmX3⟩
theorem fw_X4 : ∀ w ∈ u_ws RX4 TX4 7, w ∈ gtbl := tbL [39, 41, 43, 45, 47, 49, 51] (by decide +kernel) (by decide +kernel)
theorem fd_X4 : FLD 4 RX4 TX4 7 tyX4 := ⟨rfl, fw_X4, tyX4_ok, nmX4⟩
theorem fw_X5 : ∀ w ∈ u_ws RX5 TX5 3, w ∈ gtbl := tbL [197, 199, 201] (by decide +kernel) (by decide +kernel)
theorem fd_X5 : FLD 5 RX5 TX5 3 tyX5 := ⟨rfl, fw_X5, tyX5_ok, nmX5⟩
theorem fw_X6 : ∀ w ∈ u_ws RX6 TX6 3, w ∈ gtbl := tbL [174, 176, 178] (by decide +kernel) (by decide +kernel)
theorem fd_X6 : FLD 6 RX6 TX6 3 tyX6 := ⟨rfl, fw_X6, tyX6_ok, nmX6⟩
theorem fw_X7 : ∀ w ∈ u_ws RX7 TX7 9, w ∈ gtbl := tbL [213, 215, 217, 219, 221, 223, 225, 227, 229] (by decide +kernel) (by decide +kernel)
theorem fd_X7 : FLD 7 RX7 TX7 9 tyX7 := ⟨rfl, fw_X7, tyX7_ok, nmX7⟩
theorem fw_X8 : ∀ w ∈ u_ws RX8 TX8 38, w ∈ gtbl := tbL [682, 684, 686, 688, 690, 692, 694, 696, 698, 700, 702, 704, 706, 708, 710, 712, 714, 716, 718, 720, 722, 724, 726, 728, 730, 732, 734, 736, 738, 740, 742, 744, 746, 748, 750, 752, 754, 756] (by decide +kernel) (by decide +kernel)
theorem fd_X8 : FLD 8 RX8 TX8 38 tyX8 := ⟨rfl, fw_X8, tyX8_ok, nmX8⟩
theorem fl_X0_12 : FL RX0 12 0 0 := ⟨RX0, TX0, 2, tyX0, fd_X0, by decide, tbT 152 (by decide +kernel) (by decide +kernel)⟩
theorem fl_X0_18 : FL RX0 18 0 1 := ⟨RX0, TX0, 2, tyX0, fd_X0, by decide, tbT 154 (by decide +kernel) (by decide +kernel)⟩
theorem fl_X0_21 : FL RX0 21 2 0 := ⟨RX2, TX2, 10, tyX2, fd_X2, by decide, tbT 106 (by decide +kernel) (by decide +kernel)⟩
theorem fp_X0_21 : FP RX0 21 2 0 .int := ⟨RX2, TX2, 10, tyX2, fd_X2, by decide, tbT 106 (by decide +kernel) (by decide +kernel), rfl, rfl⟩
theorem fl_X0_27 : FL RX0 27 2 1 := ⟨RX2, TX2, 10, tyX2, fd_X2, by decide, tbT 109 (by decide +kernel) (by decide +kernel)⟩
theorem fl_X1_9 : FL RX1 9 1 0 := ⟨RX1, TX1, 1, tyX1, fd_X1, by decide, tbT 67 (by decide +kernel) (by decide +kernel)⟩
theorem fl_X2_12 : FL RX2 12 2 1 := ⟨RX2, TX2, 10, tyX2, fd_X2, by decide, tbT 108 (by decide +kernel) (by decide +kernel)⟩
theorem fl_X2_18 : FL RX2 18 2 2 := ⟨RX2, TX2, 10, tyX2, fd_X2, by decide, tbT 111 (by decide +kernel) (by decide +kernel)⟩
theorem fl_X2_21 : FL RX2 21 2 3 := ⟨RX2, TX2, 10, tyX2, fd_X2, by decide, tbT 113 (by decide +kernel) (by decide +kernel)⟩
theorem fl_X2_25 : FL RX2 25 2 4 := ⟨RX2, TX2, 10, tyX2, fd_X2, by decide, tbT 115 (by decide +kernel) (by decide +kernel)⟩
theorem fl_X2_28 : FL RX2 28 2 5 := ⟨RX2, TX2, 10, tyX2, fd_X2, by decide, tbT 117 (by decide +kernel) (by decide +kernel)⟩
theorem fl_X2_31 : FL RX2 31 2 6 := ⟨RX2, TX2, 10, tyX2, fd_X2, by decide, tbT 119 (by decide +kernel) (by decide +kernel)⟩
theorem fl_X2_34 : FL RX2 34 2 7 := ⟨RX2, TX2, 10, tyX2, fd_X2, by decide, tbT 120 (by decide +kernel) (by decide +kernel)⟩
theorem fl_X2_37 : FL RX2 37 2 8 := ⟨RX2, TX2, 10, tyX2, fd_X2, by decide, tbT 121 (by decide +kernel) (by decide +kernel)⟩
theorem fl_X2_40 : FL RX2 40 2 9 := ⟨RX2, TX2, 10, tyX2, fd_X2, by decide, tbT 122 (by decide +kernel) (by decide +kernel)⟩
theorem fl_X2_47 : FL RX2 47 2 0 := ⟨RX2, TX2, 10, tyX2, fd_X2, by decide, tbT 107 (by decide +kernel) (by decide +kernel)⟩
theorem fp_X2_47 : FP RX2 47 2 0 .int := ⟨RX2, TX2, 10, tyX2, fd_X2, by decide, tbT 107 (by decide +kernel) (by decide +kernel), rfl, rfl⟩
theorem fl_X2_69 : FL RX2 69 3 0 := ⟨RX3, TX3, 5, tyX3, fd_X3, by decide, tbT 75 (by decide +kernel) (by decide +kernel)⟩
theorem fp_X2_69 : FP RX2 69 3 0 .int := ⟨RX3, TX3, 5, tyX3, fd_X3, by decide, tbT 75 (by decide +kernel) (by decide +kernel), rfl, rfl⟩
theorem fl_X3_9 : FL RX3 9 3 1 := ⟨RX3, TX3, 5, tyX3, fd_X3, by decide, tbT 76 (by decide +kernel) (by decide +kernel)⟩
theorem fl_X3_15 : FL RX3 15 3 2 := ⟨RX3, TX3, 5, tyX3, fd_X3, by decide, tbT 79 (by decide +kernel) (by decide +kernel)⟩
theorem fl_X3_18 : FL RX3 18 3 3 := ⟨RX3, TX3, 5, tyX3, fd_X3, by decide, tbT 82 (by decide +kernel) (by decide +kernel)⟩
theorem fl_X3_24 : FL RX3 24 3 4 := ⟨RX3, TX3, 5, tyX3, fd_X3, by decide, tbT 85 (by decide +kernel) (by decide +kernel)⟩
theorem fl_X3_34 : FL RX3 34 3 0 := ⟨RX3, TX3, 5, tyX3, fd_X3, by decide, tbT 71 (by decide +kernel) (by decide +kernel)⟩
theorem fp_X3_34 : FP RX3 34 3 0 .int := ⟨RX3, TX3, 5, tyX3, fd_X3, by decide, tbT 71 (by decide +kernel) (by decide +kernel), rfl, rfl⟩
theorem fl_X3_38 : FL RX3 38 4 2 := ⟨RX4, TX4, 7, tyX4, fd_X4, by decide, tbT 32 (by decide +kernel) (by decide +kernel)⟩
theorem fl_X3_45 : FL RX3 45 4 3 := ⟨RX4, TX4, 7, tyX4, fd_X4, by decide, tbT 34 (by decide +kernel) (by decide +kernel)⟩
theorem fl_X3_46 : FL RX3 46 4 4 := ⟨RX4, TX4, 7, tyX4, fd_X4, by decide, tbT 36 (by decide +kernel) (by decide +kernel)⟩
theorem fl_X4_9 : FL RX4 9 4 0 := ⟨RX4, TX4, 7, tyX4, fd_X4, by decide, tbT 27 (by decide +kernel) (by decide +kernel)⟩
theorem fl_X4_15 : FL RX4 15 4 2 := ⟨RX4, TX4, 7, tyX4, fd_X4, by decide, tbT 31 (by decide +kernel) (by decide +kernel)⟩
theorem fl_X4_18 : FL RX4 18 4 3 := ⟨RX4, TX4, 7, tyX4, fd_X4, by decide, tbT 33 (by decide +kernel) (by decide +kernel)⟩
theorem fl_X4_21 : FL RX4 21 4 4 := ⟨RX4, TX4, 7, tyX4, fd_X4, by decide, tbT 35 (by decide +kernel) (by decide +kernel)⟩
theorem fl_X4_24 : FL RX4 24 4 1 := ⟨RX4, TX4, 7, tyX4, fd_X4, by decide, tbT 29 (by decide +kernel) (by decide +kernel)⟩
theorem fp_X4_24 : FP RX4 24 4 1 .int := ⟨RX4, TX4, 7, tyX4, fd_X4, by decide, tbT 29 (by decide +kernel) (by decide +kernel), rfl, rfl⟩
theorem fl_X4_28 : FL RX4 28 4 5 := ⟨RX4, TX4, 7, tyX4, fd_X4, by decide, tbT 37 (by decide +kernel) (by decide +kernel)⟩
theorem fp_X4_28 : FP RX4 28 4 5 .int := ⟨RX4, TX4, 7, tyX4, fd_X4, by decide, tbT 37 (by decide +kernel) (by decide +kernel), rfl, rfl⟩
theorem fl_X4_31 : FL RX4 31 4 6 := ⟨RX4, TX4, 7, tyX4, fd_X4, by decide, tbT 38 (by decide +kernel) (by decide +kernel)⟩
theorem fp_X4_31 : FP RX4 31 4 6 .int := ⟨RX4, TX4, 7, tyX4, fd_X4, by decide, tbT 38 (by decide +kernel) (by decide +kernel), rfl, rfl⟩
theorem fl_X5_9 : FL RX5 9 5 0 := ⟨RX5, TX5, 3, tyX5, fd_X5, by decide, tbT 193 (by decide +kernel) (by decide +kernel)⟩
theorem fl_X5_15 : FL RX5 15 5 1 := ⟨RX5, TX5, 3, tyX5, fd_X5, by decide, tbT 195 (by decide +kernel) (by decide +kernel)⟩
theorem fl_X5_21 : FL RX5 21 5 2 := ⟨RX5, TX5, 3, tyX5, fd_X5, by decide, tbT 196 (by decide +kernel) (by decide +kernel)⟩
theorem fl_X5_36 : FL RX5 36 3 0 := ⟨RX3, TX3, 5, tyX3, fd_X3, by decide, tbT 73 (by decide +kernel) (by decide +kernel)⟩
theorem fp_X5_36 : FP RX5 36 3 0 .int := ⟨RX3, TX3, 5, tyX3, fd_X3, by decide, tbT 73 (by decide +kernel) (by decide +kernel), rfl, rfl⟩
theorem fl_X5_46 : FL RX5 46 3 1 := ⟨RX3, TX3, 5, tyX3, fd_X3, by decide, tbT 77 (by decide +kernel) (by decide +kernel)⟩
theorem fl_X5_49 : FL RX5 49 3 2 := ⟨RX3, TX3, 5, tyX3, fd_X3, by decide, tbT 80 (by decide +kernel) (by decide +kernel)⟩
theorem fl_X5_52 : FL RX5 52 3 3 := ⟨RX3, TX3, 5, tyX3, fd_X3, by decide, tbT 83 (by decide +kernel) (by decide +kernel)⟩
theorem fl_X6_12 : FL RX6 12 6 0 := ⟨RX6, TX6, 3, tyX6, fd_X6, by decide, tbT 169 (by decide +kernel) (by decide +kernel)⟩
theorem fl_X6_18 : FL RX6 18 6 1 := ⟨RX6, TX6, 3, tyX6, fd_X6, by decide, tbT 171 (by decide +kernel) (by decide +kernel)⟩
theorem fl_X6_21 : FL RX6 21 6 2 := ⟨RX6, TX6, 3, tyX6, fd_X6, by decide, tbT 172 (by decide +kernel) (by decide +kernel)⟩
theorem fl_X6_31 : FL RX6 31 3 0 := ⟨RX3, TX3, 5, tyX3, fd_X3, by decide, tbT 72 (by decide +kernel) (by decide +kernel)⟩
theorem fp_X6_31 : FP RX6 31 3 0 .int := ⟨RX3, TX3, 5, tyX3, fd_X3, by decide, tbT 72 (by decide +kernel) (by decide +kernel), rfl, rfl⟩
theorem fl_X7_10 : FL RX7 10 7 0 := ⟨RX7, TX7, 9, tyX7, fd_X7, by decide, tbT 204 (by decide +kernel) (by decide +kernel)⟩
theorem fl_X7_19 : FL RX7 19 7 1 := ⟨RX7, TX7, 9, tyX7, fd_X7, by decide, tbT 205 (by decide +kernel) (by decide +kernel)⟩
theorem fl_X7_26 : FL RX7 26 7 2 := ⟨RX7, TX7, 9, tyX7, fd_X7, by decide, tbT 206 (by decide +kernel) (by decide +kernel)⟩
theorem fl_X7_33 : FL RX7 33 7 3 := ⟨RX7, TX7, 9, tyX7, fd_X7, by decide, tbT 207 (by decide +kernel) (by decide +kernel)⟩
theorem fl_X7_40 : FL RX7 40 7 4 := ⟨RX7, TX7, 9, tyX7, fd_X7, by decide, tbT 208 (by decide +kernel) (by decide +kernel)⟩
theorem fl_X7_47 : FL RX7 47 7 5 := ⟨RX7, TX7, 9, tyX7, fd_X7, by decide, tbT 209 (by decide +kernel) (by decide +kernel)⟩
theorem fl_X7_51 : FL RX7 51 4 1 := ⟨RX4, TX4, 7, tyX4, fd_X4, by decide, tbT 30 (by decide +kernel) (by decide +kernel)⟩
theorem fp_X7_51 : FP RX7 51 4 1 .int := ⟨RX4, TX4, 7, tyX4, fd_X4, by decide, tbT 30 (by decide +kernel) (by decide +kernel), rfl, rfl⟩
theorem fl_X7_71 : FL RX7 71 7 6 := ⟨RX7, TX7, 9, tyX7, fd_X7, by decide, tbT 210 (by decide +kernel) (by decide +kernel)⟩
theorem fp_X7_71 : FP RX7 71 7 6 .int := ⟨RX7, TX7, 9, tyX7, fd_X7, by decide, tbT 210 (by decide +kernel) (by decide +kernel), rfl, rfl⟩
theorem fl_X7_81 : FL RX7 81 3 0 := ⟨RX3, TX3, 5, tyX3, fd_X3, by decide, tbT 74 (by decide +kernel) (by decide +kernel)⟩
theorem fp_X7_81 : FP RX7 81 3 0 .int := ⟨RX3, TX3, 5, tyX3, fd_X3, by decide, tbT 74 (by decide +kernel) (by decide +kernel), rfl, rfl⟩
theorem fl_X7_88 : FL RX7 88 3 3 := ⟨RX3, TX3, 5, tyX3, fd_X3, by decide, tbT 84 (by decide +kernel) (by decide +kernel)⟩
theorem fl_X7_102 : FL RX7 102 3 4 := ⟨RX3, TX3, 5, tyX3, fd_X3, by decide, tbT 86 (by decide +kernel) (by decide +kernel)⟩
theorem fl_X7_116 : FL RX7 116 7 8 := ⟨RX7, TX7, 9, tyX7, fd_X7, by decide, tbT 212 (by decide +kernel) (by decide +kernel)⟩
theorem fp_X7_116 : FP RX7 116 7 8 .int := ⟨RX7, TX7, 9, tyX7, fd_X7, by decide, tbT 212 (by decide +kernel) (by decide +kernel), rfl, rfl⟩
theorem fl_X7_125 : FL RX7 125 7 7 := ⟨RX7, TX7, 9, tyX7, fd_X7, by decide, tbT 211 (by decide +kernel) (by decide +kernel)⟩
theorem fp_X7_125 : FP RX7 125 7 7 .int := ⟨RX7, TX7, 9, tyX7, fd_X7, by decide, tbT 211 (by decide +kernel) (by decide +kernel), rfl, rfl⟩
theorem fl_X7_137 : FL RX7 137 6 0 := ⟨RX6, TX6, 3, tyX6, fd_X6, by decide, tbT 170 (by decide +kernel) (by decide +kernel)⟩
theorem fl_X7_143 : FL RX7 143 3 1 := ⟨RX3, TX3, 5, tyX3, fd_X3, by decide, tbT 78 (by decide +kernel) (by decide +kernel)⟩
theorem fl_X7_146 : FL RX7 146 3 2 := ⟨RX3, TX3, 5, tyX3, fd_X3, by decide, tbT 81 (by decide +kernel) (by decide +kernel)⟩
theorem fl_X7_149 : FL RX7 149 2 3 := ⟨RX2, TX2, 10, tyX2, fd_X2, by decide, tbT 114 (by decide +kernel) (by decide +kernel)⟩
theorem fl_X7_156 : FL RX7 156 6 2 := ⟨RX6, TX6, 3, tyX6, fd_X6, by decide, tbT 173 (by decide +kernel) (by decide +kernel)⟩
theorem fl_X7_159 : FL RX7 159 2 4 := ⟨RX2, TX2, 10, tyX2, fd_X2, by decide, tbT 116 (by decide +kernel) (by decide +kernel)⟩
theorem fl_X7_172 : FL RX7 172 2 1 := ⟨RX2, TX2, 10, tyX2, fd_X2, by decide, tbT 110 (by decide +kernel) (by decide +kernel)⟩
theorem fl_X7_175 : FL RX7 175 2 2 := ⟨RX2, TX2, 10, tyX2, fd_X2, by decide, tbT 112 (by decide +kernel) (by decide +kernel)⟩
theorem fl_X7_184 : FL RX7 184 2 5 := ⟨RX2, TX2, 10, tyX2, fd_X2, by decide, tbT 118 (by decide +kernel) (by decide +kernel)⟩
theorem fl_X7_187 : FL RX7 187 0 0 := ⟨RX0, TX0, 2, tyX0, fd_X0, by decide, tbT 153 (by decide +kernel) (by decide +kernel)⟩
theorem fl_X7_193 : FL RX7 193 0 1 := ⟨RX0, TX0, 2, tyX0, fd_X0, by decide, tbT 155 (by decide +kernel) (by decide +kernel)⟩
theorem fl_X7_202 : FL RX7 202 5 0 := ⟨RX5, TX5, 3, tyX5, fd_X5, by decide, tbT 194 (by decide +kernel) (by decide +kernel)⟩
theorem fl_X7_279 : FL RX7 279 4 0 := ⟨RX4, TX4, 7, tyX4, fd_X4, by decide, tbT 28 (by decide +kernel) (by decide +kernel)⟩
theorem fl_X8_7 : FL RX8 7 8 1 := ⟨RX8, TX8, 38, tyX8, fd_X8, by decide, tbT 645 (by decide +kernel) (by decide +kernel)⟩
theorem fl_X8_13 : FL RX8 13 8 3 := ⟨RX8, TX8, 38, tyX8, fd_X8, by decide, tbT 647 (by decide +kernel) (by decide +kernel)⟩
theorem fl_X8_16 : FL RX8 16 8 4 := ⟨RX8, TX8, 38, tyX8, fd_X8, by decide, tbT 648 (by decide +kernel) (by decide +kernel)⟩
theorem fl_X8_19 : FL RX8 19 8 5 := ⟨RX8, TX8, 38, tyX8, fd_X8, by decide, tbT 649 (by decide +kernel) (by decide +kernel)⟩
theorem fl_X8_22 : FL RX8 22 8 6 := ⟨RX8, TX8, 38, tyX8, fd_X8, by decide, tbT 650 (by decide +kernel) (by decide +kernel)⟩
theorem fl_X8_25 : FL RX8 25 8 7 := ⟨RX8, TX8, 38, tyX8, fd_X8, by decide, tbT 651 (by decide +kernel) (by decide +kernel)⟩
theorem fl_X8_28 : FL RX8 28 8 8 := ⟨RX8, TX8, 38, tyX8, fd_X8, by decide, tbT 652 (by decide +kernel) (by decide +kernel)⟩
theorem fl_X8_31 : FL RX8 31 8 9 := ⟨RX8, TX8, 38, tyX8, fd_X8, by decide, tbT 653 (by decide +kernel) (by decide +kernel)⟩
theorem fl_X8_34 : FL RX8 34 8 10 := ⟨RX8, TX8, 38, tyX8, fd_X8, by decide, tbT 654 (by decide +kernel) (by decide +kernel)⟩
theorem fl_X8_37 : FL RX8 37 8 11 := ⟨RX8, TX8, 38, tyX8, fd_X8, by decide, tbT 655 (by decide +kernel) (by decide +kernel)⟩
theorem fl_X8_40 : FL RX8 40 8 12 := ⟨RX8, TX8, 38, tyX8, fd_X8, by decide, tbT 656 (by decide +kernel) (by decide +kernel)⟩
theorem fl_X8_43 : FL RX8 43 8 19 := ⟨RX8, TX8, 38, tyX8, fd_X8, by decide, tbT 663 (by decide +kernel) (by decide +kernel)⟩
theorem fl_X8_46 : FL RX8 46 8 20 := ⟨RX8, TX8, 38, tyX8, fd_X8, by decide, tbT 664 (by decide +kernel) (by decide +kernel)⟩
theorem fl_X8_49 : FL RX8 49 8 21 := ⟨RX8, TX8, 38, tyX8, fd_X8, by decide, tbT 665 (by decide +kernel) (by decide +kernel)⟩
theorem fl_X8_52 : FL RX8 52 8 22 := ⟨RX8, TX8, 38, tyX8, fd_X8, by decide, tbT 666 (by decide +kernel) (by decide +kernel)⟩
theorem fl_X8_56 : FL RX8 56 8 23 := ⟨RX8, TX8, 38, tyX8, fd_X8, by decide, tbT 667 (by decide +kernel) (by decide +kernel)⟩
theorem fl_X8_59 : FL RX8 59 8 24 := ⟨RX8, TX8, 38, tyX8, fd_X8, by decide, tbT 668 (by decide +kernel) (by decide +kernel)⟩
theorem fl_X8_62 : FL RX8 62 8 25 := ⟨RX8, TX8, 38, tyX8, fd_X8, by decide, tbT 669 (by decide +kernel) (by decide +kernel)⟩
theorem fl_X8_65 : FL RX8 65 8 26 := ⟨RX8, TX8, 38, tyX8, fd_X8, by decide, tbT 670 (by decide +kernel) (by decide +kernel)⟩
theorem fl_X8_68 : FL RX8 68 8 27 := ⟨RX8, TX8, 38, tyX8, fd_X8, by decide, tbT 671 (by decide +kernel) (by decide +kernel)⟩
theorem fl_X8_71 : FL RX8 71 8 28 := ⟨RX8, TX8, 38, tyX8, fd_X8, by decide, tbT 672 (by decide +kernel) (by decide +kernel)⟩
theorem fl_X8_74 : FL RX8 74 8 30 := ⟨RX8, TX8, 38, tyX8, fd_X8, by decide, tbT 674 (by decide +kernel) (by decide +kernel)⟩
theorem fl_X8_77 : FL RX8 77 8 31 := ⟨RX8, TX8, 38, tyX8, fd_X8, by decide, tbT 675 (by decide +kernel) (by decide +kernel)⟩
theorem fl_X8_80 : FL RX8 80 8 32 := ⟨RX8, TX8, 38, tyX8, fd_X8, by decide, tbT 676 (by decide +kernel) (by decide +kernel)⟩
theorem fl_X8_83 : FL RX8 83 8 33 := ⟨RX8, TX8, 38, tyX8, fd_X8, by decide, tbT 677 (by decide +kernel) (by decide +kernel)⟩
theorem fl_X8_86 : FL RX8 86 8 34 := ⟨RX8, TX8, 38, tyX8, fd_X8, by decide, tbT 678 (by decide +kernel) (by decide +kernel)⟩
theorem fl_X8_93 : FL RX8 93 8 0 := ⟨RX8, TX8, 38, tyX8, fd_X8, by decide, tbT 644 (by decide +kernel) (by decide +kernel)⟩
theorem fp_X8_93 : FP RX8 93 8 0 .int := ⟨RX8, TX8, 38, tyX8, fd_X8, by decide, tbT 644 (by decide +kernel) (by decide +kernel), rfl, rfl⟩
theorem fl_X8_97 : FL RX8 97 8 16 := ⟨RX8, TX8, 38, tyX8, fd_X8, by decide, tbT 660 (by decide +kernel) (by decide +kernel)⟩
theorem fp_X8_97 : FP RX8 97 8 16 .int := ⟨RX8, TX8, 38, tyX8, fd_X8, by decide, tbT 660 (by decide +kernel) (by decide +kernel), rfl, rfl⟩
theorem fl_X8_100 : FL RX8 100 8 18 := ⟨RX8, TX8, 38, tyX8, fd_X8, by decide, tbT 662 (by decide +kernel) (by decide +kernel)⟩
theorem fp_X8_100 : FP RX8 100 8 18 .int := ⟨RX8, TX8, 38, tyX8, fd_X8, by decide, tbT 662 (by decide +kernel) (by decide +kernel), rfl, rfl⟩
theorem fl_X8_103 : FL RX8 103 8 17 := ⟨RX8, TX8, 38, tyX8, fd_X8, by decide, tbT 661 (by decide +kernel) (by decide +kernel)⟩
theorem fp_X8_103 : FP RX8 103 8 17 .int := ⟨RX8, TX8, 38, tyX8, fd_X8, by decide, tbT 661 (by decide +kernel) (by decide +kernel), rfl, rfl⟩
theorem fl_X8_120 : FL RX8 120 8 2 := ⟨RX8, TX8, 38, tyX8, fd_X8, by decide, tbT 646 (by decide +kernel) (by decide +kernel)⟩
theorem fp_X8_120 : FP RX8 120 8 2 .int := ⟨RX8, TX8, 38, tyX8, fd_X8, by decide, tbT 646 (by decide +kernel) (by decide +kernel), rfl, rfl⟩
theorem fl_X8_129 : FL RX8 129 8 13 := ⟨RX8, TX8, 38, tyX8, fd_X8, by decide, tbT 657 (by decide +kernel) (by decide +kernel)⟩
theorem fp_X8_129 : FP RX8 129 8 13 .int := ⟨RX8, TX8, 38, tyX8, fd_X8, by decide, tbT 657 (by decide +kernel) (by decide +kernel), rfl, rfl⟩
theorem fl_X8_171 : FL RX8 171 8 14 := ⟨RX8, TX8, 38, tyX8, fd_X8, by decide, tbT 658 (by decide +kernel) (by decide +kernel)⟩
theorem fp_X8_171 : FP RX8 171 8 14 .int := ⟨RX8, TX8, 38, tyX8, fd_X8, by decide, tbT 658 (by decide +kernel) (by decide +kernel), rfl, rfl⟩
theorem fl_X8_186 : FL RX8 186 8 15 := ⟨RX8, TX8, 38, tyX8, fd_X8, by decide, tbT 659 (by decide +kernel) (by decide +kernel)⟩
theorem fp_X8_186 : FP RX8 186 8 15 .int := ⟨RX8, TX8, 38, tyX8, fd_X8, by decide, tbT 659 (by decide +kernel) (by decide +kernel), rfl, rfl⟩
theorem fl_X8_198 : FL RX8 198 8 29 := ⟨RX8, TX8, 38, tyX8, fd_X8, by decide, tbT 673 (by decide +kernel) (by decide +kernel)⟩
theorem fp_X8_198 : FP RX8 198 8 29 .int := ⟨RX8, TX8, 38, tyX8, fd_X8, by decide, tbT 673 (by decide +kernel) (by decide +kernel), rfl, rfl⟩
theorem fl_X8_228 : FL RX8 228 8 35 := ⟨RX8, TX8, 38, tyX8, fd_X8, by decide, tbT 679 (by decide +kernel) (by decide +kernel)⟩
theorem fp_X8_228 : FP RX8 228 8 35 .int := ⟨RX8, TX8, 38, tyX8, fd_X8, by decide, tbT 679 (by decide +kernel) (by decide +kernel), rfl, rfl⟩
theorem fl_X8_231 : FL RX8 231 8 36 := ⟨RX8, TX8, 38, tyX8, fd_X8, by decide, tbT 680 (by decide +kernel) (by decide +kernel)⟩
theorem fp_X8_231 : FP RX8 231 8 36 .int := ⟨RX8, TX8, 38, tyX8, fd_X8, by decide, tbT 680 (by decide +kernel) (by decide +kernel), rfl, rfl⟩
theorem fl_X8_258 : FL RX8 258 8 37 := ⟨RX8, TX8, 38, tyX8, fd_X8, by decide, tbT 681 (by decide +kernel) (by decide +kernel)⟩
theorem fp_X8_258 : FP RX8 258 8 37 .long := ⟨RX8, TX8, 38, tyX8, fd_X8, by decide, tbT 681 (by decide +kernel) (by decide +kernel), rfl, rfl⟩
theorem ml_L_13 : ML RL 13 yX7_letter cX7_letter 2 (some .int) 1 := ⟨tbT 232 (by decide +kernel) (by decide +kernel), tbT 233 (by decide +kernel) (by decide +kernel), tbT 234 (by decide +kernel) (by decide +kernel), tbT 1 (by decide +kernel) (by decide +kernel), tbT 235 (by decide +kernel) (by decide +kernel), by decide, by decide, by decide +kernel⟩
theorem ml_L_17 : ML RL 17 yX8_letter cX8_letter 2 (some .int) 1 := ⟨tbT 760 (by decide +kernel) (by decide +kernel), tbT 761 (by decide +kernel) (by decide +kernel), tbT 762 (by decide +kernel) (by decide +kernel), tbT 10 (by decide +kernel) (by decide +kernel), tbT 763 (by decide +kernel) (by decide +kernel), by decide, by decide, by decide +kernel⟩
theorem ml_L_18 : ML RL 18 yX7_blank cX7_blank 2 (some .int) 0 := ⟨tbT 240 (by decide +kernel) (by decide +kernel), tbT 241 (by decide +kernel) (by decide +kernel), tbT 242 (by decide +kernel) (by decide +kernel), tbT 1 (by decide +kernel) (by decide +kernel), tbT 243 (by decide +kernel) (by decide +kernel), by decide, by decide, by decide +kernel⟩
theorem ml_L_22 : ML RL 22 yX8_blank cX8_blank 2 (some .int) 0 := ⟨tbT 767 (by decide +kernel) (by decide +kernel), tbT 768 (by decide +kernel) (by decide +kernel), tbT 769 (by decide +kernel) (by decide +kernel), tbT 10 (by decide +kernel) (by decide +kernel), tbT 770 (by decide +kernel) (by decide +kernel), by decide, by decide, by decide +kernel⟩
theorem ml_L_23 : ML RL 23 yX7_fault cX7_fault 1 (some .int) 0 := ⟨tbT 244 (by decide +kernel) (by decide +kernel), tbT 245 (by decide +kernel) (by decide +kernel), tbT 246 (by decide +kernel) (by decide +kernel), tbT 1 (by decide +kernel) (by decide +kernel), tbT 247 (by decide +kernel) (by decide +kernel), by decide, by decide, by decide +kernel⟩
theorem ml_L_26 : ML RL 26 yX8_fault cX8_fault 1 (some .int) 0 := ⟨tbT 771 (by decide +kernel) (by decide +kernel), tbT 772 (by decide +kernel) (by decide +kernel), tbT 773 (by decide +kernel) (by decide +kernel), tbT 10 (by decide +kernel) (by decide +kernel), tbT 774 (by decide +kernel) (by decide +kernel), by decide, by decide, by decide +kernel⟩
theorem ml_L_27 : ML RL 27 yX7_roads cX7_roads 1 (some .int) 0 := ⟨tbT 279 (by decide +kernel) (by decide +kernel), tbT 280 (by decide +kernel) (by decide +kernel), tbT 281 (by decide +kernel) (by decide +kernel), tbT 1 (by decide +kernel) (by decide +kernel), tbT 282 (by decide +kernel) (by decide +kernel), by decide, by decide, by decide +kernel⟩
theorem ml_L_30 : ML RL 30 yX8_roads cX8_roads 5 (some .int) 0 := ⟨tbT 791 (by decide +kernel) (by decide +kernel), tbT 792 (by decide +kernel) (by decide +kernel), tbT 793 (by decide +kernel) (by decide +kernel), tbT 10 (by decide +kernel) (by decide +kernel), tbT 794 (by decide +kernel) (by decide +kernel), by decide, by decide, by decide +kernel⟩
theorem ml_L_31 : ML RL 31 yX7_stretch cX7_stretch 4 (some .int) 2 := ⟨tbT 432 (by decide +kernel) (by decide +kernel), tbT 433 (by decide +kernel) (by decide +kernel), tbT 434 (by decide +kernel) (by decide +kernel), tbT 1 (by decide +kernel) (by decide +kernel), tbT 435 (by decide +kernel) (by decide +kernel), by decide, by decide, by decide +kernel⟩
theorem ml_L_35 : ML RL 35 yX8_stretch cX8_stretch 4 (some .int) 2 := ⟨tbT 844 (by decide +kernel) (by decide +kernel), tbT 845 (by decide +kernel) (by decide +kernel), tbT 846 (by decide +kernel) (by decide +kernel), tbT 10 (by decide +kernel) (by decide +kernel), tbT 847 (by decide +kernel) (by decide +kernel), by decide, by decide, by decide +kernel⟩
theorem ml_L_36 : ML RL 36 yX7_turn cX7_turn 5 (some .int) 3 := ⟨tbT 448 (by decide +kernel) (by decide +kernel), tbT 449 (by decide +kernel) (by decide +kernel), tbT 450 (by decide +kernel) (by decide +kernel), tbT 1 (by decide +kernel) (by decide +kernel), tbT 451 (by decide +kernel) (by decide +kernel), by decide, by decide, by decide +kernel⟩
theorem ml_L_40 : ML RL 40 yX8_turn cX8_turn 5 (some .int) 3 := ⟨tbT 860 (by decide +kernel) (by decide +kernel), tbT 861 (by decide +kernel) (by decide +kernel), tbT 862 (by decide +kernel) (by decide +kernel), tbT 10 (by decide +kernel) (by decide +kernel), tbT 863 (by decide +kernel) (by decide +kernel), by decide, by decide, by decide +kernel⟩
theorem ml_L_41 : ML RL 41 yX7_rank cX7_rank 1 (some .int) 0 := ⟨tbT 463 (by decide +kernel) (by decide +kernel), tbT 464 (by decide +kernel) (by decide +kernel), tbT 465 (by decide +kernel) (by decide +kernel), tbT 1 (by decide +kernel) (by decide +kernel), tbT 466 (by decide +kernel) (by decide +kernel), by decide, by decide, by decide +kernel⟩
theorem ml_L_44 : ML RL 44 yX8_rank cX8_rank 3 (some .int) 0 := ⟨tbT 872 (by decide +kernel) (by decide +kernel), tbT 873 (by decide +kernel) (by decide +kernel), tbT 874 (by decide +kernel) (by decide +kernel), tbT 10 (by decide +kernel) (by decide +kernel), tbT 875 (by decide +kernel) (by decide +kernel), by decide, by decide, by decide +kernel⟩
theorem ml_L_45 : ML RL 45 yX7_road cX7_road 3 (some .int) 2 := ⟨tbT 476 (by decide +kernel) (by decide +kernel), tbT 477 (by decide +kernel) (by decide +kernel), tbT 478 (by decide +kernel) (by decide +kernel), tbT 1 (by decide +kernel) (by decide +kernel), tbT 479 (by decide +kernel) (by decide +kernel), by decide, by decide, by decide +kernel⟩
theorem ml_L_48 : ML RL 48 yX8_road cX8_road 3 (some .int) 2 := ⟨tbT 876 (by decide +kernel) (by decide +kernel), tbT 877 (by decide +kernel) (by decide +kernel), tbT 878 (by decide +kernel) (by decide +kernel), tbT 10 (by decide +kernel) (by decide +kernel), tbT 879 (by decide +kernel) (by decide +kernel), by decide, by decide, by decide +kernel⟩
theorem ml_L_49 : ML RL 49 yX7_cost cX7_cost 3 (some .int) 2 := ⟨tbT 484 (by decide +kernel) (by decide +kernel), tbT 485 (by decide +kernel) (by decide +kernel), tbT 486 (by decide +kernel) (by decide +kernel), tbT 1 (by decide +kernel) (by decide +kernel), tbT 487 (by decide +kernel) (by decide +kernel), by decide, by decide, by decide +kernel⟩
theorem ml_L_52 : ML RL 52 yX8_cost cX8_cost 3 (some .int) 2 := ⟨tbT 888 (by decide +kernel) (by decide +kernel), tbT 889 (by decide +kernel) (by decide +kernel), tbT 890 (by decide +kernel) (by decide +kernel), tbT 10 (by decide +kernel) (by decide +kernel), tbT 891 (by decide +kernel) (by decide +kernel), by decide, by decide, by decide +kernel⟩
theorem ml_L_53 : ML RL 53 yX7_order cX7_order 2 (some .int) 1 := ⟨tbT 488 (by decide +kernel) (by decide +kernel), tbT 489 (by decide +kernel) (by decide +kernel), tbT 490 (by decide +kernel) (by decide +kernel), tbT 1 (by decide +kernel) (by decide +kernel), tbT 491 (by decide +kernel) (by decide +kernel), by decide, by decide, by decide +kernel⟩
theorem ml_L_56 : ML RL 56 yX8_order cX8_order 2 (some .int) 1 := ⟨tbT 892 (by decide +kernel) (by decide +kernel), tbT 893 (by decide +kernel) (by decide +kernel), tbT 894 (by decide +kernel) (by decide +kernel), tbT 10 (by decide +kernel) (by decide +kernel), tbT 895 (by decide +kernel) (by decide +kernel), by decide, by decide, by decide +kernel⟩
theorem ml_L_57 : ML RL 57 yX7_least cX7_least 3 (some .int) 2 := ⟨tbT 492 (by decide +kernel) (by decide +kernel), tbT 493 (by decide +kernel) (by decide +kernel), tbT 494 (by decide +kernel) (by decide +kernel), tbT 1 (by decide +kernel) (by decide +kernel), tbT 495 (by decide +kernel) (by decide +kernel), by decide, by decide, by decide +kernel⟩
theorem ml_L_60 : ML RL 60 yX8_least cX8_least 3 (some .int) 2 := ⟨tbT 896 (by decide +kernel) (by decide +kernel), tbT 897 (by decide +kernel) (by decide +kernel), tbT 898 (by decide +kernel) (by decide +kernel), tbT 10 (by decide +kernel) (by decide +kernel), tbT 899 (by decide +kernel) (by decide +kernel), by decide, by decide, by decide +kernel⟩
theorem ml_L_61 : ML RL 61 yX7_way cX7_way 4 (some .int) 3 := ⟨tbT 500 (by decide +kernel) (by decide +kernel), tbT 501 (by decide +kernel) (by decide +kernel), tbT 502 (by decide +kernel) (by decide +kernel), tbT 1 (by decide +kernel) (by decide +kernel), tbT 503 (by decide +kernel) (by decide +kernel), by decide, by decide, by decide +kernel⟩
theorem ml_L_64 : ML RL 64 yX8_way cX8_way 7 (some .int) 3 := ⟨tbT 904 (by decide +kernel) (by decide +kernel), tbT 905 (by decide +kernel) (by decide +kernel), tbT 906 (by decide +kernel) (by decide +kernel), tbT 10 (by decide +kernel) (by decide +kernel), tbT 907 (by decide +kernel) (by decide +kernel), by decide, by decide, by decide +kernel⟩
theorem ml_L_65 : ML RL 65 yX7_arc cX7_arc 4 (some .int) 3 := ⟨tbT 508 (by decide +kernel) (by decide +kernel), tbT 509 (by decide +kernel) (by decide +kernel), tbT 510 (by decide +kernel) (by decide +kernel), tbT 1 (by decide +kernel) (by decide +kernel), tbT 511 (by decide +kernel) (by decide +kernel), by decide, by decide, by decide +kernel⟩
theorem ml_L_68 : ML RL 68 yX8_arc cX8_arc 4 (some .int) 3 := ⟨tbT 908 (by decide +kernel) (by decide +kernel), tbT 909 (by decide +kernel) (by decide +kernel), tbT 910 (by decide +kernel) (by decide +kernel), tbT 10 (by decide +kernel) (by decide +kernel), tbT 911 (by decide +kernel) (by decide +kernel), by decide, by decide, by decide +kernel⟩
theorem ml_L_69 : ML RL 69 yX7_unpacked cX7_unpacked 5 (some .int) 3 := ⟨tbT 522 (by decide +kernel) (by decide +kernel), tbT 523 (by decide +kernel) (by decide +kernel), tbT 524 (by decide +kernel) (by decide +kernel), tbT 1 (by decide +kernel) (by decide +kernel), tbT 525 (by decide +kernel) (by decide +kernel), by decide, by decide, by decide +kernel⟩
theorem ml_L_72 : ML RL 72 yX8_unpacked cX8_unpacked 4 (some .int) 3 := ⟨tbT 920 (by decide +kernel) (by decide +kernel), tbT 921 (by decide +kernel) (by decide +kernel), tbT 922 (by decide +kernel) (by decide +kernel), tbT 10 (by decide +kernel) (by decide +kernel), tbT 923 (by decide +kernel) (by decide +kernel), by decide, by decide, by decide +kernel⟩
theorem ml_L_73 : ML RL 73 yX7_up cX7_up 3 (some .int) 2 := ⟨tbT 526 (by decide +kernel) (by decide +kernel), tbT 527 (by decide +kernel) (by decide +kernel), tbT 528 (by decide +kernel) (by decide +kernel), tbT 1 (by decide +kernel) (by decide +kernel), tbT 529 (by decide +kernel) (by decide +kernel), by decide, by decide, by decide +kernel⟩
theorem ml_L_76 : ML RL 76 yX8_up cX8_up 3 (some .int) 2 := ⟨tbT 924 (by decide +kernel) (by decide +kernel), tbT 925 (by decide +kernel) (by decide +kernel), tbT 926 (by decide +kernel) (by decide +kernel), tbT 10 (by decide +kernel) (by decide +kernel), tbT 927 (by decide +kernel) (by decide +kernel), by decide, by decide, by decide +kernel⟩
theorem ml_L_77 : ML RL 77 yX7_down cX7_down 3 (some .int) 2 := ⟨tbT 534 (by decide +kernel) (by decide +kernel), tbT 535 (by decide +kernel) (by decide +kernel), tbT 536 (by decide +kernel) (by decide +kernel), tbT 1 (by decide +kernel) (by decide +kernel), tbT 537 (by decide +kernel) (by decide +kernel), by decide, by decide, by decide +kernel⟩
theorem ml_L_80 : ML RL 80 yX8_down cX8_down 3 (some .int) 2 := ⟨tbT 936 (by decide +kernel) (by decide +kernel), tbT 937 (by decide +kernel) (by decide +kernel), tbT 938 (by decide +kernel) (by decide +kernel), tbT 10 (by decide +kernel) (by decide +kernel), tbT 939 (by decide +kernel) (by decide +kernel), by decide, by decide, by decide +kernel⟩
theorem ml_L_81 : ML RL 81 yX7_meet cX7_meet 3 (some .int) 2 := ⟨tbT 538 (by decide +kernel) (by decide +kernel), tbT 539 (by decide +kernel) (by decide +kernel), tbT 540 (by decide +kernel) (by decide +kernel), tbT 1 (by decide +kernel) (by decide +kernel), tbT 541 (by decide +kernel) (by decide +kernel), by decide, by decide, by decide +kernel⟩
theorem ml_L_84 : ML RL 84 yX8_meet cX8_meet 3 (some .int) 2 := ⟨tbT 940 (by decide +kernel) (by decide +kernel), tbT 941 (by decide +kernel) (by decide +kernel), tbT 942 (by decide +kernel) (by decide +kernel), tbT 10 (by decide +kernel) (by decide +kernel), tbT 943 (by decide +kernel) (by decide +kernel), by decide, by decide, by decide +kernel⟩
theorem ml_L_85 : ML RL 85 yX7_route cX7_route 3 (some .int) 2 := ⟨tbT 546 (by decide +kernel) (by decide +kernel), tbT 547 (by decide +kernel) (by decide +kernel), tbT 548 (by decide +kernel) (by decide +kernel), tbT 1 (by decide +kernel) (by decide +kernel), tbT 549 (by decide +kernel) (by decide +kernel), by decide, by decide, by decide +kernel⟩
theorem ml_L_88 : ML RL 88 yX8_route cX8_route 3 (some .int) 2 := ⟨tbT 948 (by decide +kernel) (by decide +kernel), tbT 949 (by decide +kernel) (by decide +kernel), tbT 950 (by decide +kernel) (by decide +kernel), tbT 10 (by decide +kernel) (by decide +kernel), tbT 951 (by decide +kernel) (by decide +kernel), by decide, by decide, by decide +kernel⟩
theorem ml_L_89 : ML RL 89 yX7_loss cX7_loss 3 (some .int) 2 := ⟨tbT 551 (by decide +kernel) (by decide +kernel), tbT 552 (by decide +kernel) (by decide +kernel), tbT 553 (by decide +kernel) (by decide +kernel), tbT 1 (by decide +kernel) (by decide +kernel), tbT 554 (by decide +kernel) (by decide +kernel), by decide, by decide, by decide +kernel⟩
theorem ml_L_92 : ML RL 92 yX8_loss cX8_loss 3 (some .int) 2 := ⟨tbT 964 (by decide +kernel) (by decide +kernel), tbT 965 (by decide +kernel) (by decide +kernel), tbT 966 (by decide +kernel) (by decide +kernel), tbT 10 (by decide +kernel) (by decide +kernel), tbT 967 (by decide +kernel) (by decide +kernel), by decide, by decide, by decide +kernel⟩
theorem ml_L_93 : ML RL 93 yX7_all cX7_all 2 (some .int) 1 := ⟨tbT 560 (by decide +kernel) (by decide +kernel), tbT 561 (by decide +kernel) (by decide +kernel), tbT 562 (by decide +kernel) (by decide +kernel), tbT 1 (by decide +kernel) (by decide +kernel), tbT 563 (by decide +kernel) (by decide +kernel), by decide, by decide, by decide +kernel⟩
theorem ml_L_96 : ML RL 96 yX8_all cX8_all 2 (some .int) 1 := ⟨tbT 976 (by decide +kernel) (by decide +kernel), tbT 977 (by decide +kernel) (by decide +kernel), tbT 978 (by decide +kernel) (by decide +kernel), tbT 10 (by decide +kernel) (by decide +kernel), tbT 979 (by decide +kernel) (by decide +kernel), by decide, by decide, by decide +kernel⟩
theorem ml_L_97 : ML RL 97 yX7_count cX7_count 2 (some .int) 1 := ⟨tbT 590 (by decide +kernel) (by decide +kernel), tbT 591 (by decide +kernel) (by decide +kernel), tbT 592 (by decide +kernel) (by decide +kernel), tbT 1 (by decide +kernel) (by decide +kernel), tbT 593 (by decide +kernel) (by decide +kernel), by decide, by decide, by decide +kernel⟩
theorem ml_L_100 : ML RL 100 yX8_count cX8_count 2 (some .int) 1 := ⟨tbT 992 (by decide +kernel) (by decide +kernel), tbT 993 (by decide +kernel) (by decide +kernel), tbT 994 (by decide +kernel) (by decide +kernel), tbT 10 (by decide +kernel) (by decide +kernel), tbT 995 (by decide +kernel) (by decide +kernel), by decide, by decide, by decide +kernel⟩
theorem ml_L_101 : ML RL 101 yX7_digest cX7_digest 3 (some .long) 0 := ⟨tbT 603 (by decide +kernel) (by decide +kernel), tbT 604 (by decide +kernel) (by decide +kernel), tbT 605 (by decide +kernel) (by decide +kernel), tbT 1 (by decide +kernel) (by decide +kernel), tbT 606 (by decide +kernel) (by decide +kernel), by decide, by decide, by decide +kernel⟩
theorem ml_L_105 : ML RL 105 yX8_digest cX8_digest 3 (some .long) 0 := ⟨tbT 1004 (by decide +kernel) (by decide +kernel), tbT 1005 (by decide +kernel) (by decide +kernel), tbT 1006 (by decide +kernel) (by decide +kernel), tbT 10 (by decide +kernel) (by decide +kernel), tbT 1007 (by decide +kernel) (by decide +kernel), by decide, by decide, by decide +kernel⟩
theorem ml_X0_30 : ML RX0 30 yX1_get cX1_get 3 (some .int) 2 := ⟨tbT 381 (by decide +kernel) (by decide +kernel), tbT 324 (by decide +kernel) (by decide +kernel), tbT 325 (by decide +kernel) (by decide +kernel), tbT 4 (by decide +kernel) (by decide +kernel), tbT 326 (by decide +kernel) (by decide +kernel), by decide, by decide, by decide +kernel⟩
theorem ml_X0_34 : ML RX0 34 yX2_leadsUp cX2_leadsUp 3 (some .boolean) 2 := ⟨tbT 382 (by decide +kernel) (by decide +kernel), tbT 383 (by decide +kernel) (by decide +kernel), tbT 384 (by decide +kernel) (by decide +kernel), tbT 5 (by decide +kernel) (by decide +kernel), tbT 385 (by decide +kernel) (by decide +kernel), by decide, by decide, by decide +kernel⟩
theorem ml_X0_39 : ML RX0 39 yX1_set cX1_set 4 none 3 := ⟨tbT 387 (by decide +kernel) (by decide +kernel), tbT 304 (by decide +kernel) (by decide +kernel), tbT 305 (by decide +kernel) (by decide +kernel), tbT 4 (by decide +kernel) (by decide +kernel), tbT 306 (by decide +kernel) (by decide +kernel), by decide, by decide, by decide +kernel⟩
theorem ml_X0_43 : ML RX0 43 yX1_shorten cX1_shorten 5 none 1 := ⟨tbT 388 (by decide +kernel) (by decide +kernel), tbT 340 (by decide +kernel) (by decide +kernel), tbT 341 (by decide +kernel) (by decide +kernel), tbT 4 (by decide +kernel) (by decide +kernel), tbT 342 (by decide +kernel) (by decide +kernel), by decide, by decide, by decide +kernel⟩
theorem ml_X1_15 : ML RX1 15 yX1_get cX1_get 3 (some .int) 2 := ⟨tbT 343 (by decide +kernel) (by decide +kernel), tbT 324 (by decide +kernel) (by decide +kernel), tbT 325 (by decide +kernel) (by decide +kernel), tbT 4 (by decide +kernel) (by decide +kernel), tbT 326 (by decide +kernel) (by decide +kernel), by decide, by decide, by decide +kernel⟩
theorem ml_X1_20 : ML RX1 20 yX1_shortenRow cX1_shortenRow 9 none 4 := ⟨tbT 345 (by decide +kernel) (by decide +kernel), tbT 347 (by decide +kernel) (by decide +kernel), tbS 10 (by decide +kernel) (by decide +kernel), tbT 4 (by decide +kernel) (by decide +kernel), tbT 348 (by decide +kernel) (by decide +kernel), by decide, by decide, by decide +kernel⟩
theorem ml_X2_43 : ML RX2 43 yX2_startAnew cX2_startAnew 4 none 1 := ⟨tbT 311 (by decide +kernel) (by decide +kernel), tbT 313 (by decide +kernel) (by decide +kernel), tbS 7 (by decide +kernel) (by decide +kernel), tbT 5 (by decide +kernel) (by decide +kernel), tbT 314 (by decide +kernel) (by decide +kernel), by decide, by decide, by decide +kernel⟩
theorem ml_X2_51 : ML RX2 51 yX2_measureFree cX2_measureFree 6 none 2 := ⟨tbT 329 (by decide +kernel) (by decide +kernel), tbT 331 (by decide +kernel) (by decide +kernel), tbS 8 (by decide +kernel) (by decide +kernel), tbT 5 (by decide +kernel) (by decide +kernel), tbT 332 (by decide +kernel) (by decide +kernel), by decide, by decide, by decide +kernel⟩
theorem ml_X2_55 : ML RX2 55 yX2_pickNext cX2_pickNext 5 (some .int) 0 := ⟨tbT 349 (by decide +kernel) (by decide +kernel), tbT 351 (by decide +kernel) (by decide +kernel), tbS 11 (by decide +kernel) (by decide +kernel), tbT 5 (by decide +kernel) (by decide +kernel), tbT 352 (by decide +kernel) (by decide +kernel), by decide, by decide, by decide +kernel⟩
theorem ml_X2_59 : ML RX2 59 yX2_giveRank cX2_giveRank 5 none 2 := ⟨tbT 369 (by decide +kernel) (by decide +kernel), tbT 371 (by decide +kernel) (by decide +kernel), tbS 15 (by decide +kernel) (by decide +kernel), tbT 5 (by decide +kernel) (by decide +kernel), tbT 372 (by decide +kernel) (by decide +kernel), by decide, by decide, by decide +kernel⟩
theorem ml_X2_72 : ML RX2 72 yX3_stepWorth cX3_stepWorth 3 (some .int) 2 := ⟨tbT 315 (by decide +kernel) (by decide +kernel), tbT 316 (by decide +kernel) (by decide +kernel), tbT 317 (by decide +kernel) (by decide +kernel), tbT 3 (by decide +kernel) (by decide +kernel), tbT 318 (by decide +kernel) (by decide +kernel), by decide, by decide, by decide +kernel⟩
theorem ml_X2_76 : ML RX2 76 yX1_set cX1_set 4 none 3 := ⟨tbT 328 (by decide +kernel) (by decide +kernel), tbT 304 (by decide +kernel) (by decide +kernel), tbT 305 (by decide +kernel) (by decide +kernel), tbT 4 (by decide +kernel) (by decide +kernel), tbT 306 (by decide +kernel) (by decide +kernel), by decide, by decide, by decide +kernel⟩
theorem ml_X2_80 : ML RX2 80 yX2_isFree cX2_isFree 2 (some .boolean) 1 := ⟨tbT 333 (by decide +kernel) (by decide +kernel), tbT 335 (by decide +kernel) (by decide +kernel), tbS 9 (by decide +kernel) (by decide +kernel), tbT 5 (by decide +kernel) (by decide +kernel), tbT 336 (by decide +kernel) (by decide +kernel), by decide, by decide, by decide +kernel⟩
theorem ml_X2_84 : ML RX2 84 yX1_get cX1_get 3 (some .int) 2 := ⟨tbT 337 (by decide +kernel) (by decide +kernel), tbT 324 (by decide +kernel) (by decide +kernel), tbT 325 (by decide +kernel) (by decide +kernel), tbT 4 (by decide +kernel) (by decide +kernel), tbT 326 (by decide +kernel) (by decide +kernel), by decide, by decide, by decide +kernel⟩
theorem ml_X2_88 : ML RX2 88 yX1_shorten cX1_shorten 5 none 1 := ⟨tbT 339 (by decide +kernel) (by decide +kernel), tbT 340 (by decide +kernel) (by decide +kernel), tbT 341 (by decide +kernel) (by decide +kernel), tbT 4 (by decide +kernel) (by decide +kernel), tbT 342 (by decide +kernel) (by decide +kernel), by decide, by decide, by decide +kernel⟩
theorem ml_X2_92 : ML RX2 92 yX2_markNeeded cX2_markNeeded 6 (some .int) 1 := ⟨tbT 353 (by decide +kernel) (by decide +kernel), tbT 355 (by decide +kernel) (by decide +kernel), tbS 12 (by decide +kernel) (by decide +kernel), tbT 5 (by decide +kernel) (by decide +kernel), tbT 356 (by decide +kernel) (by decide +kernel), by decide, by decide, by decide +kernel⟩
theorem ml_X2_96 : ML RX2 96 yX2_countFreeArcs cX2_countFreeArcs 4 (some .int) 1 := ⟨tbT 365 (by decide +kernel) (by decide +kernel), tbT 367 (by decide +kernel) (by decide +kernel), tbS 14 (by decide +kernel) (by decide +kernel), tbT 5 (by decide +kernel) (by decide +kernel), tbT 368 (by decide +kernel) (by decide +kernel), by decide, by decide, by decide +kernel⟩
theorem ml_X2_99 : ML RX2 99 yX2_hasArc cX2_hasArc 3 (some .boolean) 2 := ⟨tbT 361 (by decide +kernel) (by decide +kernel), tbT 362 (by decide +kernel) (by decide +kernel), tbT 363 (by decide +kernel) (by decide +kernel), tbT 5 (by decide +kernel) (by decide +kernel), tbT 364 (by decide +kernel) (by decide +kernel), by decide, by decide, by decide +kernel⟩
theorem ml_X2_103 : ML RX2 103 yX2_isNeeded cX2_isNeeded 5 (some .boolean) 3 := ⟨tbT 357 (by decide +kernel) (by decide +kernel), tbT 359 (by decide +kernel) (by decide +kernel), tbS 13 (by decide +kernel) (by decide +kernel), tbT 5 (by decide +kernel) (by decide +kernel), tbT 360 (by decide +kernel) (by decide +kernel), by decide, by decide, by decide +kernel⟩
theorem ml_X2_107 : ML RX2 107 yX2_putIntoRow cX2_putIntoRow 5 none 3 := ⟨tbT 518 (by decide +kernel) (by decide +kernel), tbT 520 (by decide +kernel) (by decide +kernel), tbS 21 (by decide +kernel) (by decide +kernel), tbT 5 (by decide +kernel) (by decide +kernel), tbT 521 (by decide +kernel) (by decide +kernel), by decide, by decide, by decide +kernel⟩
theorem ml_X2_110 : ML RX2 110 yX2_countArcsOver cX2_countArcsOver 5 (some .int) 1 := ⟨tbT 581 (by decide +kernel) (by decide +kernel), tbT 481 (by decide +kernel) (by decide +kernel), tbT 482 (by decide +kernel) (by decide +kernel), tbT 5 (by decide +kernel) (by decide +kernel), tbT 483 (by decide +kernel) (by decide +kernel), by decide, by decide, by decide +kernel⟩
theorem ml_X3_28 : ML RX3 28 yX4_howManyRoads cX4_howManyRoads 1 (some .int) 0 := ⟨tbT 292 (by decide +kernel) (by decide +kernel), tbT 293 (by decide +kernel) (by decide +kernel), tbT 294 (by decide +kernel) (by decide +kernel), tbT 2 (by decide +kernel) (by decide +kernel), tbT 295 (by decide +kernel) (by decide +kernel), by decide, by decide, by decide +kernel⟩
theorem ml_X3_47 : ML RX3 47 yX3_firstCost cX3_firstCost 3 (some .int) 2 := ⟨tbT 299 (by decide +kernel) (by decide +kernel), tbT 301 (by decide +kernel) (by decide +kernel), tbS 6 (by decide +kernel) (by decide +kernel), tbT 3 (by decide +kernel) (by decide +kernel), tbT 302 (by decide +kernel) (by decide +kernel), by decide, by decide, by decide +kernel⟩
theorem ml_X3_51 : ML RX3 51 yX1_set cX1_set 4 none 3 := ⟨tbT 303 (by decide +kernel) (by decide +kernel), tbT 304 (by decide +kernel) (by decide +kernel), tbT 305 (by decide +kernel) (by decide +kernel), tbT 4 (by decide +kernel) (by decide +kernel), tbT 306 (by decide +kernel) (by decide +kernel), by decide, by decide, by decide +kernel⟩
theorem ml_X3_55 : ML RX3 55 yX3_has cX3_has 2 (some .boolean) 1 := ⟨tbT 456 (by decide +kernel) (by decide +kernel), tbT 437 (by decide +kernel) (by decide +kernel), tbT 438 (by decide +kernel) (by decide +kernel), tbT 3 (by decide +kernel) (by decide +kernel), tbT 439 (by decide +kernel) (by decide +kernel), by decide, by decide, by decide +kernel⟩
theorem ml_X3_59 : ML RX3 59 yX1_get cX1_get 3 (some .int) 2 := ⟨tbT 323 (by decide +kernel) (by decide +kernel), tbT 324 (by decide +kernel) (by decide +kernel), tbT 325 (by decide +kernel) (by decide +kernel), tbT 4 (by decide +kernel) (by decide +kernel), tbT 326 (by decide +kernel) (by decide +kernel), by decide, by decide, by decide +kernel⟩
theorem ml_X3_62 : ML RX3 62 yX3_hasStep cX3_hasStep 3 (some .boolean) 2 := ⟨tbT 319 (by decide +kernel) (by decide +kernel), tbT 320 (by decide +kernel) (by decide +kernel), tbT 321 (by decide +kernel) (by decide +kernel), tbT 3 (by decide +kernel) (by decide +kernel), tbT 322 (by decide +kernel) (by decide +kernel), by decide, by decide, by decide +kernel⟩
theorem ml_X3_67 : ML RX3 67 yX3_stepWorth cX3_stepWorth 3 (some .int) 2 := ⟨tbT 401 (by decide +kernel) (by decide +kernel), tbT 316 (by decide +kernel) (by decide +kernel), tbT 317 (by decide +kernel) (by decide +kernel), tbT 3 (by decide +kernel) (by decide +kernel), tbT 318 (by decide +kernel) (by decide +kernel), by decide, by decide, by decide +kernel⟩
theorem ml_X3_70 : ML RX3 70 yX3_stepKey cX3_stepKey 3 (some .int) 2 := ⟨tbT 397 (by decide +kernel) (by decide +kernel), tbT 398 (by decide +kernel) (by decide +kernel), tbT 399 (by decide +kernel) (by decide +kernel), tbT 3 (by decide +kernel) (by decide +kernel), tbT 400 (by decide +kernel) (by decide +kernel), by decide, by decide, by decide +kernel⟩
theorem ml_X3_73 : ML RX3 73 yX1_shorten cX1_shorten 5 none 1 := ⟨tbT 402 (by decide +kernel) (by decide +kernel), tbT 340 (by decide +kernel) (by decide +kernel), tbT 341 (by decide +kernel) (by decide +kernel), tbT 4 (by decide +kernel) (by decide +kernel), tbT 342 (by decide +kernel) (by decide +kernel), by decide, by decide, by decide +kernel⟩
theorem ml_X3_77 : ML RX3 77 yX3_hasTurn cX3_hasTurn 3 (some .boolean) 2 := ⟨tbT 598 (by decide +kernel) (by decide +kernel), tbT 458 (by decide +kernel) (by decide +kernel), tbT 459 (by decide +kernel) (by decide +kernel), tbT 3 (by decide +kernel) (by decide +kernel), tbT 460 (by decide +kernel) (by decide +kernel), by decide, by decide, by decide +kernel⟩
theorem ml_X4_34 : ML RX4 34 yX4_takes cX4_takes 2 (some .boolean) 1 := ⟨tbT 252 (by decide +kernel) (by decide +kernel), tbT 254 (by decide +kernel) (by decide +kernel), tbS 0 (by decide +kernel) (by decide +kernel), tbT 2 (by decide +kernel) (by decide +kernel), tbT 255 (by decide +kernel) (by decide +kernel), by decide, by decide, by decide +kernel⟩
theorem ml_X4_38 : ML RX4 38 yX4_scan cX4_scan 2 (some .int) 0 := ⟨tbT 287 (by decide +kernel) (by decide +kernel), tbT 249 (by decide +kernel) (by decide +kernel), tbT 250 (by decide +kernel) (by decide +kernel), tbT 2 (by decide +kernel) (by decide +kernel), tbT 251 (by decide +kernel) (by decide +kernel), by decide, by decide, by decide +kernel⟩
theorem ml_X4_42 : ML RX4 42 yX4_takesBegin cX4_takesBegin 3 (some .boolean) 1 := ⟨tbT 256 (by decide +kernel) (by decide +kernel), tbT 258 (by decide +kernel) (by decide +kernel), tbS 1 (by decide +kernel) (by decide +kernel), tbT 2 (by decide +kernel) (by decide +kernel), tbT 259 (by decide +kernel) (by decide +kernel), by decide, by decide, by decide +kernel⟩
theorem ml_X4_45 : ML RX4 45 yX4_takesEnd cX4_takesEnd 3 (some .boolean) 1 := ⟨tbT 263 (by decide +kernel) (by decide +kernel), tbT 265 (by decide +kernel) (by decide +kernel), tbS 2 (by decide +kernel) (by decide +kernel), tbT 2 (by decide +kernel) (by decide +kernel), tbT 266 (by decide +kernel) (by decide +kernel), by decide, by decide, by decide +kernel⟩
theorem ml_X4_48 : ML RX4 48 yX4_takesFirstFigure cX4_takesFirstFigure 2 (some .boolean) 1 := ⟨tbT 267 (by decide +kernel) (by decide +kernel), tbT 269 (by decide +kernel) (by decide +kernel), tbS 3 (by decide +kernel) (by decide +kernel), tbT 2 (by decide +kernel) (by decide +kernel), tbT 270 (by decide +kernel) (by decide +kernel), by decide, by decide, by decide +kernel⟩
theorem ml_X4_51 : ML RX4 51 yX4_takesSecondFigure cX4_takesSecondFigure 2 (some .boolean) 1 := ⟨tbT 271 (by decide +kernel) (by decide +kernel), tbT 273 (by decide +kernel) (by decide +kernel), tbS 4 (by decide +kernel) (by decide +kernel), tbT 2 (by decide +kernel) (by decide +kernel), tbT 274 (by decide +kernel) (by decide +kernel), by decide, by decide, by decide +kernel⟩
theorem ml_X4_54 : ML RX4 54 yX4_takesComma cX4_takesComma 2 (some .boolean) 1 := ⟨tbT 275 (by decide +kernel) (by decide +kernel), tbT 277 (by decide +kernel) (by decide +kernel), tbS 5 (by decide +kernel) (by decide +kernel), tbT 2 (by decide +kernel) (by decide +kernel), tbT 278 (by decide +kernel) (by decide +kernel), by decide, by decide, by decide +kernel⟩
theorem ml_X5_26 : MLs RX5 26 yJ7_fill_53178 cJ7_fill_53178 4 none 2 := ⟨tbT 190 (by decide +kernel) (by decide +kernel), tbT 191 (by decide +kernel) (by decide +kernel), tbT 9 (by decide +kernel) (by decide +kernel), tbT 192 (by decide +kernel) (by decide +kernel), by decide, by decide, by decide +kernel⟩
theorem ml_X5_32 : MLs RX5 32 yX5_fillWith cX5_fillWith 8 none 4 := ⟨tbT 425 (by decide +kernel) (by decide +kernel), tbT 426 (by decide +kernel) (by decide +kernel), tbT 8 (by decide +kernel) (by decide +kernel), tbT 427 (by decide +kernel) (by decide +kernel), by decide, by decide, by decide +kernel⟩
theorem ml_X5_42 : ML RX5 42 yX1_get cX1_get 3 (some .int) 2 := ⟨tbT 428 (by decide +kernel) (by decide +kernel), tbT 324 (by decide +kernel) (by decide +kernel), tbT 325 (by decide +kernel) (by decide +kernel), tbT 4 (by decide +kernel) (by decide +kernel), tbT 326 (by decide +kernel) (by decide +kernel), by decide, by decide, by decide +kernel⟩
theorem ml_X5_55 : MLs RX5 55 yJ9_min_7cf53 cJ9_min_7cf53 2 (some .int) 2 := ⟨tbT 429 (by decide +kernel) (by decide +kernel), tbT 430 (by decide +kernel) (by decide +kernel), tbT 12 (by decide +kernel) (by decide +kernel), tbT 431 (by decide +kernel) (by decide +kernel), by decide, by decide, by decide +kernel⟩
theorem ml_X5_60 : ML RX5 60 yX3_fillLeastKeys cX3_fillLeastKeys 6 none 2 := ⟨tbT 559 (by decide +kernel) (by decide +kernel), tbT 394 (by decide +kernel) (by decide +kernel), tbT 395 (by decide +kernel) (by decide +kernel), tbT 3 (by decide +kernel) (by decide +kernel), tbT 396 (by decide +kernel) (by decide +kernel), by decide, by decide, by decide +kernel⟩
theorem ml_X6_25 : ML RX6 25 yX3_fillLeastKeys cX3_fillLeastKeys 6 none 2 := ⟨tbT 393 (by decide +kernel) (by decide +kernel), tbT 394 (by decide +kernel) (by decide +kernel), tbT 395 (by decide +kernel) (by decide +kernel), tbT 3 (by decide +kernel) (by decide +kernel), tbT 396 (by decide +kernel) (by decide +kernel), by decide, by decide, by decide +kernel⟩
theorem ml_X6_35 : ML RX6 35 yX6_firstNext cX6_firstNext 6 (some .int) 3 := ⟨tbT 403 (by decide +kernel) (by decide +kernel), tbT 405 (by decide +kernel) (by decide +kernel), tbS 17 (by decide +kernel) (by decide +kernel), tbT 7 (by decide +kernel) (by decide +kernel), tbT 406 (by decide +kernel) (by decide +kernel), by decide, by decide, by decide +kernel⟩
theorem ml_X6_39 : ML RX6 39 yX1_set cX1_set 4 none 3 := ⟨tbT 411 (by decide +kernel) (by decide +kernel), tbT 304 (by decide +kernel) (by decide +kernel), tbT 305 (by decide +kernel) (by decide +kernel), tbT 4 (by decide +kernel) (by decide +kernel), tbT 306 (by decide +kernel) (by decide +kernel), by decide, by decide, by decide +kernel⟩
theorem ml_X6_43 : ML RX6 43 yX6_countBusy cX6_countBusy 4 none 1 := ⟨tbT 412 (by decide +kernel) (by decide +kernel), tbT 414 (by decide +kernel) (by decide +kernel), tbS 18 (by decide +kernel) (by decide +kernel), tbT 7 (by decide +kernel) (by decide +kernel), tbT 415 (by decide +kernel) (by decide +kernel), by decide, by decide, by decide +kernel⟩
theorem ml_X6_47 : ML RX6 47 yX1_get cX1_get 3 (some .int) 2 := ⟨tbT 407 (by decide +kernel) (by decide +kernel), tbT 324 (by decide +kernel) (by decide +kernel), tbT 325 (by decide +kernel) (by decide +kernel), tbT 4 (by decide +kernel) (by decide +kernel), tbT 326 (by decide +kernel) (by decide +kernel), by decide, by decide, by decide +kernel⟩
theorem ml_X6_52 : ML RX6 52 yX3_hasStep cX3_hasStep 3 (some .boolean) 2 := ⟨tbT 409 (by decide +kernel) (by decide +kernel), tbT 320 (by decide +kernel) (by decide +kernel), tbT 321 (by decide +kernel) (by decide +kernel), tbT 3 (by decide +kernel) (by decide +kernel), tbT 322 (by decide +kernel) (by decide +kernel), by decide, by decide, by decide +kernel⟩
theorem ml_X6_56 : ML RX6 56 yX3_stepKey cX3_stepKey 3 (some .int) 2 := ⟨tbT 410 (by decide +kernel) (by decide +kernel), tbT 398 (by decide +kernel) (by decide +kernel), tbT 399 (by decide +kernel) (by decide +kernel), tbT 3 (by decide +kernel) (by decide +kernel), tbT 400 (by decide +kernel) (by decide +kernel), by decide, by decide, by decide +kernel⟩
theorem ml_X6_59 : MLs RX6 59 yJ7_fill_53178 cJ7_fill_53178 4 none 2 := ⟨tbT 416 (by decide +kernel) (by decide +kernel), tbT 191 (by decide +kernel) (by decide +kernel), tbT 9 (by decide +kernel) (by decide +kernel), tbT 192 (by decide +kernel) (by decide +kernel), by decide, by decide, by decide +kernel⟩
theorem ml_X6_65 : ML RX6 65 yX6_countBusyBetween cX6_countBusyBetween 5 none 2 := ⟨tbT 417 (by decide +kernel) (by decide +kernel), tbT 419 (by decide +kernel) (by decide +kernel), tbS 19 (by decide +kernel) (by decide +kernel), tbT 7 (by decide +kernel) (by decide +kernel), tbT 420 (by decide +kernel) (by decide +kernel), by decide, by decide, by decide +kernel⟩
theorem ml_X6_69 : ML RX6 69 yX6_busiest cX6_busiest 4 (some .int) 1 := ⟨tbT 572 (by decide +kernel) (by decide +kernel), tbT 565 (by decide +kernel) (by decide +kernel), tbT 566 (by decide +kernel) (by decide +kernel), tbT 7 (by decide +kernel) (by decide +kernel), tbT 567 (by decide +kernel) (by decide +kernel), by decide, by decide, by decide +kernel⟩
theorem ml_X7_55 : ML RX7 55 yX4_put cX4_put 2 none 1 := ⟨tbT 236 (by decide +kernel) (by decide +kernel), tbT 237 (by decide +kernel) (by decide +kernel), tbT 238 (by decide +kernel) (by decide +kernel), tbT 2 (by decide +kernel) (by decide +kernel), tbT 239 (by decide +kernel) (by decide +kernel), by decide, by decide, by decide +kernel⟩
theorem ml_X7_59 : ML RX7 59 yX4_scan cX4_scan 2 (some .int) 0 := ⟨tbT 248 (by decide +kernel) (by decide +kernel), tbT 249 (by decide +kernel) (by decide +kernel), tbT 250 (by decide +kernel) (by decide +kernel), tbT 2 (by decide +kernel) (by decide +kernel), tbT 251 (by decide +kernel) (by decide +kernel), by decide, by decide, by decide +kernel⟩
theorem ml_X7_63 : ML RX7 63 yX4_isWhole cX4_isWhole 1 (some .boolean) 0 := ⟨tbT 283 (by decide +kernel) (by decide +kernel), tbT 284 (by decide +kernel) (by decide +kernel), tbT 285 (by decide +kernel) (by decide +kernel), tbT 2 (by decide +kernel) (by decide +kernel), tbT 286 (by decide +kernel) (by decide +kernel), by decide, by decide, by decide +kernel⟩
theorem ml_X7_67 : ML RX7 67 yX3_take cX3_take 4 none 1 := ⟨tbT 288 (by decide +kernel) (by decide +kernel), tbT 289 (by decide +kernel) (by decide +kernel), tbT 290 (by decide +kernel) (by decide +kernel), tbT 3 (by decide +kernel) (by decide +kernel), tbT 291 (by decide +kernel) (by decide +kernel), by decide, by decide, by decide +kernel⟩
theorem ml_X7_74 : ML RX7 74 yX2_findOrder cX2_findOrder 3 none 1 := ⟨tbT 307 (by decide +kernel) (by decide +kernel), tbT 308 (by decide +kernel) (by decide +kernel), tbT 309 (by decide +kernel) (by decide +kernel), tbT 5 (by decide +kernel) (by decide +kernel), tbT 310 (by decide +kernel) (by decide +kernel), by decide, by decide, by decide +kernel⟩
theorem ml_X7_78 : ML RX7 78 yX7_measureAll cX7_measureAll 1 none 0 := ⟨tbT 373 (by decide +kernel) (by decide +kernel), tbT 375 (by decide +kernel) (by decide +kernel), tbS 16 (by decide +kernel) (by decide +kernel), tbT 1 (by decide +kernel) (by decide +kernel), tbT 376 (by decide +kernel) (by decide +kernel), by decide, by decide, by decide +kernel⟩
theorem ml_X7_84 : ML RX7 84 yX3_has cX3_has 2 (some .boolean) 1 := ⟨tbT 436 (by decide +kernel) (by decide +kernel), tbT 437 (by decide +kernel) (by decide +kernel), tbT 438 (by decide +kernel) (by decide +kernel), tbT 3 (by decide +kernel) (by decide +kernel), tbT 439 (by decide +kernel) (by decide +kernel), by decide, by decide, by decide +kernel⟩
theorem ml_X7_92 : ML RX7 92 yX7_makeAnew cX7_makeAnew 1 none 0 := ⟨tbT 440 (by decide +kernel) (by decide +kernel), tbT 442 (by decide +kernel) (by decide +kernel), tbS 20 (by decide +kernel) (by decide +kernel), tbT 1 (by decide +kernel) (by decide +kernel), tbT 443 (by decide +kernel) (by decide +kernel), by decide, by decide, by decide +kernel⟩
theorem ml_X7_95 : ML RX7 95 yX3_hasBoth cX3_hasBoth 3 (some .boolean) 2 := ⟨tbT 452 (by decide +kernel) (by decide +kernel), tbT 453 (by decide +kernel) (by decide +kernel), tbT 454 (by decide +kernel) (by decide +kernel), tbT 3 (by decide +kernel) (by decide +kernel), tbT 455 (by decide +kernel) (by decide +kernel), by decide, by decide, by decide +kernel⟩
theorem ml_X7_99 : ML RX7 99 yX3_hasTurn cX3_hasTurn 3 (some .boolean) 2 := ⟨tbT 457 (by decide +kernel) (by decide +kernel), tbT 458 (by decide +kernel) (by decide +kernel), tbT 459 (by decide +kernel) (by decide +kernel), tbT 3 (by decide +kernel) (by decide +kernel), tbT 460 (by decide +kernel) (by decide +kernel), by decide, by decide, by decide +kernel⟩
theorem ml_X7_106 : ML RX7 106 yX1_get cX1_get 3 (some .int) 2 := ⟨tbT 461 (by decide +kernel) (by decide +kernel), tbT 324 (by decide +kernel) (by decide +kernel), tbT 325 (by decide +kernel) (by decide +kernel), tbT 4 (by decide +kernel) (by decide +kernel), tbT 326 (by decide +kernel) (by decide +kernel), by decide, by decide, by decide +kernel⟩
theorem ml_X7_112 : ML RX7 112 yX1_set cX1_set 4 none 3 := ⟨tbT 462 (by decide +kernel) (by decide +kernel), tbT 304 (by decide +kernel) (by decide +kernel), tbT 305 (by decide +kernel) (by decide +kernel), tbT 4 (by decide +kernel) (by decide +kernel), tbT 306 (by decide +kernel) (by decide +kernel), by decide, by decide, by decide +kernel⟩
theorem ml_X7_119 : ML RX7 119 yX2_noteRanks cX2_noteRanks 1 none 0 := ⟨tbT 467 (by decide +kernel) (by decide +kernel), tbT 468 (by decide +kernel) (by decide +kernel), tbT 469 (by decide +kernel) (by decide +kernel), tbT 5 (by decide +kernel) (by decide +kernel), tbT 470 (by decide +kernel) (by decide +kernel), by decide, by decide, by decide +kernel⟩
theorem ml_X7_122 : ML RX7 122 yX2_countMoved cX2_countMoved 3 (some .int) 0 := ⟨tbT 472 (by decide +kernel) (by decide +kernel), tbT 473 (by decide +kernel) (by decide +kernel), tbT 474 (by decide +kernel) (by decide +kernel), tbT 5 (by decide +kernel) (by decide +kernel), tbT 475 (by decide +kernel) (by decide +kernel), by decide, by decide, by decide +kernel⟩
theorem ml_X7_128 : ML RX7 128 yX2_keepOrder cX2_keepOrder 3 none 1 := ⟨tbT 444 (by decide +kernel) (by decide +kernel), tbT 445 (by decide +kernel) (by decide +kernel), tbT 446 (by decide +kernel) (by decide +kernel), tbT 5 (by decide +kernel) (by decide +kernel), tbT 447 (by decide +kernel) (by decide +kernel), by decide, by decide, by decide +kernel⟩
theorem ml_X7_131 : ML RX7 131 yX0_measure cX0_measure 6 none 1 := ⟨tbT 377 (by decide +kernel) (by decide +kernel), tbT 378 (by decide +kernel) (by decide +kernel), tbT 379 (by decide +kernel) (by decide +kernel), tbT 6 (by decide +kernel) (by decide +kernel), tbT 380 (by decide +kernel) (by decide +kernel), by decide, by decide, by decide +kernel⟩
theorem ml_X7_135 : ML RX7 135 yX6_measure cX6_measure 4 none 1 := ⟨tbT 389 (by decide +kernel) (by decide +kernel), tbT 390 (by decide +kernel) (by decide +kernel), tbT 391 (by decide +kernel) (by decide +kernel), tbT 7 (by decide +kernel) (by decide +kernel), tbT 392 (by decide +kernel) (by decide +kernel), by decide, by decide, by decide +kernel⟩
theorem ml_X7_140 : ML RX7 140 yX5_measure cX5_measure 3 none 2 := ⟨tbT 421 (by decide +kernel) (by decide +kernel), tbT 422 (by decide +kernel) (by decide +kernel), tbT 423 (by decide +kernel) (by decide +kernel), tbT 8 (by decide +kernel) (by decide +kernel), tbT 424 (by decide +kernel) (by decide +kernel), by decide, by decide, by decide +kernel⟩
theorem ml_X7_152 : ML RX7 152 yX2_countArcsOver cX2_countArcsOver 5 (some .int) 1 := ⟨tbT 480 (by decide +kernel) (by decide +kernel), tbT 481 (by decide +kernel) (by decide +kernel), tbT 482 (by decide +kernel) (by decide +kernel), tbT 5 (by decide +kernel) (by decide +kernel), tbT 483 (by decide +kernel) (by decide +kernel), by decide, by decide, by decide +kernel⟩
theorem ml_X7_162 : ML RX7 162 yX6_worth cX6_worth 4 (some .int) 2 := ⟨tbT 496 (by decide +kernel) (by decide +kernel), tbT 497 (by decide +kernel) (by decide +kernel), tbT 498 (by decide +kernel) (by decide +kernel), tbT 7 (by decide +kernel) (by decide +kernel), tbT 499 (by decide +kernel) (by decide +kernel), by decide, by decide, by decide +kernel⟩
theorem ml_X7_165 : ML RX7 165 yX6_roadOn cX6_roadOn 7 (some .int) 3 := ⟨tbT 504 (by decide +kernel) (by decide +kernel), tbT 505 (by decide +kernel) (by decide +kernel), tbT 506 (by decide +kernel) (by decide +kernel), tbT 7 (by decide +kernel) (by decide +kernel), tbT 507 (by decide +kernel) (by decide +kernel), by decide, by decide, by decide +kernel⟩
theorem ml_X7_169 : ML RX7 169 yX2_hasArc cX2_hasArc 3 (some .boolean) 2 := ⟨tbT 512 (by decide +kernel) (by decide +kernel), tbT 362 (by decide +kernel) (by decide +kernel), tbT 363 (by decide +kernel) (by decide +kernel), tbT 5 (by decide +kernel) (by decide +kernel), tbT 364 (by decide +kernel) (by decide +kernel), by decide, by decide, by decide +kernel⟩
theorem ml_X7_178 : ML RX7 178 yX2_leadsUp cX2_leadsUp 3 (some .boolean) 2 := ⟨tbT 513 (by decide +kernel) (by decide +kernel), tbT 383 (by decide +kernel) (by decide +kernel), tbT 384 (by decide +kernel) (by decide +kernel), tbT 5 (by decide +kernel) (by decide +kernel), tbT 385 (by decide +kernel) (by decide +kernel), by decide, by decide, by decide +kernel⟩
theorem ml_X7_181 : ML RX7 181 yX2_unpack cX2_unpack 7 (some .int) 2 := ⟨tbT 514 (by decide +kernel) (by decide +kernel), tbT 515 (by decide +kernel) (by decide +kernel), tbT 516 (by decide +kernel) (by decide +kernel), tbT 5 (by decide +kernel) (by decide +kernel), tbT 517 (by decide +kernel) (by decide +kernel), by decide, by decide, by decide +kernel⟩
theorem ml_X7_190 : MLs RX7 190 yX7_orNone cX7_orNone 1 (some .int) 1 := ⟨tbT 530 (by decide +kernel) (by decide +kernel), tbT 531 (by decide +kernel) (by decide +kernel), tbT 1 (by decide +kernel) (by decide +kernel), tbT 532 (by decide +kernel) (by decide +kernel), by decide, by decide, by decide +kernel⟩
theorem ml_X7_196 : ML RX7 196 yX0_meeting cX0_meeting 8 (some .int) 3 := ⟨tbT 542 (by decide +kernel) (by decide +kernel), tbT 543 (by decide +kernel) (by decide +kernel), tbT 544 (by decide +kernel) (by decide +kernel), tbT 6 (by decide +kernel) (by decide +kernel), tbT 545 (by decide +kernel) (by decide +kernel), by decide, by decide, by decide +kernel⟩
theorem ml_X7_199 : MLs RX7 199 yX7_isPlace cX7_isPlace 1 (some .boolean) 1 := ⟨tbT 550 (by decide +kernel) (by decide +kernel), tbT 261 (by decide +kernel) (by decide +kernel), tbT 1 (by decide +kernel) (by decide +kernel), tbT 262 (by decide +kernel) (by decide +kernel), by decide, by decide, by decide +kernel⟩
theorem ml_X7_205 : ML RX7 205 yX5_lossWithout cX5_lossWithout 6 (some .int) 3 := ⟨tbT 555 (by decide +kernel) (by decide +kernel), tbT 556 (by decide +kernel) (by decide +kernel), tbT 557 (by decide +kernel) (by decide +kernel), tbT 8 (by decide +kernel) (by decide +kernel), tbT 558 (by decide +kernel) (by decide +kernel), by decide, by decide, by decide +kernel⟩
theorem ml_X7_209 : ML RX7 209 yX6_busiest cX6_busiest 4 (some .int) 1 := ⟨tbT 564 (by decide +kernel) (by decide +kernel), tbT 565 (by decide +kernel) (by decide +kernel), tbT 566 (by decide +kernel) (by decide +kernel), tbT 7 (by decide +kernel) (by decide +kernel), tbT 567 (by decide +kernel) (by decide +kernel), by decide, by decide, by decide +kernel⟩
theorem ml_X7_212 : ML RX7 212 yX6_mostBusy cX6_mostBusy 3 (some .int) 1 := ⟨tbT 568 (by decide +kernel) (by decide +kernel), tbT 569 (by decide +kernel) (by decide +kernel), tbT 570 (by decide +kernel) (by decide +kernel), tbT 7 (by decide +kernel) (by decide +kernel), tbT 571 (by decide +kernel) (by decide +kernel), by decide, by decide, by decide +kernel⟩
theorem ml_X7_215 : ML RX7 215 yX2_countArcs cX2_countArcs 4 (some .int) 0 := ⟨tbT 573 (by decide +kernel) (by decide +kernel), tbT 574 (by decide +kernel) (by decide +kernel), tbT 575 (by decide +kernel) (by decide +kernel), tbT 5 (by decide +kernel) (by decide +kernel), tbT 576 (by decide +kernel) (by decide +kernel), by decide, by decide, by decide +kernel⟩
theorem ml_X7_218 : ML RX7 218 yX2_countShortcuts cX2_countShortcuts 3 (some .int) 0 := ⟨tbT 577 (by decide +kernel) (by decide +kernel), tbT 578 (by decide +kernel) (by decide +kernel), tbT 579 (by decide +kernel) (by decide +kernel), tbT 5 (by decide +kernel) (by decide +kernel), tbT 580 (by decide +kernel) (by decide +kernel), by decide, by decide, by decide +kernel⟩
theorem ml_X7_221 : ML RX7 221 yX5_countOpen cX5_countOpen 3 (some .int) 0 := ⟨tbT 582 (by decide +kernel) (by decide +kernel), tbT 583 (by decide +kernel) (by decide +kernel), tbT 584 (by decide +kernel) (by decide +kernel), tbT 8 (by decide +kernel) (by decide +kernel), tbT 585 (by decide +kernel) (by decide +kernel), by decide, by decide, by decide +kernel⟩
theorem ml_X7_224 : ML RX7 224 yX5_sumOpen cX5_sumOpen 3 (some .int) 0 := ⟨tbT 586 (by decide +kernel) (by decide +kernel), tbT 587 (by decide +kernel) (by decide +kernel), tbT 588 (by decide +kernel) (by decide +kernel), tbT 8 (by decide +kernel) (by decide +kernel), tbT 589 (by decide +kernel) (by decide +kernel), by decide, by decide, by decide +kernel⟩
theorem ml_X7_227 : ML RX7 227 yX3_countTurns cX3_countTurns 4 (some .int) 0 := ⟨tbT 594 (by decide +kernel) (by decide +kernel), tbT 595 (by decide +kernel) (by decide +kernel), tbT 596 (by decide +kernel) (by decide +kernel), tbT 3 (by decide +kernel) (by decide +kernel), tbT 597 (by decide +kernel) (by decide +kernel), by decide, by decide, by decide +kernel⟩
theorem ml_X7_230 : ML RX7 230 yX3_countBarred cX3_countBarred 4 (some .int) 0 := ⟨tbT 599 (by decide +kernel) (by decide +kernel), tbT 600 (by decide +kernel) (by decide +kernel), tbT 601 (by decide +kernel) (by decide +kernel), tbT 3 (by decide +kernel) (by decide +kernel), tbT 602 (by decide +kernel) (by decide +kernel), by decide, by decide, by decide +kernel⟩
theorem ml_X7_235 : ML RX7 235 yX7_digestOfRoads cX7_digestOfRoads 5 (some .long) 1 := ⟨tbT 608 (by decide +kernel) (by decide +kernel), tbT 610 (by decide +kernel) (by decide +kernel), tbS 22 (by decide +kernel) (by decide +kernel), tbT 1 (by decide +kernel) (by decide +kernel), tbT 611 (by decide +kernel) (by decide +kernel), by decide, by decide, by decide +kernel⟩
theorem ml_X7_239 : ML RX7 239 yX7_digestOfPairs cX7_digestOfPairs 6 (some .long) 1 := ⟨tbT 617 (by decide +kernel) (by decide +kernel), tbT 619 (by decide +kernel) (by decide +kernel), tbS 23 (by decide +kernel) (by decide +kernel), tbT 1 (by decide +kernel) (by decide +kernel), tbT 620 (by decide +kernel) (by decide +kernel), by decide, by decide, by decide +kernel⟩
theorem ml_X7_242 : ML RX7 242 yX7_digestOfPlaces cX7_digestOfPlaces 5 (some .long) 1 := ⟨tbT 626 (by decide +kernel) (by decide +kernel), tbT 628 (by decide +kernel) (by decide +kernel), tbS 24 (by decide +kernel) (by decide +kernel), tbT 1 (by decide +kernel) (by decide +kernel), tbT 629 (by decide +kernel) (by decide +kernel), by decide, by decide, by decide +kernel⟩
theorem ml_X7_245 : ML RX7 245 yX7_digestOfCounts cX7_digestOfCounts 4 (some .long) 1 := ⟨tbT 632 (by decide +kernel) (by decide +kernel), tbT 634 (by decide +kernel) (by decide +kernel), tbS 25 (by decide +kernel) (by decide +kernel), tbT 1 (by decide +kernel) (by decide +kernel), tbT 635 (by decide +kernel) (by decide +kernel), by decide, by decide, by decide +kernel⟩
theorem ml_X7_248 : ML RX7 248 yX7_road cX7_road 3 (some .int) 2 := ⟨tbT 612 (by decide +kernel) (by decide +kernel), tbT 477 (by decide +kernel) (by decide +kernel), tbT 478 (by decide +kernel) (by decide +kernel), tbT 1 (by decide +kernel) (by decide +kernel), tbT 479 (by decide +kernel) (by decide +kernel), by decide, by decide, by decide +kernel⟩
theorem ml_X7_251 : MLs RX7 251 yX7_mix cX7_mix 4 (some .long) 2 := ⟨tbT 613 (by decide +kernel) (by decide +kernel), tbT 614 (by decide +kernel) (by decide +kernel), tbT 1 (by decide +kernel) (by decide +kernel), tbT 615 (by decide +kernel) (by decide +kernel), by decide, by decide, by decide +kernel⟩
theorem ml_X7_255 : ML RX7 255 yX7_least cX7_least 3 (some .int) 2 := ⟨tbT 621 (by decide +kernel) (by decide +kernel), tbT 493 (by decide +kernel) (by decide +kernel), tbT 494 (by decide +kernel) (by decide +kernel), tbT 1 (by decide +kernel) (by decide +kernel), tbT 495 (by decide +kernel) (by decide +kernel), by decide, by decide, by decide +kernel⟩
theorem ml_X7_258 : ML RX7 258 yX7_up cX7_up 3 (some .int) 2 := ⟨tbT 622 (by decide +kernel) (by decide +kernel), tbT 527 (by decide +kernel) (by decide +kernel), tbT 528 (by decide +kernel) (by decide +kernel), tbT 1 (by decide +kernel) (by decide +kernel), tbT 529 (by decide +kernel) (by decide +kernel), by decide, by decide, by decide +kernel⟩
theorem ml_X7_261 : ML RX7 261 yX7_down cX7_down 3 (some .int) 2 := ⟨tbT 623 (by decide +kernel) (by decide +kernel), tbT 535 (by decide +kernel) (by decide +kernel), tbT 536 (by decide +kernel) (by decide +kernel), tbT 1 (by decide +kernel) (by decide +kernel), tbT 537 (by decide +kernel) (by decide +kernel), by decide, by decide, by decide +kernel⟩
theorem ml_X7_264 : ML RX7 264 yX7_meet cX7_meet 3 (some .int) 2 := ⟨tbT 624 (by decide +kernel) (by decide +kernel), tbT 539 (by decide +kernel) (by decide +kernel), tbT 540 (by decide +kernel) (by decide +kernel), tbT 1 (by decide +kernel) (by decide +kernel), tbT 541 (by decide +kernel) (by decide +kernel), by decide, by decide, by decide +kernel⟩
theorem ml_X7_267 : ML RX7 267 yX7_arc cX7_arc 4 (some .int) 3 := ⟨tbT 625 (by decide +kernel) (by decide +kernel), tbT 509 (by decide +kernel) (by decide +kernel), tbT 510 (by decide +kernel) (by decide +kernel), tbT 1 (by decide +kernel) (by decide +kernel), tbT 511 (by decide +kernel) (by decide +kernel), by decide, by decide, by decide +kernel⟩
theorem ml_X7_270 : ML RX7 270 yX7_route cX7_route 3 (some .int) 2 := ⟨tbT 630 (by decide +kernel) (by decide +kernel), tbT 547 (by decide +kernel) (by decide +kernel), tbT 548 (by decide +kernel) (by decide +kernel), tbT 1 (by decide +kernel) (by decide +kernel), tbT 549 (by decide +kernel) (by decide +kernel), by decide, by decide, by decide +kernel⟩
theorem ml_X7_273 : ML RX7 273 yX7_loss cX7_loss 3 (some .int) 2 := ⟨tbT 631 (by decide +kernel) (by decide +kernel), tbT 552 (by decide +kernel) (by decide +kernel), tbT 553 (by decide +kernel) (by decide +kernel), tbT 1 (by decide +kernel) (by decide +kernel), tbT 554 (by decide +kernel) (by decide +kernel), by decide, by decide, by decide +kernel⟩
theorem ml_X7_276 : ML RX7 276 yX7_all cX7_all 2 (some .int) 1 := ⟨tbT 636 (by decide +kernel) (by decide +kernel), tbT 561 (by decide +kernel) (by decide +kernel), tbT 562 (by decide +kernel) (by decide +kernel), tbT 1 (by decide +kernel) (by decide +kernel), tbT 563 (by decide +kernel) (by decide +kernel), by decide, by decide, by decide +kernel⟩
theorem ml_X7_282 : ML RX7 282 yX7_count cX7_count 2 (some .int) 1 := ⟨tbT 637 (by decide +kernel) (by decide +kernel), tbT 591 (by decide +kernel) (by decide +kernel), tbT 592 (by decide +kernel) (by decide +kernel), tbT 1 (by decide +kernel) (by decide +kernel), tbT 593 (by decide +kernel) (by decide +kernel), by decide, by decide, by decide +kernel⟩
theorem ml_X8_89 : MLs RX8 89 yX8_within cX8_within 3 (some .boolean) 3 := ⟨tbT 764 (by decide +kernel) (by decide +kernel), tbT 765 (by decide +kernel) (by decide +kernel), tbT 10 (by decide +kernel) (by decide +kernel), tbT 766 (by decide +kernel) (by decide +kernel), by decide, by decide, by decide +kernel⟩
theorem ml_X8_106 : ML RX8 106 yX8_takesPlace cX8_takesPlace 3 (some .boolean) 1 := ⟨tbT 783 (by decide +kernel) (by decide +kernel), tbT 785 (by decide +kernel) (by decide +kernel), tbS 28 (by decide +kernel) (by decide +kernel), tbT 10 (by decide +kernel) (by decide +kernel), tbT 786 (by decide +kernel) (by decide +kernel), by decide, by decide, by decide +kernel⟩
theorem ml_X8_110 : ML RX8 110 yX8_takesFigure cX8_takesFigure 4 (some .boolean) 1 := ⟨tbT 787 (by decide +kernel) (by decide +kernel), tbT 789 (by decide +kernel) (by decide +kernel), tbS 29 (by decide +kernel) (by decide +kernel), tbT 10 (by decide +kernel) (by decide +kernel), tbT 790 (by decide +kernel) (by decide +kernel), by decide, by decide, by decide +kernel⟩
theorem ml_X8_113 : ML RX8 113 yX8_takes cX8_takes 3 (some .boolean) 1 := ⟨tbT 779 (by decide +kernel) (by decide +kernel), tbT 781 (by decide +kernel) (by decide +kernel), tbS 27 (by decide +kernel) (by decide +kernel), tbT 10 (by decide +kernel) (by decide +kernel), tbT 782 (by decide +kernel) (by decide +kernel), by decide, by decide, by decide +kernel⟩
theorem ml_X8_116 : ML RX8 116 yX8_readPage cX8_readPage 2 (some .int) 0 := ⟨tbT 775 (by decide +kernel) (by decide +kernel), tbT 777 (by decide +kernel) (by decide +kernel), tbS 26 (by decide +kernel) (by decide +kernel), tbT 10 (by decide +kernel) (by decide +kernel), tbT 778 (by decide +kernel) (by decide +kernel), by decide, by decide, by decide +kernel⟩
theorem ml_X8_123 : ML RX8 123 yX8_findOrder cX8_findOrder 2 none 0 := ⟨tbT 795 (by decide +kernel) (by decide +kernel), tbT 797 (by decide +kernel) (by decide +kernel), tbS 30 (by decide +kernel) (by decide +kernel), tbT 10 (by decide +kernel) (by decide +kernel), tbT 798 (by decide +kernel) (by decide +kernel), by decide, by decide, by decide +kernel⟩
theorem ml_X8_126 : ML RX8 126 yX8_layWays cX8_layWays 4 none 0 := ⟨tbT 832 (by decide +kernel) (by decide +kernel), tbT 834 (by decide +kernel) (by decide +kernel), tbS 39 (by decide +kernel) (by decide +kernel), tbT 10 (by decide +kernel) (by decide +kernel), tbT 835 (by decide +kernel) (by decide +kernel), by decide, by decide, by decide +kernel⟩
theorem ml_X8_132 : ML RX8 132 yX8_isStep cX8_isStep 3 (some .boolean) 2 := ⟨tbT 807 (by decide +kernel) (by decide +kernel), tbT 809 (by decide +kernel) (by decide +kernel), tbS 33 (by decide +kernel) (by decide +kernel), tbT 10 (by decide +kernel) (by decide +kernel), tbT 810 (by decide +kernel) (by decide +kernel), by decide, by decide, by decide +kernel⟩
theorem ml_X8_137 : ML RX8 137 yX8_layAround cX8_layAround 6 none 1 := ⟨tbT 820 (by decide +kernel) (by decide +kernel), tbT 822 (by decide +kernel) (by decide +kernel), tbS 36 (by decide +kernel) (by decide +kernel), tbT 10 (by decide +kernel) (by decide +kernel), tbT 823 (by decide +kernel) (by decide +kernel), by decide, by decide, by decide +kernel⟩
theorem ml_X8_141 : ML RX8 141 yX8_layNeeds cX8_layNeeds 8 (some .int) 1 := ⟨tbT 816 (by decide +kernel) (by decide +kernel), tbT 818 (by decide +kernel) (by decide +kernel), tbS 35 (by decide +kernel) (by decide +kernel), tbT 10 (by decide +kernel) (by decide +kernel), tbT 819 (by decide +kernel) (by decide +kernel), by decide, by decide, by decide +kernel⟩
theorem ml_X8_145 : ML RX8 145 yX8_arcsAt cX8_arcsAt 4 (some .int) 1 := ⟨tbT 824 (by decide +kernel) (by decide +kernel), tbT 826 (by decide +kernel) (by decide +kernel), tbS 37 (by decide +kernel) (by decide +kernel), tbT 10 (by decide +kernel) (by decide +kernel), tbT 827 (by decide +kernel) (by decide +kernel), by decide, by decide, by decide +kernel⟩
theorem ml_X8_148 : ML RX8 148 yX8_laySteps cX8_laySteps 3 none 0 := ⟨tbT 803 (by decide +kernel) (by decide +kernel), tbT 805 (by decide +kernel) (by decide +kernel), tbS 32 (by decide +kernel) (by decide +kernel), tbT 10 (by decide +kernel) (by decide +kernel), tbT 806 (by decide +kernel) (by decide +kernel), by decide, by decide, by decide +kernel⟩
theorem ml_X8_151 : ML RX8 151 yX8_allLeft cX8_allLeft 2 none 0 := ⟨tbT 799 (by decide +kernel) (by decide +kernel), tbT 801 (by decide +kernel) (by decide +kernel), tbS 31 (by decide +kernel) (by decide +kernel), tbT 10 (by decide +kernel) (by decide +kernel), tbT 802 (by decide +kernel) (by decide +kernel), by decide, by decide, by decide +kernel⟩
theorem ml_X8_154 : ML RX8 154 yX8_nextRoad cX8_nextRoad 5 (some .int) 0 := ⟨tbT 812 (by decide +kernel) (by decide +kernel), tbT 814 (by decide +kernel) (by decide +kernel), tbS 34 (by decide +kernel) (by decide +kernel), tbT 10 (by decide +kernel) (by decide +kernel), tbT 815 (by decide +kernel) (by decide +kernel), by decide, by decide, by decide +kernel⟩
theorem ml_X8_157 : ML RX8 157 yX8_rankNow cX8_rankNow 5 none 2 := ⟨tbT 828 (by decide +kernel) (by decide +kernel), tbT 830 (by decide +kernel) (by decide +kernel), tbS 38 (by decide +kernel) (by decide +kernel), tbT 10 (by decide +kernel) (by decide +kernel), tbT 831 (by decide +kernel) (by decide +kernel), by decide, by decide, by decide +kernel⟩
theorem ml_X8_161 : ML RX8 161 yX8_layLeasts cX8_layLeasts 5 none 0 := ⟨tbT 836 (by decide +kernel) (by decide +kernel), tbT 838 (by decide +kernel) (by decide +kernel), tbS 40 (by decide +kernel) (by decide +kernel), tbT 10 (by decide +kernel) (by decide +kernel), tbT 839 (by decide +kernel) (by decide +kernel), by decide, by decide, by decide +kernel⟩
theorem ml_X8_164 : ML RX8 164 yX8_nextOn cX8_nextOn 4 (some .int) 2 := ⟨tbT 840 (by decide +kernel) (by decide +kernel), tbT 842 (by decide +kernel) (by decide +kernel), tbS 41 (by decide +kernel) (by decide +kernel), tbT 10 (by decide +kernel) (by decide +kernel), tbT 843 (by decide +kernel) (by decide +kernel), by decide, by decide, by decide +kernel⟩
theorem ml_X8_168 : ML RX8 168 yX8_isRoad cX8_isRoad 2 (some .boolean) 1 := ⟨tbT 848 (by decide +kernel) (by decide +kernel), tbT 850 (by decide +kernel) (by decide +kernel), tbS 42 (by decide +kernel) (by decide +kernel), tbT 10 (by decide +kernel) (by decide +kernel), tbT 851 (by decide +kernel) (by decide +kernel), by decide, by decide, by decide +kernel⟩
theorem ml_X8_174 : ML RX8 174 yX8_layArcs cX8_layArcs 2 none 0 := ⟨tbT 856 (by decide +kernel) (by decide +kernel), tbT 858 (by decide +kernel) (by decide +kernel), tbS 44 (by decide +kernel) (by decide +kernel), tbT 10 (by decide +kernel) (by decide +kernel), tbT 859 (by decide +kernel) (by decide +kernel), by decide, by decide, by decide +kernel⟩
theorem ml_X8_177 : ML RX8 177 yX8_alter cX8_alter 1 none 0 := ⟨tbT 852 (by decide +kernel) (by decide +kernel), tbT 854 (by decide +kernel) (by decide +kernel), tbS 43 (by decide +kernel) (by decide +kernel), tbT 10 (by decide +kernel) (by decide +kernel), tbT 855 (by decide +kernel) (by decide +kernel), by decide, by decide, by decide +kernel⟩
theorem ml_X8_180 : ML RX8 180 yX8_areRoads cX8_areRoads 3 (some .boolean) 2 := ⟨tbT 864 (by decide +kernel) (by decide +kernel), tbT 866 (by decide +kernel) (by decide +kernel), tbS 45 (by decide +kernel) (by decide +kernel), tbT 10 (by decide +kernel) (by decide +kernel), tbT 867 (by decide +kernel) (by decide +kernel), by decide, by decide, by decide +kernel⟩
theorem ml_X8_183 : ML RX8 183 yX8_isTurn cX8_isTurn 3 (some .boolean) 2 := ⟨tbT 868 (by decide +kernel) (by decide +kernel), tbT 870 (by decide +kernel) (by decide +kernel), tbS 46 (by decide +kernel) (by decide +kernel), tbT 10 (by decide +kernel) (by decide +kernel), tbT 871 (by decide +kernel) (by decide +kernel), by decide, by decide, by decide +kernel⟩
theorem ml_X8_189 : ML RX8 189 yX8_middleOf cX8_middleOf 5 (some .int) 1 := ⟨tbT 884 (by decide +kernel) (by decide +kernel), tbT 886 (by decide +kernel) (by decide +kernel), tbS 48 (by decide +kernel) (by decide +kernel), tbT 10 (by decide +kernel) (by decide +kernel), tbT 887 (by decide +kernel) (by decide +kernel), by decide, by decide, by decide +kernel⟩
theorem ml_X8_192 : ML RX8 192 yX8_roadNow cX8_roadNow 3 (some .int) 2 := ⟨tbT 880 (by decide +kernel) (by decide +kernel), tbT 882 (by decide +kernel) (by decide +kernel), tbS 47 (by decide +kernel) (by decide +kernel), tbT 10 (by decide +kernel) (by decide +kernel), tbT 883 (by decide +kernel) (by decide +kernel), by decide, by decide, by decide +kernel⟩
theorem ml_X8_195 : ML RX8 195 yX8_leastNow cX8_leastNow 4 (some .int) 2 := ⟨tbT 900 (by decide +kernel) (by decide +kernel), tbT 902 (by decide +kernel) (by decide +kernel), tbS 49 (by decide +kernel) (by decide +kernel), tbT 10 (by decide +kernel) (by decide +kernel), tbT 903 (by decide +kernel) (by decide +kernel), by decide, by decide, by decide +kernel⟩
theorem ml_X8_201 : ML RX8 201 yX8_layUnpacked cX8_layUnpacked 7 none 2 := ⟨tbT 916 (by decide +kernel) (by decide +kernel), tbT 918 (by decide +kernel) (by decide +kernel), tbS 51 (by decide +kernel) (by decide +kernel), tbT 10 (by decide +kernel) (by decide +kernel), tbT 919 (by decide +kernel) (by decide +kernel), by decide, by decide, by decide +kernel⟩
theorem ml_X8_204 : ML RX8 204 yX8_arcNow cX8_arcNow 5 (some .int) 3 := ⟨tbT 912 (by decide +kernel) (by decide +kernel), tbT 914 (by decide +kernel) (by decide +kernel), tbS 50 (by decide +kernel) (by decide +kernel), tbT 10 (by decide +kernel) (by decide +kernel), tbT 915 (by decide +kernel) (by decide +kernel), by decide, by decide, by decide +kernel⟩
theorem ml_X8_208 : ML RX8 208 yX8_layRisen cX8_layRisen 8 none 2 := ⟨tbT 932 (by decide +kernel) (by decide +kernel), tbT 934 (by decide +kernel) (by decide +kernel), tbS 53 (by decide +kernel) (by decide +kernel), tbT 10 (by decide +kernel) (by decide +kernel), tbT 935 (by decide +kernel) (by decide +kernel), by decide, by decide, by decide +kernel⟩
theorem ml_X8_212 : ML RX8 212 yX8_risenTo cX8_risenTo 4 (some .int) 3 := ⟨tbT 928 (by decide +kernel) (by decide +kernel), tbT 930 (by decide +kernel) (by decide +kernel), tbS 52 (by decide +kernel) (by decide +kernel), tbT 10 (by decide +kernel) (by decide +kernel), tbT 931 (by decide +kernel) (by decide +kernel), by decide, by decide, by decide +kernel⟩
theorem ml_X8_216 : ML RX8 216 yX8_meetNow cX8_meetNow 7 (some .int) 2 := ⟨tbT 944 (by decide +kernel) (by decide +kernel), tbT 946 (by decide +kernel) (by decide +kernel), tbS 54 (by decide +kernel) (by decide +kernel), tbT 10 (by decide +kernel) (by decide +kernel), tbT 947 (by decide +kernel) (by decide +kernel), by decide, by decide, by decide +kernel⟩
theorem ml_X8_219 : ML RX8 219 yX8_layTried cX8_layTried 6 none 1 := ⟨tbT 956 (by decide +kernel) (by decide +kernel), tbT 958 (by decide +kernel) (by decide +kernel), tbS 56 (by decide +kernel) (by decide +kernel), tbT 10 (by decide +kernel) (by decide +kernel), tbT 959 (by decide +kernel) (by decide +kernel), by decide, by decide, by decide +kernel⟩
theorem ml_X8_222 : ML RX8 222 yX8_routeBy cX8_routeBy 9 (some .int) 3 := ⟨tbT 960 (by decide +kernel) (by decide +kernel), tbT 962 (by decide +kernel) (by decide +kernel), tbS 57 (by decide +kernel) (by decide +kernel), tbT 10 (by decide +kernel) (by decide +kernel), tbT 963 (by decide +kernel) (by decide +kernel), by decide, by decide, by decide +kernel⟩
theorem ml_X8_225 : ML RX8 225 yX8_routeNow cX8_routeNow 4 (some .int) 2 := ⟨tbT 952 (by decide +kernel) (by decide +kernel), tbT 954 (by decide +kernel) (by decide +kernel), tbS 55 (by decide +kernel) (by decide +kernel), tbT 10 (by decide +kernel) (by decide +kernel), tbT 955 (by decide +kernel) (by decide +kernel), by decide, by decide, by decide +kernel⟩
theorem ml_X8_234 : ML RX8 234 yX8_layRoutes cX8_layRoutes 2 none 0 := ⟨tbT 972 (by decide +kernel) (by decide +kernel), tbT 974 (by decide +kernel) (by decide +kernel), tbS 59 (by decide +kernel) (by decide +kernel), tbT 10 (by decide +kernel) (by decide +kernel), tbT 975 (by decide +kernel) (by decide +kernel), by decide, by decide, by decide +kernel⟩
theorem ml_X8_237 : ML RX8 237 yX8_lossNow cX8_lossNow 6 (some .int) 2 := ⟨tbT 968 (by decide +kernel) (by decide +kernel), tbT 970 (by decide +kernel) (by decide +kernel), tbS 58 (by decide +kernel) (by decide +kernel), tbT 10 (by decide +kernel) (by decide +kernel), tbT 971 (by decide +kernel) (by decide +kernel), by decide, by decide, by decide +kernel⟩
theorem ml_X8_240 : ML RX8 240 yX8_busiest cX8_busiest 3 (some .int) 0 := ⟨tbT 984 (by decide +kernel) (by decide +kernel), tbT 986 (by decide +kernel) (by decide +kernel), tbS 61 (by decide +kernel) (by decide +kernel), tbT 10 (by decide +kernel) (by decide +kernel), tbT 987 (by decide +kernel) (by decide +kernel), by decide, by decide, by decide +kernel⟩
theorem ml_X8_243 : ML RX8 243 yX8_arcsAll cX8_arcsAll 5 (some .int) 1 := ⟨tbT 988 (by decide +kernel) (by decide +kernel), tbT 990 (by decide +kernel) (by decide +kernel), tbS 62 (by decide +kernel) (by decide +kernel), tbT 10 (by decide +kernel) (by decide +kernel), tbT 991 (by decide +kernel) (by decide +kernel), by decide, by decide, by decide +kernel⟩
theorem ml_X8_247 : ML RX8 247 yX8_allNow cX8_allNow 2 (some .int) 1 := ⟨tbT 980 (by decide +kernel) (by decide +kernel), tbT 982 (by decide +kernel) (by decide +kernel), tbS 60 (by decide +kernel) (by decide +kernel), tbT 10 (by decide +kernel) (by decide +kernel), tbT 983 (by decide +kernel) (by decide +kernel), by decide, by decide, by decide +kernel⟩
theorem ml_X8_250 : ML RX8 250 yX8_turnsAll cX8_turnsAll 6 (some .int) 1 := ⟨tbT 1000 (by decide +kernel) (by decide +kernel), tbT 1002 (by decide +kernel) (by decide +kernel), tbS 64 (by decide +kernel) (by decide +kernel), tbT 10 (by decide +kernel) (by decide +kernel), tbT 1003 (by decide +kernel) (by decide +kernel), by decide, by decide, by decide +kernel⟩
theorem ml_X8_253 : ML RX8 253 yX8_howMany cX8_howMany 2 (some .int) 1 := ⟨tbT 996 (by decide +kernel) (by decide +kernel), tbT 998 (by decide +kernel) (by decide +kernel), tbS 63 (by decide +kernel) (by decide +kernel), tbT 10 (by decide +kernel) (by decide +kernel), tbT 999 (by decide +kernel) (by decide +kernel), by decide, by decide, by decide +kernel⟩
theorem ml_X8_262 : ML RX8 262 yX8_mix cX8_mix 3 none 1 := ⟨tbT 1009 (by decide +kernel) (by decide +kernel), tbT 1011 (by decide +kernel) (by decide +kernel), tbS 65 (by decide +kernel) (by decide +kernel), tbT 10 (by decide +kernel) (by decide +kernel), tbT 1012 (by decide +kernel) (by decide +kernel), by decide, by decide, by decide +kernel⟩
theorem ml_X8_268 : ML RX8 268 yX8_mixPair cX8_mixPair 4 none 2 := ⟨tbT 1014 (by decide +kernel) (by decide +kernel), tbT 1016 (by decide +kernel) (by decide +kernel), tbS 66 (by decide +kernel) (by decide +kernel), tbT 10 (by decide +kernel) (by decide +kernel), tbT 1017 (by decide +kernel) (by decide +kernel), by decide, by decide, by decide +kernel⟩
theorem cn_X0_38 : Cond.constant RX0 38 268435456 ∈ gtbl := tbT 386 (by decide +kernel) (by decide +kernel)
theorem cn_X1_19 : Cond.constant RX1 19 268435456 ∈ gtbl := tbT 344 (by decide +kernel) (by decide +kernel)
theorem cn_X2_87 : Cond.constant RX2 87 268435456 ∈ gtbl := tbT 338 (by decide +kernel) (by decide +kernel)
theorem cn_X3_66 : Cond.constant RX3 66 268435456 ∈ gtbl := tbT 327 (by decide +kernel) (by decide +kernel)
theorem cn_X5_25 : Cond.constant RX5 25 268435456 ∈ gtbl := tbT 189 (by decide +kernel) (by decide +kernel)
theorem cn_X6_51 : Cond.constant RX6 51 268435456 ∈ gtbl := tbT 408 (by decide +kernel) (by decide +kernel)
theorem cn_X7_233 : Cond.constantLong RX7 233 1627 ∈ gtbl := tbT 607 (by decide +kernel) (by decide +kernel)
theorem cn_X7_285 : Cond.constantLong RX7 285 31 ∈ gtbl := tbT 616 (by decide +kernel) (by decide +kernel)
theorem cn_X7_287 : Cond.constant RX7 287 268435456 ∈ gtbl := tbT 533 (by decide +kernel) (by decide +kernel)
theorem cn_X8_136 : Cond.constant RX8 136 268435456 ∈ gtbl := tbT 811 (by decide +kernel) (by decide +kernel)
theorem cn_X8_256 : Cond.constantLong RX8 256 31 ∈ gtbl := tbT 1013 (by decide +kernel) (by decide +kernel)
theorem cn_X8_266 : Cond.constantLong RX8 266 1627 ∈ gtbl := tbT 1008 (by decide +kernel) (by decide +kernel)
theorem cn_X8_271 : Cond.constantLong RX8 271 (-1) ∈ gtbl := tbT 1018 (by decide +kernel) (by decide +kernel)
theorem mn_isPlace : Cond.static yX7_isPlace ∈ gtbl ∧ Cond.initialized yX7_isPlace.cls ∈ gtbl ∧ Cond.code yX7_isPlace cX7_isPlace 1 (some .boolean) ∈ gtbl ∧ yX7_isPlace.cls ≠ "java/lang/invoke/MethodHandle" ∧ yX7_isPlace.cls ≠ "java/lang/invoke/VarHandle" ∧ (parseMethodDescriptor yX7_isPlace.desc).map (fun d => d.parameters.length) = some 1 := ⟨tbT 261 (by decide +kernel) (by decide +kernel), tbT 1 (by decide +kernel) (by decide +kernel), tbT 262 (by decide +kernel) (by decide +kernel), by decide, by decide, by decide +kernel⟩
theorem gu_M_iPageLength : guB layM (0, 0) 0 0 = true := by decide +kernel
theorem gu_M_iRoads : guB layM (0, 1) 0 2 = true := by decide +kernel
theorem gu_M_iRead : guB layM (0, 2) 0 13 = true := by decide +kernel
theorem gu_M_iAltered : guB layM (0, 3) 0 14 = true := by decide +kernel
theorem gu_M_iRanked : guB layM (0, 4) 0 15 = true := by decide +kernel
theorem gu_M_iStage : guB layM (0, 5) 0 16 = true := by decide +kernel
theorem gu_M_iFigures : guB layM (0, 6) 0 17 = true := by decide +kernel
theorem gu_M_iNewRoads : guB layM (0, 7) 0 18 = true := by decide +kernel
theorem gu_M_iTold : guB layM (0, 8) 0 29 = true := by decide +kernel
theorem gu_M_iRouted : guB layM (0, 9) 0 35 = true := by decide +kernel
theorem gu_M_iRouteSum : guB layM (0, 10) 0 36 = true := by decide +kernel
theorem gu_M_jH : guB layM (2, 0) 0 37 = true := by decide +kernel
theorem ga_M_aPage : gaB layM 0 1 = true := by decide +kernel
theorem ga_M_aBeginOf : gaB layM 1 2 = true := by decide +kernel
theorem ga_M_aEndOf : gaB layM 2 3 = true := by decide +kernel
theorem ga_M_aLengthOf : gaB layM 3 4 = true := by decide +kernel
theorem ga_M_aCosts : gaB layM 4 5 = true := by decide +kernel
theorem ga_M_aRankOf : gaB layM 5 6 = true := by decide +kernel
theorem ga_M_aRoadAt : gaB layM 6 7 = true := by decide +kernel
theorem ga_M_aWorths : gaB layM 7 8 = true := by decide +kernel
theorem ga_M_aMiddles : gaB layM 8 9 = true := by decide +kernel
theorem ga_M_aLeasts : gaB layM 9 10 = true := by decide +kernel
theorem ga_M_aBusy : gaB layM 10 11 = true := by decide +kernel
theorem ga_M_aNewBegin : gaB layM 11 12 = true := by decide +kernel
theorem ga_M_aNewEnd : gaB layM 12 13 = true := by decide +kernel
theorem ga_M_aNewLength : gaB layM 13 14 = true := by decide +kernel
theorem ga_M_aIsLeft : gaB layM 14 15 = true := by decide +kernel
theorem ga_M_aAround : gaB layM 15 16 = true := by decide +kernel
theorem ga_M_aWhole : gaB layM 16 17 = true := by decide +kernel
theorem ga_M_aIsNeeded : gaB layM 17 18 = true := by decide +kernel
theorem ga_M_aWereRanks : gaB layM 18 19 = true := by decide +kernel
theorem ga_M_aWaitFrom : gaB layM 19 20 = true := by decide +kernel
theorem ga_M_aWaitTo : gaB layM 20 21 = true := by decide +kernel
theorem ga_M_aToldAt : gaB layM 21 22 = true := by decide +kernel
theorem ga_M_aRisen : gaB layM 22 23 = true := by decide +kernel
theorem ga_M_aUps : gaB layM 23 24 = true := by decide +kernel
theorem ga_M_aTried : gaB layM 24 25 = true := by decide +kernel
theorem ga_M_aRoutes : gaB layM 25 26 = true := by decide +kernel
theorem gk_M : gkB layM = true := by decide +kernel
theorem gu_B_iReadings : guB layB (0, 0) 22 6 = true := by decide +kernel
theorem gu_B_iAlterations : guB layB (0, 1) 22 7 = true := by decide +kernel
theorem gu_B_iRankings : guB layB (0, 2) 22 8 = true := by decide +kernel
theorem gu_B_iLetters : guB layB (0, 3) 23 1 = true := by decide +kernel
theorem gu_B_iCurrent : guB layB (0, 4) 23 5 = true := by decide +kernel
theorem gu_B_iDue : guB layB (0, 5) 23 6 = true := by decide +kernel
theorem gu_B_iSize : guB layB (0, 6) 24 0 = true := by decide +kernel
theorem gu_B_iLsize : guB layB (0, 7) 25 0 = true := by decide +kernel
theorem ga_B_gCosts : gaB layB 0 11 = true := by decide +kernel
theorem ga_B_gWorths : gaB layB 1 12 = true := by decide +kernel
theorem ga_B_gMiddles : gaB layB 2 13 = true := by decide +kernel
theorem ga_B_gApart : gaB layB 3 14 = true := by decide +kernel
theorem ga_B_gApartWithout : gaB layB 4 15 = true := by decide +kernel
theorem ga_B_gNeeded : gaB layB 5 16 = true := by decide +kernel
theorem ga_B_gUps : gaB layB 6 17 = true := by decide +kernel
theorem ga_B_gDowns : gaB layB 7 18 = true := by decide +kernel
theorem ga_B_gKeys : gaB layB 8 19 = true := by decide +kernel
theorem ga_B_gNexts : gaB layB 9 20 = true := by decide +kernel
theorem ga_B_gShutKeys : gaB layB 10 21 = true := by decide +kernel
theorem ga_B_aCodes : gaB layB 11 29 = true := by decide +kernel
theorem ga_B_aPbegins : gaB layB 12 30 = true := by decide +kernel
theorem ga_B_aPends : gaB layB 13 31 = true := by decide +kernel
theorem ga_B_aPlengths : gaB layB 14 32 = true := by decide +kernel
theorem ga_B_aBegins : gaB layB 15 33 = true := by decide +kernel
theorem ga_B_aEnds : gaB layB 16 34 = true := by decide +kernel
theorem ga_B_aLengths : gaB layB 17 35 = true := by decide +kernel
theorem ga_B_aRanks : gaB layB 18 36 = true := by decide +kernel
theorem ga_B_aRoadsByRank : gaB layB 19 37 = true := by decide +kernel
theorem ga_B_aRow : gaB layB 20 38 = true := by decide +kernel
theorem ga_B_aRanksBefore : gaB layB 21 39 = true := by decide +kernel
theorem ga_B_aBusy : gaB layB 22 40 = true := by decide +kernel
theorem ga_B_aOpen : gaB layB 23 41 = true := by decide +kernel
theorem ga_B_aShut : gaB layB 24 42 = true := by decide +kernel
theorem gk_B : gkB layB = true := by decide +kernel
theorem GM.go {l : Launch} {y : MethodName} {cc : ByteArray} {nL : Nat} {ret : Option FieldType} {fr lo : Nat} {D : va_G} {cI cZ : ClassId} {lay : List gcl} {q : Nat → Nat} {av : List Value} {w : gS} {o : Option Value} {w' : gS} (own : String) (hy : plainName y.cls = true) (hC : y.cls = own) (hn : (lg_sl av).length ≤ nL)
    (body : ∀ (p : Program) (e : Env) (s : State) (m : MethodId) (args : Array Value) (below : List Frame) (meth : Method) (c : Code) (ls : Array Slot) (R : Room) (Q : State → Prop) (H : Heap) (locs : List Loc), CallFix p m c cc nL s args gtbl own → meth.sig.returnType = ret → meth.locks = false → GT D cI cZ s → GH D cI cZ lay q s w H locs → lv_has ls nL (lv_args 0 av) →
      R = { frames := fr, cells := 0, slots := 0, locals := lo } → Q = MQ below (GQc D cI cZ lay q o w') args s 0 0 (gA lay q) → W p l e R s m args below meth c H locs 0 0 Q (F0 m 0 ls [])) : GM l y cc nL ret fr lo D cI cZ lay q av w o w' :=
  GM.intro own hy hC hn (fun p e s m below meth c ls X h1 h2 hT hG hl => body p e s m _ below meth c ls _ _ _ _ X h1 h2 hT hG hl rfl rfl)
section GR2
variable {p : Program} {l : Launch} {e : Env} {R : Room} {s : State} {m : MethodId} {args : Array Value} {below : List Frame} {meth : Method} {c : Code} {H : Heap} {locs : List Loc} {Q : State → Prop}
variable {cc : ByteArray} {pc nL : Nat} {ls : Array Slot} {own : String} {D : va_G} {cI cZ : ClassId} {lay : List gcl} {q : Nat → Nat} {w : gS}
theorem g_callVr {st0 : List Value} {y : MethodName} {bytes : ByteArray} {maxL n fr lo index ci : Nat} {ret : Option FieldType} {v : Value} {w' : gS} {fs : List gfd} {r : vw_C} (As rest : List Value) (i : Nat) (X : CallFix p m c cc nL s args gtbl own) (hT : GT D cI cZ s) (hG : GH D cI cZ lay q s w H locs) (hL : ML own index y bytes maxL ret n) (hM : GM l y bytes maxL ret fr lo D cI cZ lay q (.ref (q i) :: As) w (some v) w')
    (hi : lay[i]? = some (.inr (ci, fs))) (hc : vwCl[ci]? = some r) (hy : r.1 = y.cls) (hst : st0 = As.reverse ++ .ref (q i) :: rest) (hn : As.length = n) (hsz : ls.size = nL) (hW : (rest.map fun v => v.category).sum ≤ 8) (hR : fr + 1 ≤ R.frames ∧ 8 + (maxL + 11) + lo ≤ R.locals) (hdg : decode cc pc = .ok (.invokevirtual index, 3))
    (kk : ∀ (H : Heap) (locs : List Loc), GH D cI cZ lay q s w' H locs → W p l e R s m args below meth c H locs 0 0 Q (F0 m (pc + 3) ls (v :: rest))) : W p l e R s m args below meth c H locs 0 0 Q (F0 m pc ls st0) := g_callV As rest i X hT hG hL hM hi hc hy hst hn hsz hW hR hdg kk
theorem g_callVv {st0 : List Value} {y : MethodName} {bytes : ByteArray} {maxL n fr lo index ci : Nat} {ret : Option FieldType} {w' : gS} {fs : List gfd} {r : vw_C} (As rest : List Value) (i : Nat) (X : CallFix p m c cc nL s args gtbl own) (hT : GT D cI cZ s) (hG : GH D cI cZ lay q s w H locs) (hL : ML own index y bytes maxL ret n) (hM : GM l y bytes maxL ret fr lo D cI cZ lay q (.ref (q i) :: As) w none w')
    (hi : lay[i]? = some (.inr (ci, fs))) (hc : vwCl[ci]? = some r) (hy : r.1 = y.cls) (hst : st0 = As.reverse ++ .ref (q i) :: rest) (hn : As.length = n) (hsz : ls.size = nL) (hW : (rest.map fun v => v.category).sum ≤ 8) (hR : fr + 1 ≤ R.frames ∧ 8 + (maxL + 11) + lo ≤ R.locals) (hdg : decode cc pc = .ok (.invokevirtual index, 3))
    (kk : ∀ (H : Heap) (locs : List Loc), GH D cI cZ lay q s w' H locs → W p l e R s m args below meth c H locs 0 0 Q (F0 m (pc + 3) ls rest)) : W p l e R s m args below meth c H locs 0 0 Q (F0 m pc ls st0) := g_callV As rest i X hT hG hL hM hi hc hy hst hn hsz hW hR hdg kk
theorem g_callSr {st0 : List Value} {y : MethodName} {bytes : ByteArray} {maxL n fr lo index : Nat} {ret : Option FieldType} {v : Value} {w' : gS} (As rest : List Value) (X : CallFix p m c cc nL s args gtbl own) (hT : GT D cI cZ s) (hG : GH D cI cZ lay q s w H locs) (hL : MLs own index y bytes maxL ret n) (hM : GM l y bytes maxL ret fr lo D cI cZ lay q As w (some v) w')
    (hst : st0 = As.reverse ++ rest) (hn : As.length = n) (hsz : ls.size = nL) (hW : (rest.map fun v => v.category).sum ≤ 8) (hR : fr + 1 ≤ R.frames ∧ 8 + (maxL + 11) + lo ≤ R.locals) (hdg : decode cc pc = .ok (.invokestatic index, 3))
    (kk : ∀ (H : Heap) (locs : List Loc), GH D cI cZ lay q s w' H locs → W p l e R s m args below meth c H locs 0 0 Q (F0 m (pc + 3) ls (v :: rest))) : W p l e R s m args below meth c H locs 0 0 Q (F0 m pc ls st0) := g_callS As rest X hT hG hL hM hst hn hsz hW hR hdg kk
theorem g_callSv {st0 : List Value} {y : MethodName} {bytes : ByteArray} {maxL n fr lo index : Nat} {ret : Option FieldType} {w' : gS} (As rest : List Value) (X : CallFix p m c cc nL s args gtbl own) (hT : GT D cI cZ s) (hG : GH D cI cZ lay q s w H locs) (hL : MLs own index y bytes maxL ret n) (hM : GM l y bytes maxL ret fr lo D cI cZ lay q As w none w')
    (hst : st0 = As.reverse ++ rest) (hn : As.length = n) (hsz : ls.size = nL) (hW : (rest.map fun v => v.category).sum ≤ 8) (hR : fr + 1 ≤ R.frames ∧ 8 + (maxL + 11) + lo ≤ R.locals) (hdg : decode cc pc = .ok (.invokestatic index, 3))
    (kk : ∀ (H : Heap) (locs : List Loc), GH D cI cZ lay q s w' H locs → W p l e R s m args below meth c H locs 0 0 Q (F0 m (pc + 3) ls rest)) : W p l e R s m args below meth c H locs 0 0 Q (F0 m pc ls st0) := g_callS As rest X hT hG hL hM hst hn hsz hW hR hdg kk
theorem g_callSNr {st0 : List Value} {maxL fr lo index : Nat} {y : MethodName} {bytes : ByteArray} {n : Nat} {ret : Option FieldType} {v : Value} {w' : gS} {host : String} (As rest : List Value) (X : CallFix p m c cc nL s args gtbl own) (hT : GT D cI cZ s) (hG : GH D cI cZ lay q s w H locs) (hN : va_Nw (.methodLinkNest own index y host) s) (hL : Cond.static y ∈ gtbl ∧ Cond.initialized y.cls ∈ gtbl ∧ Cond.code y bytes maxL ret ∈ gtbl ∧ y.cls ≠ "java/lang/invoke/MethodHandle" ∧ y.cls ≠ "java/lang/invoke/VarHandle" ∧ (parseMethodDescriptor y.desc).map (fun d => d.parameters.length) = some n) (hM : GM l y bytes maxL ret fr lo D cI cZ lay q As w (some v) w')
    (hst : st0 = As.reverse ++ rest) (hn : As.length = n) (hsz : ls.size = nL) (hW : (rest.map fun v => v.category).sum ≤ 8) (hR : fr + 1 ≤ R.frames ∧ 8 + (maxL + 11) + lo ≤ R.locals) (hdg : decode cc pc = .ok (.invokestatic index, 3))
    (kk : ∀ (H : Heap) (locs : List Loc), GH D cI cZ lay q s w' H locs → W p l e R s m args below meth c H locs 0 0 Q (F0 m (pc + 3) ls (v :: rest))) : W p l e R s m args below meth c H locs 0 0 Q (F0 m pc ls st0) := g_callSN As rest X hT hG hN hL hM hst hn hsz hW hR hdg kk
/-- System.arraycopy of a whole row of twelve -/
theorem g_copy (i0 i1 : Nat) {n0 n1 k0 k1 : Nat} {index : Nat} (X : CallFix p m c cc nL s args gtbl own) (hT : GT D cI cZ s) (hq : gJ lay q) (hG : GH D cI cZ lay q s w H locs) (hL : Cond.methodLink own index arraycopyName ∈ gtbl ∧ Cond.native arraycopyName ∈ gtbl ∧ Cond.static arraycopyName ∈ gtbl ∧ Cond.initialized "java/lang/System" ∈ gtbl) (h0 : lay[i0]? = some (.inl (k0, n0, false))) (h1 : lay[i1]? = some (.inl (k1, n1, false))) (hu : gaB lay k1 i1 = true) (hk : k1 < w.2.2.length) {sp dp n : Int32} (c1 : ¬ sp < 0) (c2 : ¬ dp < 0) (c3 : ¬ n < 0) (c4 : sp.toNatClampNeg + n.toNatClampNeg ≤ n0) (c5 : dp.toNatClampNeg + n.toNatClampNeg ≤ n1) (hsz : ls.size = nL) (hf : 1 ≤ R.frames) (hlo : 18 ≤ R.locals) {w' : gS} (hw : (w.1, w.2.1, w.2.2.set k1 (va_cpy (w.2.2.getD k0 (fun _ => 0)) (w.2.2.getD k1 (fun _ => 0)) sp.toNatClampNeg dp.toNatClampNeg n.toNatClampNeg)) = w') (hdg : decode cc pc = .ok (.invokestatic index, 3))
    (kk : ∀ (H : Heap) (locs : List Loc), GH D cI cZ lay q s w' H locs → W p l e R s m args below meth c H locs 0 0 Q (F0 m (pc + 3) ls [])) : W p l e R s m args below meth c H locs 0 0 Q (F0 m pc ls [.int n, .int dp, .ref (q i1), .int sp, .ref (q i0)]) := by
  obtain ⟨hx, hb, hml, hown, hts⟩ := X
  refine va_copyi hx hb (hml.trans hsz.symm) hown (hts _ hL.1) (hts _ hL.2.1) (hts _ hL.2.2.1) (hts _ hL.2.2.2) hT.1 hG.1 (gD hq) hG.2 i0 i1 0 0 (gw_at h0) (gw_at h1) rfl rfl rfl c1 c2 c3 c4 c5 (fun i _ => rfl) hf hlo hdg (fun H1 locs1 hP1 _ hS1 => ?_)
  have e := gw_setA (cI := cI) (cZ := cZ) (q := q) (w := w) (f := va_cpy (w.2.2.getD k0 (fun _ => 0)) (w.2.2.getD k1 (fun _ => 0)) sp.toNatClampNeg dp.toNatClampNeg n.toNatClampNeg) h1 hu hk
  rw [e, hw] at hP1
  exact kk H1 locs1 ⟨hP1, hS1⟩
theorem g_eqi {x y : Int32} {rest : List Value} (h : x = y) (k : W p l e R s m args below meth c H locs 0 0 Q (F0 m pc ls (.int y :: rest))) : W p l e R s m args below meth c H locs 0 0 Q (F0 m pc ls (.int x :: rest)) := h ▸ k
end GR2
theorem sw_out {x : Int32} {n : Nat} (hn : n < 2 ^ 31) (h : ∀ k, k < n → ¬ x = nI k) : x.toInt < 0 ∨ (n : Int) - 1 < x.toInt := by
  rcases pk_ix x hn with h1 | h1 | ⟨j, hj, h1⟩
  · left
    have := Int32.lt_iff_toInt_lt.mp h1
    simpa using this
  · right
    have := Int32.le_iff_toInt_le.mp h1
    rw [nI_toInt hn] at this
    omega
  · exact absurd h1 (h j hj)
theorem mc_X3_39 : Cond.methodLink RX3 39 arraycopyName ∈ gtbl ∧ Cond.native arraycopyName ∈ gtbl ∧ Cond.static arraycopyName ∈ gtbl ∧ Cond.initialized "java/lang/System" ∈ gtbl := ⟨tbT 296 (by decide +kernel) (by decide +kernel), tbT 298 (by decide +kernel) (by decide +kernel), tbT 297 (by decide +kernel) (by decide +kernel), tbT 11 (by decide +kernel) (by decide +kernel)⟩
theorem mc_X2_63 : Cond.methodLink RX2 63 arraycopyName ∈ gtbl ∧ Cond.native arraycopyName ∈ gtbl ∧ Cond.static arraycopyName ∈ gtbl ∧ Cond.initialized "java/lang/System" ∈ gtbl := ⟨tbT 471 (by decide +kernel) (by decide +kernel), tbT 298 (by decide +kernel) (by decide +kernel), tbT 297 (by decide +kernel) (by decide +kernel), tbT 11 (by decide +kernel) (by decide +kernel)⟩
end
