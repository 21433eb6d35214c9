section
-- ===== PART A: goes FIRST, ahead of the names: the tables' words, and 'selects' of the private methods out of them =====
/-- a private method of a class that the tables say can be made, by its rows of tables_1 -/
def lw_okq (q : MethodName × Nat) : Prop := (q.1.cls ≠ "java/lang/invoke/MethodHandle" ∧ q.1.cls ≠ "java/lang/invoke/VarHandle") ∧ Cond.instantiable q.1.cls q.2 ∈ tables_1 ∧ Cond.privateMethod q.1 ∈ tables_1 ∧ Cond.instanceMethod q.1 ∈ tables_1
theorem lw_p0 : lw_okq (⟨"JoinWays$Shelf", "placeOf", "(III)I"⟩, 8) := ⟨⟨by decide +kernel, by decide +kernel⟩, List.mem_of_getElem? (i := 23) (by decide +kernel), List.mem_of_getElem? (i := 308) (by decide +kernel), List.mem_of_getElem? (i := 309) (by decide +kernel)⟩
theorem lw_p1 : lw_okq (⟨"JoinWays$Matches", "foretold", "(I)I"⟩, 5) := ⟨⟨by decide +kernel, by decide +kernel⟩, List.mem_of_getElem? (i := 55) (by decide +kernel), List.mem_of_getElem? (i := 354) (by decide +kernel), List.mem_of_getElem? (i := 355) (by decide +kernel)⟩
theorem lw_p2 : lw_okq (⟨"JoinWays$Matches", "unlikeButLeast", "(II)J"⟩, 5) := ⟨⟨by decide +kernel, by decide +kernel⟩, List.mem_of_getElem? (i := 55) (by decide +kernel), List.mem_of_getElem? (i := 358) (by decide +kernel), List.mem_of_getElem? (i := 359) (by decide +kernel)⟩
theorem lw_p3 : lw_okq (⟨"JoinWays$Matches", "allowAllRows", "()V"⟩, 5) := ⟨⟨by decide +kernel, by decide +kernel⟩, List.mem_of_getElem? (i := 55) (by decide +kernel), List.mem_of_getElem? (i := 369) (by decide +kernel), List.mem_of_getElem? (i := 370) (by decide +kernel)⟩
theorem lw_p4 : lw_okq (⟨"JoinWays$Matches", "counted", "(I)I"⟩, 5) := ⟨⟨by decide +kernel, by decide +kernel⟩, List.mem_of_getElem? (i := 55) (by decide +kernel), List.mem_of_getElem? (i := 376) (by decide +kernel), List.mem_of_getElem? (i := 377) (by decide +kernel)⟩
theorem lw_p5 : lw_okq (⟨"JoinWays$Matches", "weigh", "(II)V"⟩, 5) := ⟨⟨by decide +kernel, by decide +kernel⟩, List.mem_of_getElem? (i := 55) (by decide +kernel), List.mem_of_getElem? (i := 388) (by decide +kernel), List.mem_of_getElem? (i := 389) (by decide +kernel)⟩
theorem lw_p6 : lw_okq (⟨"JoinWays$Matches", "firstLike", "(III)I"⟩, 5) := ⟨⟨by decide +kernel, by decide +kernel⟩, List.mem_of_getElem? (i := 55) (by decide +kernel), List.mem_of_getElem? (i := 392) (by decide +kernel), List.mem_of_getElem? (i := 393) (by decide +kernel)⟩
theorem lw_p7 : lw_okq (⟨"JoinWays$Matches", "countFrom", "(III)I"⟩, 5) := ⟨⟨by decide +kernel, by decide +kernel⟩, List.mem_of_getElem? (i := 55) (by decide +kernel), List.mem_of_getElem? (i := 397) (by decide +kernel), List.mem_of_getElem? (i := 398) (by decide +kernel)⟩
theorem lw_p8 : lw_okq (⟨"JoinWays$Shelf", "rowsRise", "(II)Z"⟩, 8) := ⟨⟨by decide +kernel, by decide +kernel⟩, List.mem_of_getElem? (i := 23) (by decide +kernel), List.mem_of_getElem? (i := 409) (by decide +kernel), List.mem_of_getElem? (i := 410) (by decide +kernel)⟩
theorem lw_p9 : lw_okq (⟨"JoinWays", "refusalOfMember", "(II)I"⟩, 7) := ⟨⟨by decide +kernel, by decide +kernel⟩, List.mem_of_getElem? (i := 15) (by decide +kernel), List.mem_of_getElem? (i := 450) (by decide +kernel), List.mem_of_getElem? (i := 451) (by decide +kernel)⟩
theorem lw_p10 : lw_okq (⟨"JoinWays$Matches", "fixRow", "(III)I"⟩, 5) := ⟨⟨by decide +kernel, by decide +kernel⟩, List.mem_of_getElem? (i := 55) (by decide +kernel), List.mem_of_getElem? (i := 458) (by decide +kernel), List.mem_of_getElem? (i := 459) (by decide +kernel)⟩
theorem lw_p11 : lw_okq (⟨"JoinWays$Sheet", "takes", "(II)Z"⟩, 7) := ⟨⟨by decide +kernel, by decide +kernel⟩, List.mem_of_getElem? (i := 77) (by decide +kernel), List.mem_of_getElem? (i := 514) (by decide +kernel), List.mem_of_getElem? (i := 515) (by decide +kernel)⟩
theorem lw_p12 : lw_okq (⟨"JoinWays$Sheet", "takesOpen", "(I)Z"⟩, 7) := ⟨⟨by decide +kernel, by decide +kernel⟩, List.mem_of_getElem? (i := 77) (by decide +kernel), List.mem_of_getElem? (i := 518) (by decide +kernel), List.mem_of_getElem? (i := 519) (by decide +kernel)⟩
theorem lw_p13 : lw_okq (⟨"JoinWays$Sheet", "takesTable", "(II)Z"⟩, 7) := ⟨⟨by decide +kernel, by decide +kernel⟩, List.mem_of_getElem? (i := 77) (by decide +kernel), List.mem_of_getElem? (i := 523) (by decide +kernel), List.mem_of_getElem? (i := 524) (by decide +kernel)⟩
theorem lw_p14 : lw_okq (⟨"JoinWays$Sheet", "atRightSide", "()Z"⟩, 7) := ⟨⟨by decide +kernel, by decide +kernel⟩, List.mem_of_getElem? (i := 77) (by decide +kernel), List.mem_of_getElem? (i := 527) (by decide +kernel), List.mem_of_getElem? (i := 528) (by decide +kernel)⟩
theorem lw_p15 : lw_okq (⟨"JoinWays$Sheet", "takesClose", "(I)Z"⟩, 7) := ⟨⟨by decide +kernel, by decide +kernel⟩, List.mem_of_getElem? (i := 77) (by decide +kernel), List.mem_of_getElem? (i := 531) (by decide +kernel), List.mem_of_getElem? (i := 532) (by decide +kernel)⟩
def lw_privs_1 : List (MethodName × Nat) := [(⟨"JoinWays$Shelf", "placeOf", "(III)I"⟩, 8), (⟨"JoinWays$Matches", "foretold", "(I)I"⟩, 5), (⟨"JoinWays$Matches", "unlikeButLeast", "(II)J"⟩, 5), (⟨"JoinWays$Matches", "allowAllRows", "()V"⟩, 5), (⟨"JoinWays$Matches", "counted", "(I)I"⟩, 5), (⟨"JoinWays$Matches", "weigh", "(II)V"⟩, 5), (⟨"JoinWays$Matches", "firstLike", "(III)I"⟩, 5), (⟨"JoinWays$Matches", "countFrom", "(III)I"⟩, 5), (⟨"JoinWays$Shelf", "rowsRise", "(II)Z"⟩, 8), (⟨"JoinWays", "refusalOfMember", "(II)I"⟩, 7), (⟨"JoinWays$Matches", "fixRow", "(III)I"⟩, 5), (⟨"JoinWays$Sheet", "takes", "(II)Z"⟩, 7), (⟨"JoinWays$Sheet", "takesOpen", "(I)Z"⟩, 7), (⟨"JoinWays$Sheet", "takesTable", "(II)Z"⟩, 7), (⟨"JoinWays$Sheet", "atRightSide", "()Z"⟩, 7), (⟨"JoinWays$Sheet", "takesClose", "(I)Z"⟩, 7)]
theorem lw_r1 : ∀ q ∈ lw_privs_1, lw_okq q := List.forall_mem_cons.mpr ⟨lw_p0, List.forall_mem_cons.mpr ⟨lw_p1, List.forall_mem_cons.mpr ⟨lw_p2, List.forall_mem_cons.mpr ⟨lw_p3, List.forall_mem_cons.mpr ⟨lw_p4, List.forall_mem_cons.mpr ⟨lw_p5, List.forall_mem_cons.mpr ⟨lw_p6, List.forall_mem_cons.mpr ⟨lw_p7, List.forall_mem_cons.mpr ⟨lw_p8, List.forall_mem_cons.mpr ⟨lw_p9, List.forall_mem_cons.mpr ⟨lw_p10, List.forall_mem_cons.mpr ⟨lw_p11, List.forall_mem_cons.mpr ⟨lw_p12, List.forall_mem_cons.mpr ⟨lw_p13, List.forall_mem_cons.mpr ⟨lw_p14, List.forall_mem_cons.mpr ⟨lw_p15, fun _ h => absurd h List.not_mem_nil⟩⟩⟩⟩⟩⟩⟩⟩⟩⟩⟩⟩⟩⟩⟩⟩
theorem lw_p16 : lw_okq (⟨"JoinWays$Sheet", "takesWay", "(I)Z"⟩, 7) := ⟨⟨by decide +kernel, by decide +kernel⟩, List.mem_of_getElem? (i := 77) (by decide +kernel), List.mem_of_getElem? (i := 535) (by decide +kernel), List.mem_of_getElem? (i := 536) (by decide +kernel)⟩
theorem lw_p17 : lw_okq (⟨"JoinWays$Judge", "joinLastTwo", "()V"⟩, 11) := ⟨⟨by decide +kernel, by decide +kernel⟩, List.mem_of_getElem? (i := 105) (by decide +kernel), List.mem_of_getElem? (i := 560) (by decide +kernel), List.mem_of_getElem? (i := 561) (by decide +kernel)⟩
theorem lw_p18 : lw_okq (⟨"JoinWays$Judge", "sortingUnless", "(II)I"⟩, 11) := ⟨⟨by decide +kernel, by decide +kernel⟩, List.mem_of_getElem? (i := 105) (by decide +kernel), List.mem_of_getElem? (i := 578) (by decide +kernel), List.mem_of_getElem? (i := 579) (by decide +kernel)⟩
theorem lw_p19 : lw_okq (⟨"JoinWays$Judge", "holdTable", "(I)V"⟩, 11) := ⟨⟨by decide +kernel, by decide +kernel⟩, List.mem_of_getElem? (i := 105) (by decide +kernel), List.mem_of_getElem? (i := 585) (by decide +kernel), List.mem_of_getElem? (i := 586) (by decide +kernel)⟩
theorem lw_p20 : lw_okq (⟨"JoinWays$Judge", "holdWay", "(I)V"⟩, 11) := ⟨⟨by decide +kernel, by decide +kernel⟩, List.mem_of_getElem? (i := 105) (by decide +kernel), List.mem_of_getElem? (i := 591) (by decide +kernel), List.mem_of_getElem? (i := 592) (by decide +kernel)⟩
theorem lw_p21 : lw_okq (⟨"JoinWays", "refusalOfChoice", "(IIII)I"⟩, 7) := ⟨⟨by decide +kernel, by decide +kernel⟩, List.mem_of_getElem? (i := 15) (by decide +kernel), List.mem_of_getElem? (i := 619) (by decide +kernel), List.mem_of_getElem? (i := 620) (by decide +kernel)⟩
theorem lw_p22 : lw_okq (⟨"JoinWays$Chooser", "forget", "(I)V"⟩, 8) := ⟨⟨by decide +kernel, by decide +kernel⟩, List.mem_of_getElem? (i := 145) (by decide +kernel), List.mem_of_getElem? (i := 630) (by decide +kernel), List.mem_of_getElem? (i := 631) (by decide +kernel)⟩
theorem lw_p23 : lw_okq (⟨"JoinWays$Chooser", "takeTable", "(I)V"⟩, 8) := ⟨⟨by decide +kernel, by decide +kernel⟩, List.mem_of_getElem? (i := 145) (by decide +kernel), List.mem_of_getElem? (i := 635) (by decide +kernel), List.mem_of_getElem? (i := 636) (by decide +kernel)⟩
theorem lw_p24 : lw_okq (⟨"JoinWays$Chooser", "offer", "(IIIJ)V"⟩, 8) := ⟨⟨by decide +kernel, by decide +kernel⟩, List.mem_of_getElem? (i := 145) (by decide +kernel), List.mem_of_getElem? (i := 641) (by decide +kernel), List.mem_of_getElem? (i := 642) (by decide +kernel)⟩
theorem lw_p25 : lw_okq (⟨"JoinWays$Chooser", "putIfBetter", "(IIJ)V"⟩, 8) := ⟨⟨by decide +kernel, by decide +kernel⟩, List.mem_of_getElem? (i := 145) (by decide +kernel), List.mem_of_getElem? (i := 645) (by decide +kernel), List.mem_of_getElem? (i := 646) (by decide +kernel)⟩
theorem lw_p26 : lw_okq (⟨"JoinWays$Chooser", "takeSteps", "(II)V"⟩, 8) := ⟨⟨by decide +kernel, by decide +kernel⟩, List.mem_of_getElem? (i := 145) (by decide +kernel), List.mem_of_getElem? (i := 649) (by decide +kernel), List.mem_of_getElem? (i := 650) (by decide +kernel)⟩
theorem lw_p27 : lw_okq (⟨"JoinWays$Chooser", "takeLoops", "(II)V"⟩, 8) := ⟨⟨by decide +kernel, by decide +kernel⟩, List.mem_of_getElem? (i := 145) (by decide +kernel), List.mem_of_getElem? (i := 653) (by decide +kernel), List.mem_of_getElem? (i := 654) (by decide +kernel)⟩
theorem lw_p28 : lw_okq (⟨"JoinWays$Chooser", "takeParts", "(II)V"⟩, 8) := ⟨⟨by decide +kernel, by decide +kernel⟩, List.mem_of_getElem? (i := 145) (by decide +kernel), List.mem_of_getElem? (i := 665) (by decide +kernel), List.mem_of_getElem? (i := 666) (by decide +kernel)⟩
theorem lw_p29 : lw_okq (⟨"JoinWays$Chooser", "takeSorted", "(III)V"⟩, 8) := ⟨⟨by decide +kernel, by decide +kernel⟩, List.mem_of_getElem? (i := 145) (by decide +kernel), List.mem_of_getElem? (i := 670) (by decide +kernel), List.mem_of_getElem? (i := 671) (by decide +kernel)⟩
theorem lw_p30 : lw_okq (⟨"JoinWays$Chooser", "slotFor", "(II)I"⟩, 8) := ⟨⟨by decide +kernel, by decide +kernel⟩, List.mem_of_getElem? (i := 145) (by decide +kernel), List.mem_of_getElem? (i := 678) (by decide +kernel), List.mem_of_getElem? (i := 679) (by decide +kernel)⟩
theorem lw_p31 : lw_okq (⟨"JoinWays$Chooser", "keyFor", "(II)J"⟩, 8) := ⟨⟨by decide +kernel, by decide +kernel⟩, List.mem_of_getElem? (i := 145) (by decide +kernel), List.mem_of_getElem? (i := 683) (by decide +kernel), List.mem_of_getElem? (i := 684) (by decide +kernel)⟩
def lw_privs_2 : List (MethodName × Nat) := [(⟨"JoinWays$Sheet", "takesWay", "(I)Z"⟩, 7), (⟨"JoinWays$Judge", "joinLastTwo", "()V"⟩, 11), (⟨"JoinWays$Judge", "sortingUnless", "(II)I"⟩, 11), (⟨"JoinWays$Judge", "holdTable", "(I)V"⟩, 11), (⟨"JoinWays$Judge", "holdWay", "(I)V"⟩, 11), (⟨"JoinWays", "refusalOfChoice", "(IIII)I"⟩, 7), (⟨"JoinWays$Chooser", "forget", "(I)V"⟩, 8), (⟨"JoinWays$Chooser", "takeTable", "(I)V"⟩, 8), (⟨"JoinWays$Chooser", "offer", "(IIIJ)V"⟩, 8), (⟨"JoinWays$Chooser", "putIfBetter", "(IIJ)V"⟩, 8), (⟨"JoinWays$Chooser", "takeSteps", "(II)V"⟩, 8), (⟨"JoinWays$Chooser", "takeLoops", "(II)V"⟩, 8), (⟨"JoinWays$Chooser", "takeParts", "(II)V"⟩, 8), (⟨"JoinWays$Chooser", "takeSorted", "(III)V"⟩, 8), (⟨"JoinWays$Chooser", "slotFor", "(II)I"⟩, 8), (⟨"JoinWays$Chooser", "keyFor", "(II)J"⟩, 8)]
theorem lw_r2 : ∀ q ∈ lw_privs_2, lw_okq q := List.forall_mem_cons.mpr ⟨lw_p16, List.forall_mem_cons.mpr ⟨lw_p17, List.forall_mem_cons.mpr ⟨lw_p18, List.forall_mem_cons.mpr ⟨lw_p19, List.forall_mem_cons.mpr ⟨lw_p20, List.forall_mem_cons.mpr ⟨lw_p21, List.forall_mem_cons.mpr ⟨lw_p22, List.forall_mem_cons.mpr ⟨lw_p23, List.forall_mem_cons.mpr ⟨lw_p24, List.forall_mem_cons.mpr ⟨lw_p25, List.forall_mem_cons.mpr ⟨lw_p26, List.forall_mem_cons.mpr ⟨lw_p27, List.forall_mem_cons.mpr ⟨lw_p28, List.forall_mem_cons.mpr ⟨lw_p29, List.forall_mem_cons.mpr ⟨lw_p30, List.forall_mem_cons.mpr ⟨lw_p31, fun _ h => absurd h List.not_mem_nil⟩⟩⟩⟩⟩⟩⟩⟩⟩⟩⟩⟩⟩⟩⟩⟩
theorem lw_p32 : lw_okq (⟨"JoinWays$Chooser", "put", "(I)V"⟩, 8) := ⟨⟨by decide +kernel, by decide +kernel⟩, List.mem_of_getElem? (i := 145) (by decide +kernel), List.mem_of_getElem? (i := 700) (by decide +kernel), List.mem_of_getElem? (i := 701) (by decide +kernel)⟩
theorem lw_p33 : lw_okq (⟨"JoinWays$Hanging", "nextToGo", "(I)I"⟩, 6) := ⟨⟨by decide +kernel, by decide +kernel⟩, List.mem_of_getElem? (i := 177) (by decide +kernel), List.mem_of_getElem? (i := 725) (by decide +kernel), List.mem_of_getElem? (i := 726) (by decide +kernel)⟩
theorem lw_p34 : lw_okq (⟨"JoinWays$Hanging", "hookAmong", "(II)I"⟩, 6) := ⟨⟨by decide +kernel, by decide +kernel⟩, List.mem_of_getElem? (i := 177) (by decide +kernel), List.mem_of_getElem? (i := 729) (by decide +kernel), List.mem_of_getElem? (i := 730) (by decide +kernel)⟩
theorem lw_p35 : lw_okq (⟨"JoinWays$Hanging", "cut", "(II)V"⟩, 6) := ⟨⟨by decide +kernel, by decide +kernel⟩, List.mem_of_getElem? (i := 177) (by decide +kernel), List.mem_of_getElem? (i := 762) (by decide +kernel), List.mem_of_getElem? (i := 763) (by decide +kernel)⟩
theorem lw_p36 : lw_okq (⟨"JoinWays$Hanging", "fitsSome", "(III)Z"⟩, 6) := ⟨⟨by decide +kernel, by decide +kernel⟩, List.mem_of_getElem? (i := 177) (by decide +kernel), List.mem_of_getElem? (i := 769) (by decide +kernel), List.mem_of_getElem? (i := 770) (by decide +kernel)⟩
theorem lw_p37 : lw_okq (⟨"JoinWays", "digestOfTable", "(JI)J"⟩, 7) := ⟨⟨by decide +kernel, by decide +kernel⟩, List.mem_of_getElem? (i := 15) (by decide +kernel), List.mem_of_getElem? (i := 811) (by decide +kernel), List.mem_of_getElem? (i := 812) (by decide +kernel)⟩
theorem lw_p38 : lw_okq (⟨"JoinWaysModel", "isTable", "(I)Z"⟩, 40) := ⟨⟨by decide +kernel, by decide +kernel⟩, List.mem_of_getElem? (i := 827) (by decide +kernel), List.mem_of_getElem? (i := 970) (by decide +kernel), List.mem_of_getElem? (i := 971) (by decide +kernel)⟩
theorem lw_p39 : lw_okq (⟨"JoinWaysModel", "lay", "(IIII)V"⟩, 40) := ⟨⟨by decide +kernel, by decide +kernel⟩, List.mem_of_getElem? (i := 827) (by decide +kernel), List.mem_of_getElem? (i := 975) (by decide +kernel), List.mem_of_getElem? (i := 976) (by decide +kernel)⟩
theorem lw_p40 : lw_okq (⟨"JoinWaysModel", "letterAt", "(II)I"⟩, 40) := ⟨⟨by decide +kernel, by decide +kernel⟩, List.mem_of_getElem? (i := 827) (by decide +kernel), List.mem_of_getElem? (i := 979) (by decide +kernel), List.mem_of_getElem? (i := 980) (by decide +kernel)⟩
theorem lw_p41 : lw_okq (⟨"JoinWaysModel", "has", "(II)Z"⟩, 40) := ⟨⟨by decide +kernel, by decide +kernel⟩, List.mem_of_getElem? (i := 827) (by decide +kernel), List.mem_of_getElem? (i := 983) (by decide +kernel), List.mem_of_getElem? (i := 984) (by decide +kernel)⟩
theorem lw_p42 : lw_okq (⟨"JoinWaysModel", "isRow", "(II)Z"⟩, 40) := ⟨⟨by decide +kernel, by decide +kernel⟩, List.mem_of_getElem? (i := 827) (by decide +kernel), List.mem_of_getElem? (i := 1001) (by decide +kernel), List.mem_of_getElem? (i := 1002) (by decide +kernel)⟩
theorem lw_p43 : lw_okq (⟨"JoinWaysModel", "aboutOf", "(II)I"⟩, 40) := ⟨⟨by decide +kernel, by decide +kernel⟩, List.mem_of_getElem? (i := 827) (by decide +kernel), List.mem_of_getElem? (i := 1018) (by decide +kernel), List.mem_of_getElem? (i := 1019) (by decide +kernel)⟩
theorem lw_p44 : lw_okq (⟨"JoinWaysModel", "sortedBy", "(I)I"⟩, 40) := ⟨⟨by decide +kernel, by decide +kernel⟩, List.mem_of_getElem? (i := 827) (by decide +kernel), List.mem_of_getElem? (i := 1025) (by decide +kernel), List.mem_of_getElem? (i := 1026) (by decide +kernel)⟩
theorem lw_p45 : lw_okq (⟨"JoinWaysModel", "unlikeOf", "(II)I"⟩, 40) := ⟨⟨by decide +kernel, by decide +kernel⟩, List.mem_of_getElem? (i := 827) (by decide +kernel), List.mem_of_getElem? (i := 1033) (by decide +kernel), List.mem_of_getElem? (i := 1034) (by decide +kernel)⟩
theorem lw_p46 : lw_okq (⟨"JoinWaysModel", "isSet", "(I)Z"⟩, 40) := ⟨⟨by decide +kernel, by decide +kernel⟩, List.mem_of_getElem? (i := 827) (by decide +kernel), List.mem_of_getElem? (i := 1046) (by decide +kernel), List.mem_of_getElem? (i := 1047) (by decide +kernel)⟩
theorem lw_p47 : lw_okq (⟨"JoinWaysModel", "sizeOf", "(II)I"⟩, 40) := ⟨⟨by decide +kernel, by decide +kernel⟩, List.mem_of_getElem? (i := 827) (by decide +kernel), List.mem_of_getElem? (i := 1050) (by decide +kernel), List.mem_of_getElem? (i := 1051) (by decide +kernel)⟩
def lw_privs_3 : List (MethodName × Nat) := [(⟨"JoinWays$Chooser", "put", "(I)V"⟩, 8), (⟨"JoinWays$Hanging", "nextToGo", "(I)I"⟩, 6), (⟨"JoinWays$Hanging", "hookAmong", "(II)I"⟩, 6), (⟨"JoinWays$Hanging", "cut", "(II)V"⟩, 6), (⟨"JoinWays$Hanging", "fitsSome", "(III)Z"⟩, 6), (⟨"JoinWays", "digestOfTable", "(JI)J"⟩, 7), (⟨"JoinWaysModel", "isTable", "(I)Z"⟩, 40), (⟨"JoinWaysModel", "lay", "(IIII)V"⟩, 40), (⟨"JoinWaysModel", "letterAt", "(II)I"⟩, 40), (⟨"JoinWaysModel", "has", "(II)Z"⟩, 40), (⟨"JoinWaysModel", "isRow", "(II)Z"⟩, 40), (⟨"JoinWaysModel", "aboutOf", "(II)I"⟩, 40), (⟨"JoinWaysModel", "sortedBy", "(I)I"⟩, 40), (⟨"JoinWaysModel", "unlikeOf", "(II)I"⟩, 40), (⟨"JoinWaysModel", "isSet", "(I)Z"⟩, 40), (⟨"JoinWaysModel", "sizeOf", "(II)I"⟩, 40)]
theorem lw_r3 : ∀ q ∈ lw_privs_3, lw_okq q := List.forall_mem_cons.mpr ⟨lw_p32, List.forall_mem_cons.mpr ⟨lw_p33, List.forall_mem_cons.mpr ⟨lw_p34, List.forall_mem_cons.mpr ⟨lw_p35, List.forall_mem_cons.mpr ⟨lw_p36, List.forall_mem_cons.mpr ⟨lw_p37, List.forall_mem_cons.mpr ⟨lw_p38, List.forall_mem_cons.mpr ⟨lw_p39, List.forall_mem_cons.mpr ⟨lw_p40, List.forall_mem_cons.mpr ⟨lw_p41, List.forall_mem_cons.mpr ⟨lw_p42, List.forall_mem_cons.mpr ⟨lw_p43, List.forall_mem_cons.mpr ⟨lw_p44, List.forall_mem_cons.mpr ⟨lw_p45, List.forall_mem_cons.mpr ⟨lw_p46, List.forall_mem_cons.mpr ⟨lw_p47, fun _ h => absurd h List.not_mem_nil⟩⟩⟩⟩⟩⟩⟩⟩⟩⟩⟩⟩⟩⟩⟩⟩
theorem lw_p48 : lw_okq (⟨"JoinWaysModel", "trueSize", "(I)I"⟩, 40) := ⟨⟨by decide +kernel, by decide +kernel⟩, List.mem_of_getElem? (i := 827) (by decide +kernel), List.mem_of_getElem? (i := 1054) (by decide +kernel), List.mem_of_getElem? (i := 1055) (by decide +kernel)⟩
theorem lw_p49 : lw_okq (⟨"JoinWaysModel", "countAll", "()V"⟩, 40) := ⟨⟨by decide +kernel, by decide +kernel⟩, List.mem_of_getElem? (i := 827) (by decide +kernel), List.mem_of_getElem? (i := 1058) (by decide +kernel), List.mem_of_getElem? (i := 1059) (by decide +kernel)⟩
theorem lw_p50 : lw_okq (⟨"JoinWaysModel", "firstJoined", "(I)Z"⟩, 40) := ⟨⟨by decide +kernel, by decide +kernel⟩, List.mem_of_getElem? (i := 827) (by decide +kernel), List.mem_of_getElem? (i := 1062) (by decide +kernel), List.mem_of_getElem? (i := 1063) (by decide +kernel)⟩
theorem lw_p51 : lw_okq (⟨"JoinWaysModel", "takeMembers", "(I)V"⟩, 40) := ⟨⟨by decide +kernel, by decide +kernel⟩, List.mem_of_getElem? (i := 827) (by decide +kernel), List.mem_of_getElem? (i := 1066) (by decide +kernel), List.mem_of_getElem? (i := 1067) (by decide +kernel)⟩
theorem lw_p52 : lw_okq (⟨"JoinWaysModel", "nextJoined", "(I)Z"⟩, 40) := ⟨⟨by decide +kernel, by decide +kernel⟩, List.mem_of_getElem? (i := 827) (by decide +kernel), List.mem_of_getElem? (i := 1070) (by decide +kernel), List.mem_of_getElem? (i := 1071) (by decide +kernel)⟩
theorem lw_p53 : lw_okq (⟨"JoinWaysModel", "fitsAhead", "(I)Z"⟩, 40) := ⟨⟨by decide +kernel, by decide +kernel⟩, List.mem_of_getElem? (i := 827) (by decide +kernel), List.mem_of_getElem? (i := 1074) (by decide +kernel), List.mem_of_getElem? (i := 1075) (by decide +kernel)⟩
theorem lw_p54 : lw_okq (⟨"JoinWaysModel", "fit", "(IIII)Z"⟩, 40) := ⟨⟨by decide +kernel, by decide +kernel⟩, List.mem_of_getElem? (i := 827) (by decide +kernel), List.mem_of_getElem? (i := 1078) (by decide +kernel), List.mem_of_getElem? (i := 1079) (by decide +kernel)⟩
theorem lw_p55 : lw_okq (⟨"JoinWaysModel", "foretoldSize", "(I)I"⟩, 40) := ⟨⟨by decide +kernel, by decide +kernel⟩, List.mem_of_getElem? (i := 827) (by decide +kernel), List.mem_of_getElem? (i := 1082) (by decide +kernel), List.mem_of_getElem? (i := 1083) (by decide +kernel)⟩
theorem lw_p56 : lw_okq (⟨"JoinWaysModel", "pagesOf", "(II)I"⟩, 40) := ⟨⟨by decide +kernel, by decide +kernel⟩, List.mem_of_getElem? (i := 827) (by decide +kernel), List.mem_of_getElem? (i := 1090) (by decide +kernel), List.mem_of_getElem? (i := 1091) (by decide +kernel)⟩
theorem lw_p57 : lw_okq (⟨"JoinWaysModel", "isIn", "(II)Z"⟩, 40) := ⟨⟨by decide +kernel, by decide +kernel⟩, List.mem_of_getElem? (i := 827) (by decide +kernel), List.mem_of_getElem? (i := 1098) (by decide +kernel), List.mem_of_getElem? (i := 1099) (by decide +kernel)⟩
theorem lw_p58 : lw_okq (⟨"JoinWaysModel", "goTo", "(II)Z"⟩, 40) := ⟨⟨by decide +kernel, by decide +kernel⟩, List.mem_of_getElem? (i := 827) (by decide +kernel), List.mem_of_getElem? (i := 1102) (by decide +kernel), List.mem_of_getElem? (i := 1103) (by decide +kernel)⟩
theorem lw_p59 : lw_okq (⟨"JoinWaysModel", "goodOf", "()I"⟩, 40) := ⟨⟨by decide +kernel, by decide +kernel⟩, List.mem_of_getElem? (i := 827) (by decide +kernel), List.mem_of_getElem? (i := 1126) (by decide +kernel), List.mem_of_getElem? (i := 1127) (by decide +kernel)⟩
theorem lw_p60 : lw_okq (⟨"JoinWaysModel", "go", "(I)Z"⟩, 40) := ⟨⟨by decide +kernel, by decide +kernel⟩, List.mem_of_getElem? (i := 827) (by decide +kernel), List.mem_of_getElem? (i := 1130) (by decide +kernel), List.mem_of_getElem? (i := 1131) (by decide +kernel)⟩
theorem lw_p61 : lw_okq (⟨"JoinWaysModel", "endPlan", "()V"⟩, 40) := ⟨⟨by decide +kernel, by decide +kernel⟩, List.mem_of_getElem? (i := 827) (by decide +kernel), List.mem_of_getElem? (i := 1136) (by decide +kernel), List.mem_of_getElem? (i := 1137) (by decide +kernel)⟩
theorem lw_p62 : lw_okq (⟨"JoinWaysModel", "layPages", "(I)V"⟩, 40) := ⟨⟨by decide +kernel, by decide +kernel⟩, List.mem_of_getElem? (i := 827) (by decide +kernel), List.mem_of_getElem? (i := 1144) (by decide +kernel), List.mem_of_getElem? (i := 1145) (by decide +kernel)⟩
theorem lw_p63 : lw_okq (⟨"JoinWaysModel", "workOff", "([III)V"⟩, 40) := ⟨⟨by decide +kernel, by decide +kernel⟩, List.mem_of_getElem? (i := 827) (by decide +kernel), List.mem_of_getElem? (i := 1148) (by decide +kernel), List.mem_of_getElem? (i := 1149) (by decide +kernel)⟩
def lw_privs_4 : List (MethodName × Nat) := [(⟨"JoinWaysModel", "trueSize", "(I)I"⟩, 40), (⟨"JoinWaysModel", "countAll", "()V"⟩, 40), (⟨"JoinWaysModel", "firstJoined", "(I)Z"⟩, 40), (⟨"JoinWaysModel", "takeMembers", "(I)V"⟩, 40), (⟨"JoinWaysModel", "nextJoined", "(I)Z"⟩, 40), (⟨"JoinWaysModel", "fitsAhead", "(I)Z"⟩, 40), (⟨"JoinWaysModel", "fit", "(IIII)Z"⟩, 40), (⟨"JoinWaysModel", "foretoldSize", "(I)I"⟩, 40), (⟨"JoinWaysModel", "pagesOf", "(II)I"⟩, 40), (⟨"JoinWaysModel", "isIn", "(II)Z"⟩, 40), (⟨"JoinWaysModel", "goTo", "(II)Z"⟩, 40), (⟨"JoinWaysModel", "goodOf", "()I"⟩, 40), (⟨"JoinWaysModel", "go", "(I)Z"⟩, 40), (⟨"JoinWaysModel", "endPlan", "()V"⟩, 40), (⟨"JoinWaysModel", "layPages", "(I)V"⟩, 40), (⟨"JoinWaysModel", "workOff", "([III)V"⟩, 40)]
theorem lw_r4 : ∀ q ∈ lw_privs_4, lw_okq q := List.forall_mem_cons.mpr ⟨lw_p48, List.forall_mem_cons.mpr ⟨lw_p49, List.forall_mem_cons.mpr ⟨lw_p50, List.forall_mem_cons.mpr ⟨lw_p51, List.forall_mem_cons.mpr ⟨lw_p52, List.forall_mem_cons.mpr ⟨lw_p53, List.forall_mem_cons.mpr ⟨lw_p54, List.forall_mem_cons.mpr ⟨lw_p55, List.forall_mem_cons.mpr ⟨lw_p56, List.forall_mem_cons.mpr ⟨lw_p57, List.forall_mem_cons.mpr ⟨lw_p58, List.forall_mem_cons.mpr ⟨lw_p59, List.forall_mem_cons.mpr ⟨lw_p60, List.forall_mem_cons.mpr ⟨lw_p61, List.forall_mem_cons.mpr ⟨lw_p62, List.forall_mem_cons.mpr ⟨lw_p63, fun _ h => absurd h List.not_mem_nil⟩⟩⟩⟩⟩⟩⟩⟩⟩⟩⟩⟩⟩⟩⟩⟩
theorem lw_p64 : lw_okq (⟨"JoinWaysModel", "stepCost", "(IIIII)I"⟩, 40) := ⟨⟨by decide +kernel, by decide +kernel⟩, List.mem_of_getElem? (i := 827) (by decide +kernel), List.mem_of_getElem? (i := 1152) (by decide +kernel), List.mem_of_getElem? (i := 1153) (by decide +kernel)⟩
theorem lw_p65 : lw_okq (⟨"JoinWaysModel", "sharedBy", "(II)I"⟩, 40) := ⟨⟨by decide +kernel, by decide +kernel⟩, List.mem_of_getElem? (i := 827) (by decide +kernel), List.mem_of_getElem? (i := 1156) (by decide +kernel), List.mem_of_getElem? (i := 1157) (by decide +kernel)⟩
theorem lw_p66 : lw_okq (⟨"JoinWaysModel", "lettersIn", "(I)I"⟩, 40) := ⟨⟨by decide +kernel, by decide +kernel⟩, List.mem_of_getElem? (i := 827) (by decide +kernel), List.mem_of_getElem? (i := 1160) (by decide +kernel), List.mem_of_getElem? (i := 1161) (by decide +kernel)⟩
theorem lw_p67 : lw_okq (⟨"JoinWaysModel", "sorting", "(I)I"⟩, 40) := ⟨⟨by decide +kernel, by decide +kernel⟩, List.mem_of_getElem? (i := 827) (by decide +kernel), List.mem_of_getElem? (i := 1164) (by decide +kernel), List.mem_of_getElem? (i := 1165) (by decide +kernel)⟩
theorem lw_p68 : lw_okq (⟨"JoinWaysModel", "stepOrder", "(IIII)I"⟩, 40) := ⟨⟨by decide +kernel, by decide +kernel⟩, List.mem_of_getElem? (i := 827) (by decide +kernel), List.mem_of_getElem? (i := 1168) (by decide +kernel), List.mem_of_getElem? (i := 1169) (by decide +kernel)⟩
theorem lw_p69 : lw_okq (⟨"JoinWaysModel", "isAsked", "(IIII)Z"⟩, 40) := ⟨⟨by decide +kernel, by decide +kernel⟩, List.mem_of_getElem? (i := 827) (by decide +kernel), List.mem_of_getElem? (i := 1176) (by decide +kernel), List.mem_of_getElem? (i := 1177) (by decide +kernel)⟩
theorem lw_p70 : lw_okq (⟨"JoinWaysModel", "findBest", "(III)V"⟩, 40) := ⟨⟨by decide +kernel, by decide +kernel⟩, List.mem_of_getElem? (i := 827) (by decide +kernel), List.mem_of_getElem? (i := 1181) (by decide +kernel), List.mem_of_getElem? (i := 1182) (by decide +kernel)⟩
theorem lw_p71 : lw_okq (⟨"JoinWaysModel", "putSign", "(I)V"⟩, 40) := ⟨⟨by decide +kernel, by decide +kernel⟩, List.mem_of_getElem? (i := 827) (by decide +kernel), List.mem_of_getElem? (i := 1185) (by decide +kernel), List.mem_of_getElem? (i := 1186) (by decide +kernel)⟩
theorem lw_p72 : lw_okq (⟨"JoinWaysModel", "offer", "(III)V"⟩, 40) := ⟨⟨by decide +kernel, by decide +kernel⟩, List.mem_of_getElem? (i := 827) (by decide +kernel), List.mem_of_getElem? (i := 1189) (by decide +kernel), List.mem_of_getElem? (i := 1190) (by decide +kernel)⟩
theorem lw_p73 : lw_okq (⟨"JoinWaysModel", "joinSides", "(II)V"⟩, 40) := ⟨⟨by decide +kernel, by decide +kernel⟩, List.mem_of_getElem? (i := 827) (by decide +kernel), List.mem_of_getElem? (i := 1193) (by decide +kernel), List.mem_of_getElem? (i := 1194) (by decide +kernel)⟩
theorem lw_p74 : lw_okq (⟨"JoinWaysModel", "putText", "(II)V"⟩, 40) := ⟨⟨by decide +kernel, by decide +kernel⟩, List.mem_of_getElem? (i := 827) (by decide +kernel), List.mem_of_getElem? (i := 1200) (by decide +kernel), List.mem_of_getElem? (i := 1201) (by decide +kernel)⟩
theorem lw_p75 : lw_okq (⟨"JoinWaysModel", "bestOrder", "(II)I"⟩, 40) := ⟨⟨by decide +kernel, by decide +kernel⟩, List.mem_of_getElem? (i := 827) (by decide +kernel), List.mem_of_getElem? (i := 1204) (by decide +kernel), List.mem_of_getElem? (i := 1205) (by decide +kernel)⟩
theorem lw_p76 : lw_okq (⟨"JoinWaysModel", "doesHang", "(I)Z"⟩, 40) := ⟨⟨by decide +kernel, by decide +kernel⟩, List.mem_of_getElem? (i := 827) (by decide +kernel), List.mem_of_getElem? (i := 1220) (by decide +kernel), List.mem_of_getElem? (i := 1221) (by decide +kernel)⟩
theorem lw_p77 : lw_okq (⟨"JoinWaysModel", "takeAway", "(I)V"⟩, 40) := ⟨⟨by decide +kernel, by decide +kernel⟩, List.mem_of_getElem? (i := 827) (by decide +kernel), List.mem_of_getElem? (i := 1224) (by decide +kernel), List.mem_of_getElem? (i := 1225) (by decide +kernel)⟩
theorem lw_p78 : lw_okq (⟨"JoinWaysModel", "holder", "(II)I"⟩, 40) := ⟨⟨by decide +kernel, by decide +kernel⟩, List.mem_of_getElem? (i := 827) (by decide +kernel), List.mem_of_getElem? (i := 1228) (by decide +kernel), List.mem_of_getElem? (i := 1229) (by decide +kernel)⟩
theorem lw_p79 : lw_okq (⟨"JoinWaysModel", "cutAll", "()V"⟩, 40) := ⟨⟨by decide +kernel, by decide +kernel⟩, List.mem_of_getElem? (i := 827) (by decide +kernel), List.mem_of_getElem? (i := 1244) (by decide +kernel), List.mem_of_getElem? (i := 1245) (by decide +kernel)⟩
def lw_privs_5 : List (MethodName × Nat) := [(⟨"JoinWaysModel", "stepCost", "(IIIII)I"⟩, 40), (⟨"JoinWaysModel", "sharedBy", "(II)I"⟩, 40), (⟨"JoinWaysModel", "lettersIn", "(I)I"⟩, 40), (⟨"JoinWaysModel", "sorting", "(I)I"⟩, 40), (⟨"JoinWaysModel", "stepOrder", "(IIII)I"⟩, 40), (⟨"JoinWaysModel", "isAsked", "(IIII)Z"⟩, 40), (⟨"JoinWaysModel", "findBest", "(III)V"⟩, 40), (⟨"JoinWaysModel", "putSign", "(I)V"⟩, 40), (⟨"JoinWaysModel", "offer", "(III)V"⟩, 40), (⟨"JoinWaysModel", "joinSides", "(II)V"⟩, 40), (⟨"JoinWaysModel", "putText", "(II)V"⟩, 40), (⟨"JoinWaysModel", "bestOrder", "(II)I"⟩, 40), (⟨"JoinWaysModel", "doesHang", "(I)Z"⟩, 40), (⟨"JoinWaysModel", "takeAway", "(I)V"⟩, 40), (⟨"JoinWaysModel", "holder", "(II)I"⟩, 40), (⟨"JoinWaysModel", "cutAll", "()V"⟩, 40)]
theorem lw_r5 : ∀ q ∈ lw_privs_5, lw_okq q := List.forall_mem_cons.mpr ⟨lw_p64, List.forall_mem_cons.mpr ⟨lw_p65, List.forall_mem_cons.mpr ⟨lw_p66, List.forall_mem_cons.mpr ⟨lw_p67, List.forall_mem_cons.mpr ⟨lw_p68, List.forall_mem_cons.mpr ⟨lw_p69, List.forall_mem_cons.mpr ⟨lw_p70, List.forall_mem_cons.mpr ⟨lw_p71, List.forall_mem_cons.mpr ⟨lw_p72, List.forall_mem_cons.mpr ⟨lw_p73, List.forall_mem_cons.mpr ⟨lw_p74, List.forall_mem_cons.mpr ⟨lw_p75, List.forall_mem_cons.mpr ⟨lw_p76, List.forall_mem_cons.mpr ⟨lw_p77, List.forall_mem_cons.mpr ⟨lw_p78, List.forall_mem_cons.mpr ⟨lw_p79, fun _ h => absurd h List.not_mem_nil⟩⟩⟩⟩⟩⟩⟩⟩⟩⟩⟩⟩⟩⟩⟩⟩
theorem lw_p80 : lw_okq (⟨"JoinWaysModel", "cut", "(II)V"⟩, 40) := ⟨⟨by decide +kernel, by decide +kernel⟩, List.mem_of_getElem? (i := 827) (by decide +kernel), List.mem_of_getElem? (i := 1248) (by decide +kernel), List.mem_of_getElem? (i := 1249) (by decide +kernel)⟩
theorem lw_p81 : lw_okq (⟨"JoinWaysModel", "coverOf", "(I)I"⟩, 40) := ⟨⟨by decide +kernel, by decide +kernel⟩, List.mem_of_getElem? (i := 827) (by decide +kernel), List.mem_of_getElem? (i := 1260) (by decide +kernel), List.mem_of_getElem? (i := 1261) (by decide +kernel)⟩
theorem lw_p82 : lw_okq (⟨"JoinWaysModel", "countOf", "(I)I"⟩, 40) := ⟨⟨by decide +kernel, by decide +kernel⟩, List.mem_of_getElem? (i := 827) (by decide +kernel), List.mem_of_getElem? (i := 1268) (by decide +kernel), List.mem_of_getElem? (i := 1269) (by decide +kernel)⟩
def lw_privs_6 : List (MethodName × Nat) := [(⟨"JoinWaysModel", "cut", "(II)V"⟩, 40), (⟨"JoinWaysModel", "coverOf", "(I)I"⟩, 40), (⟨"JoinWaysModel", "countOf", "(I)I"⟩, 40)]
theorem lw_r6 : ∀ q ∈ lw_privs_6, lw_okq q := List.forall_mem_cons.mpr ⟨lw_p80, List.forall_mem_cons.mpr ⟨lw_p81, List.forall_mem_cons.mpr ⟨lw_p82, fun _ h => absurd h List.not_mem_nil⟩⟩⟩
def lw_privs : List (MethodName × Nat) := lw_privs_1 ++ (lw_privs_2 ++ (lw_privs_3 ++ (lw_privs_4 ++ (lw_privs_5 ++ (lw_privs_6)))))
def lw_tbl : List Cond := k2_sels lw_privs ++ tables_1
theorem lw_privs_ok : ∀ q ∈ lw_privs, lw_okq q := by
  show ∀ q ∈ lw_privs_1 ++ (lw_privs_2 ++ (lw_privs_3 ++ (lw_privs_4 ++ (lw_privs_5 ++ (lw_privs_6))))), lw_okq q
  exact List.forall_mem_append.mpr ⟨lw_r1, List.forall_mem_append.mpr ⟨lw_r2, List.forall_mem_append.mpr ⟨lw_r3, List.forall_mem_append.mpr ⟨lw_r4, List.forall_mem_append.mpr ⟨lw_r5, lw_r6⟩⟩⟩⟩⟩
end
section
/-! ===== BEGIN words of one list among another's, by their places ===== -/
/-! ===== END ===== -/

/-! ===== BEGIN printed: names, fields, word lists, decode rows ===== -/
def RX0 : String := "JoinWays$Chooser"
def TX0 : u_T := fun k => match k with
  | 0 => ("JoinWays$Chooser", "shelf", "LJoinWays$Shelf;", true)
  | 1 => ("JoinWays$Chooser", "matches", "LJoinWays$Matches;", true)
  | 2 => ("JoinWays$Chooser", "costs", "[I", true)
  | 3 => ("JoinWays$Chooser", "keys", "[J", true)
  | 4 => ("JoinWays$Chooser", "pageCounts", "[I", true)
  | 5 => ("JoinWays$Chooser", "sortings", "[I", true)
  | 6 => ("JoinWays$Chooser", "text", "[I", true)
  | _ => ("JoinWays$Chooser", "length", "I", false)
def tyX0 : Nat → FieldType := fun k => match k with
  | 0 => .object "JoinWays$Shelf"
  | 1 => .object "JoinWays$Matches"
  | 2 => .array .int
  | 3 => .array .long
  | 4 => .array .int
  | 5 => .array .int
  | 6 => .array .int
  | _ => .int
abbrev wsX00 : List Cond := u_ws RX0 TX0 8
theorem nmX0 : ∀ a, a < 8 → ∀ b, b < 8 → a ≠ b → (TX0 a).2.1 ≠ (TX0 b).2.1 := by decide +kernel
theorem tyX0_ok : ∀ k, k < 8 → parseFieldDescriptor (TX0 k).2.2.1 = some (tyX0 k) := by decide +kernel
abbrev cX0_init : ByteArray := prog_2_method_1_code
def yX0_init : MethodName := ⟨RX0, "<init>", "(LJoinWays$Shelf;LJoinWays$Matches;)V"⟩
abbrev cX0_choose : ByteArray := prog_2_method_2_code
def yX0_choose : MethodName := ⟨RX0, "choose", "(III)V"⟩
abbrev cX0_forget : ByteArray := prog_2_method_3_code
def yX0_forget : MethodName := ⟨RX0, "forget", "(I)V"⟩
abbrev cX0_takeTable : ByteArray := prog_2_method_4_code
def yX0_takeTable : MethodName := ⟨RX0, "takeTable", "(I)V"⟩
abbrev cX0_takeSteps : ByteArray := prog_2_method_5_code
def yX0_takeSteps : MethodName := ⟨RX0, "takeSteps", "(II)V"⟩
abbrev cX0_takeLoops : ByteArray := prog_2_method_6_code
def yX0_takeLoops : MethodName := ⟨RX0, "takeLoops", "(II)V"⟩
abbrev cX0_takeParts : ByteArray := prog_2_method_7_code
def yX0_takeParts : MethodName := ⟨RX0, "takeParts", "(II)V"⟩
abbrev cX0_takeSorted : ByteArray := prog_2_method_8_code
def yX0_takeSorted : MethodName := ⟨RX0, "takeSorted", "(III)V"⟩
abbrev cX0_keyOfStep : ByteArray := prog_2_method_9_code
def yX0_keyOfStep : MethodName := ⟨RX0, "keyOfStep", "(IJIIJ)J"⟩
abbrev cX0_keySigns : ByteArray := prog_2_method_10_code
def yX0_keySigns : MethodName := ⟨RX0, "keySigns", "(I)I"⟩
abbrev cX0_offer : ByteArray := prog_2_method_11_code
def yX0_offer : MethodName := ⟨RX0, "offer", "(IIIJ)V"⟩
abbrev cX0_putIfBetter : ByteArray := prog_2_method_12_code
def yX0_putIfBetter : MethodName := ⟨RX0, "putIfBetter", "(IIJ)V"⟩
abbrev cX0_costFor : ByteArray := prog_2_method_13_code
def yX0_costFor : MethodName := ⟨RX0, "costFor", "(II)I"⟩
abbrev cX0_keyFor : ByteArray := prog_2_method_14_code
def yX0_keyFor : MethodName := ⟨RX0, "keyFor", "(II)J"⟩
abbrev cX0_slotFor : ByteArray := prog_2_method_15_code
def yX0_slotFor : MethodName := ⟨RX0, "slotFor", "(II)I"⟩
abbrev cX0_write : ByteArray := prog_2_method_16_code
def yX0_write : MethodName := ⟨RX0, "write", "(II)I"⟩
abbrev cX0_codeOf : ByteArray := prog_2_method_17_code
def yX0_codeOf : MethodName := ⟨RX0, "codeOf", "(I)I"⟩
abbrev cX0_put : ByteArray := prog_2_method_18_code
def yX0_put : MethodName := ⟨RX0, "put", "(I)V"⟩
abbrev cX0_signs : ByteArray := prog_2_method_19_code
def yX0_signs : MethodName := ⟨RX0, "signs", "()[I"⟩
abbrev cX0_signAt : ByteArray := prog_2_method_20_code
def yX0_signAt : MethodName := ⟨RX0, "signAt", "(I)I"⟩
def RX1 : String := "JoinWays$Hanging"
def TX1 : u_T := fun k => match k with
  | 0 => ("JoinWays$Hanging", "shelf", "LJoinWays$Shelf;", true)
  | 1 => ("JoinWays$Hanging", "order", "[I", true)
  | 2 => ("JoinWays$Hanging", "hooks", "[I", true)
  | 3 => ("JoinWays$Hanging", "rowBits", "[I", true)
  | 4 => ("JoinWays$Hanging", "gone", "I", false)
  | _ => ("JoinWays$Hanging", "cutRows", "I", false)
def tyX1 : Nat → FieldType := fun k => match k with
  | 0 => .object "JoinWays$Shelf"
  | 1 => .array .int
  | 2 => .array .int
  | 3 => .array .int
  | 4 => .int
  | _ => .int
abbrev wsX10 : List Cond := u_ws RX1 TX1 6
theorem nmX1 : ∀ a, a < 6 → ∀ b, b < 6 → a ≠ b → (TX1 a).2.1 ≠ (TX1 b).2.1 := by decide +kernel
theorem tyX1_ok : ∀ k, k < 6 → parseFieldDescriptor (TX1 k).2.2.1 = some (tyX1 k) := by decide +kernel
abbrev cX1_init : ByteArray := prog_3_method_1_code
def yX1_init : MethodName := ⟨RX1, "<init>", "(LJoinWays$Shelf;)V"⟩
abbrev cX1_takeAway : ByteArray := prog_3_method_2_code
def yX1_takeAway : MethodName := ⟨RX1, "takeAway", "(I)Z"⟩
abbrev cX1_nextToGo : ByteArray := prog_3_method_3_code
def yX1_nextToGo : MethodName := ⟨RX1, "nextToGo", "(I)I"⟩
abbrev cX1_hookAmong : ByteArray := prog_3_method_4_code
def yX1_hookAmong : MethodName := ⟨RX1, "hookAmong", "(II)I"⟩
abbrev cX1_goneAt : ByteArray := prog_3_method_5_code
def yX1_goneAt : MethodName := ⟨RX1, "goneAt", "(I)I"⟩
abbrev cX1_hookOf : ByteArray := prog_3_method_6_code
def yX1_hookOf : MethodName := ⟨RX1, "hookOf", "(I)I"⟩
abbrev cX1_fullCut : ByteArray := prog_3_method_7_code
def yX1_fullCut : MethodName := ⟨RX1, "fullCut", "(I)Z"⟩
abbrev cX1_cut : ByteArray := prog_3_method_8_code
def yX1_cut : MethodName := ⟨RX1, "cut", "(II)V"⟩
abbrev cX1_fitsSome : ByteArray := prog_3_method_9_code
def yX1_fitsSome : MethodName := ⟨RX1, "fitsSome", "(III)Z"⟩
abbrev cX1_rowsLeft : ByteArray := prog_3_method_10_code
def yX1_rowsLeft : MethodName := ⟨RX1, "rowsLeft", "(I)I"⟩
abbrev cX1_rowsCut : ByteArray := prog_3_method_11_code
def yX1_rowsCut : MethodName := ⟨RX1, "rowsCut", "()I"⟩
def RX2 : String := "JoinWays$Judge"
def TX2 : u_T := fun k => match k with
  | 0 => ("JoinWays$Judge", "shelf", "LJoinWays$Shelf;", true)
  | 1 => ("JoinWays$Judge", "matches", "LJoinWays$Matches;", true)
  | 2 => ("JoinWays$Judge", "sets", "[I", true)
  | 3 => ("JoinWays$Judge", "costs", "[I", true)
  | 4 => ("JoinWays$Judge", "orders", "[I", true)
  | 5 => ("JoinWays$Judge", "pageCounts", "[I", true)
  | 6 => ("JoinWays$Judge", "ways", "[I", true)
  | 7 => ("JoinWays$Judge", "held", "I", false)
  | 8 => ("JoinWays$Judge", "waiting", "I", false)
  | 9 => ("JoinWays$Judge", "joins", "I", false)
  | _ => ("JoinWays$Judge", "doable", "Z", false)
def tyX2 : Nat → FieldType := fun k => match k with
  | 0 => .object "JoinWays$Shelf"
  | 1 => .object "JoinWays$Matches"
  | 2 => .array .int
  | 3 => .array .int
  | 4 => .array .int
  | 5 => .array .int
  | 6 => .array .int
  | 7 => .int
  | 8 => .int
  | 9 => .int
  | _ => .boolean
abbrev wsX20 : List Cond := u_ws RX2 TX2 11
theorem nmX2 : ∀ a, a < 11 → ∀ b, b < 11 → a ≠ b → (TX2 a).2.1 ≠ (TX2 b).2.1 := by decide +kernel
theorem tyX2_ok : ∀ k, k < 11 → parseFieldDescriptor (TX2 k).2.2.1 = some (tyX2 k) := by decide +kernel
abbrev cX2_init : ByteArray := prog_4_method_1_code
def yX2_init : MethodName := ⟨RX2, "<init>", "(LJoinWays$Shelf;LJoinWays$Matches;)V"⟩
abbrev cX2_read : ByteArray := prog_4_method_2_code
def yX2_read : MethodName := ⟨RX2, "read", "([III)V"⟩
abbrev cX2_holdTable : ByteArray := prog_4_method_3_code
def yX2_holdTable : MethodName := ⟨RX2, "holdTable", "(I)V"⟩
abbrev cX2_holdWay : ByteArray := prog_4_method_4_code
def yX2_holdWay : MethodName := ⟨RX2, "holdWay", "(I)V"⟩
abbrev cX2_joinLastTwo : ByteArray := prog_4_method_5_code
def yX2_joinLastTwo : MethodName := ⟨RX2, "joinLastTwo", "()V"⟩
abbrev cX2_sortingUnless : ByteArray := prog_4_method_6_code
def yX2_sortingUnless : MethodName := ⟨RX2, "sortingUnless", "(II)I"⟩
abbrev cX2_canBeDone : ByteArray := prog_4_method_7_code
def yX2_canBeDone : MethodName := ⟨RX2, "canBeDone", "()Z"⟩
abbrev cX2_tablesRead : ByteArray := prog_4_method_8_code
def yX2_tablesRead : MethodName := ⟨RX2, "tablesRead", "()I"⟩
abbrev cX2_costRead : ByteArray := prog_4_method_9_code
def yX2_costRead : MethodName := ⟨RX2, "costRead", "()I"⟩
abbrev cX2_letterRead : ByteArray := prog_4_method_10_code
def yX2_letterRead : MethodName := ⟨RX2, "letterRead", "()I"⟩
abbrev cX2_stepsRead : ByteArray := prog_4_method_11_code
def yX2_stepsRead : MethodName := ⟨RX2, "stepsRead", "()I"⟩
def RX3 : String := "JoinWays$Matches"
def TX3 : u_T := fun k => match k with
  | 0 => ("JoinWays$Matches", "shelf", "LJoinWays$Shelf;", true)
  | 1 => ("JoinWays$Matches", "allowed", "[I", true)
  | 2 => ("JoinWays$Matches", "weight", "[I", true)
  | 3 => ("JoinWays$Matches", "boundMask", "[I", true)
  | _ => ("JoinWays$Matches", "found", "[I", true)
def tyX3 : Nat → FieldType := fun k => match k with
  | 0 => .object "JoinWays$Shelf"
  | 1 => .array .int
  | 2 => .array .int
  | 3 => .array .int
  | _ => .array .int
abbrev wsX30 : List Cond := u_ws RX3 TX3 5
theorem nmX3 : ∀ a, a < 5 → ∀ b, b < 5 → a ≠ b → (TX3 a).2.1 ≠ (TX3 b).2.1 := by decide +kernel
theorem tyX3_ok : ∀ k, k < 5 → parseFieldDescriptor (TX3 k).2.2.1 = some (tyX3 k) := by decide +kernel
abbrev cX3_init : ByteArray := prog_5_method_1_code
def yX3_init : MethodName := ⟨RX3, "<init>", "(LJoinWays$Shelf;)V"⟩
abbrev cX3_pagesOf : ByteArray := prog_5_method_2_code
def yX3_pagesOf : MethodName := ⟨RX3, "pagesOf", "(II)I"⟩
abbrev cX3_sizeOf : ByteArray := prog_5_method_3_code
def yX3_sizeOf : MethodName := ⟨RX3, "sizeOf", "(II)I"⟩
abbrev cX3_foretold : ByteArray := prog_5_method_4_code
def yX3_foretold : MethodName := ⟨RX3, "foretold", "(I)I"⟩
abbrev cX3_unlikeButLeast : ByteArray := prog_5_method_5_code
def yX3_unlikeButLeast : MethodName := ⟨RX3, "unlikeButLeast", "(II)J"⟩
abbrev cX3_find : ByteArray := prog_5_method_6_code
def yX3_find : MethodName := ⟨RX3, "find", "(II)Z"⟩
abbrev cX3_fixRow : ByteArray := prog_5_method_7_code
def yX3_fixRow : MethodName := ⟨RX3, "fixRow", "(III)I"⟩
abbrev cX3_rowFound : ByteArray := prog_5_method_8_code
def yX3_rowFound : MethodName := ⟨RX3, "rowFound", "(I)I"⟩
abbrev cX3_numberFound : ByteArray := prog_5_method_9_code
def yX3_numberFound : MethodName := ⟨RX3, "numberFound", "(II)I"⟩
abbrev cX3_idleRows : ByteArray := prog_5_method_10_code
def yX3_idleRows : MethodName := ⟨RX3, "idleRows", "(II)I"⟩
abbrev cX3_allowAllRows : ByteArray := prog_5_method_11_code
def yX3_allowAllRows : MethodName := ⟨RX3, "allowAllRows", "()V"⟩
abbrev cX3_counted : ByteArray := prog_5_method_12_code
def yX3_counted : MethodName := ⟨RX3, "counted", "(I)I"⟩
abbrev cX3_weigh : ByteArray := prog_5_method_13_code
def yX3_weigh : MethodName := ⟨RX3, "weigh", "(II)V"⟩
abbrev cX3_firstLike : ByteArray := prog_5_method_14_code
def yX3_firstLike : MethodName := ⟨RX3, "firstLike", "(III)I"⟩
abbrev cX3_countFrom : ByteArray := prog_5_method_15_code
def yX3_countFrom : MethodName := ⟨RX3, "countFrom", "(III)I"⟩
def RX4 : String := "JoinWays$Pack"
def TX4 : u_T := fun k => match k with
  | _ => ("", "", "", false)
def tyX4 : Nat → FieldType := fun k => match k with
  | _ => .int
abbrev wsX40 : List Cond := u_ws RX4 TX4 0
theorem nmX4 : ∀ a, a < 0 → ∀ b, b < 0 → a ≠ b → (TX4 a).2.1 ≠ (TX4 b).2.1 := by decide +kernel
theorem tyX4_ok : ∀ k, k < 0 → parseFieldDescriptor (TX4 k).2.2.1 = some (tyX4 k) := by decide +kernel
abbrev cX4_codeOf : ByteArray := prog_6_method_2_code
def yX4_codeOf : MethodName := ⟨RX4, "codeOf", "(IIII)I"⟩
abbrev cX4_numberIn : ByteArray := prog_6_method_3_code
def yX4_numberIn : MethodName := ⟨RX4, "numberIn", "(II)I"⟩
abbrev cX4_maskOf : ByteArray := prog_6_method_4_code
def yX4_maskOf : MethodName := ⟨RX4, "maskOf", "(I)I"⟩
def RX5 : String := "JoinWays$Price"
def TX5 : u_T := fun k => match k with
  | _ => ("", "", "", false)
def tyX5 : Nat → FieldType := fun k => match k with
  | _ => .int
abbrev wsX50 : List Cond := u_ws RX5 TX5 0
theorem nmX5 : ∀ a, a < 0 → ∀ b, b < 0 → a ≠ b → (TX5 a).2.1 ≠ (TX5 b).2.1 := by decide +kernel
theorem tyX5_ok : ∀ k, k < 0 → parseFieldDescriptor (TX5 k).2.2.1 = some (tyX5 k) := by decide +kernel
abbrev cX5_roundedUp : ByteArray := prog_7_method_2_code
def yX5_roundedUp : MethodName := ⟨RX5, "roundedUp", "(II)I"⟩
abbrev cX5_loops : ByteArray := prog_7_method_3_code
def yX5_loops : MethodName := ⟨RX5, "loops", "(III)I"⟩
abbrev cX5_parts : ByteArray := prog_7_method_4_code
def yX5_parts : MethodName := ⟨RX5, "parts", "(III)I"⟩
abbrev cX5_sorting : ByteArray := prog_7_method_5_code
def yX5_sorting : MethodName := ⟨RX5, "sorting", "(II)I"⟩
def RX6 : String := "JoinWays$Sheet"
def TX6 : u_T := fun k => match k with
  | 0 => ("JoinWays$Sheet", "signs", "[I", true)
  | 1 => ("JoinWays$Sheet", "length", "I", false)
  | 2 => ("JoinWays$Sheet", "told", "I", false)
  | 3 => ("JoinWays$Sheet", "due", "I", false)
  | 4 => ("JoinWays$Sheet", "open", "I", false)
  | 5 => ("JoinWays$Sheet", "sides", "I", false)
  | _ => ("JoinWays$Sheet", "ended", "Z", false)
def tyX6 : Nat → FieldType := fun k => match k with
  | 0 => .array .int
  | 1 => .int
  | 2 => .int
  | 3 => .int
  | 4 => .int
  | 5 => .int
  | _ => .boolean
abbrev wsX60 : List Cond := u_ws RX6 TX6 7
theorem nmX6 : ∀ a, a < 7 → ∀ b, b < 7 → a ≠ b → (TX6 a).2.1 ≠ (TX6 b).2.1 := by decide +kernel
theorem tyX6_ok : ∀ k, k < 7 → parseFieldDescriptor (TX6 k).2.2.1 = some (tyX6 k) := by decide +kernel
abbrev cX6_init : ByteArray := prog_8_method_1_code
def yX6_init : MethodName := ⟨RX6, "<init>", "()V"⟩
abbrev cX6_append : ByteArray := prog_8_method_2_code
def yX6_append : MethodName := ⟨RX6, "append", "(JI)I"⟩
abbrev cX6_wipe : ByteArray := prog_8_method_3_code
def yX6_wipe : MethodName := ⟨RX6, "wipe", "()I"⟩
abbrev cX6_length : ByteArray := prog_8_method_4_code
def yX6_length : MethodName := ⟨RX6, "length", "()I"⟩
abbrev cX6_signs : ByteArray := prog_8_method_5_code
def yX6_signs : MethodName := ⟨RX6, "signs", "()[I"⟩
abbrev cX6_signAt : ByteArray := prog_8_method_6_code
def yX6_signAt : MethodName := ⟨RX6, "signAt", "(I)I"⟩
abbrev cX6_isPlan : ByteArray := prog_8_method_7_code
def yX6_isPlan : MethodName := ⟨RX6, "isPlan", "(I)Z"⟩
abbrev cX6_readable : ByteArray := prog_8_method_8_code
def yX6_readable : MethodName := ⟨RX6, "readable", "(I)I"⟩
abbrev cX6_takes : ByteArray := prog_8_method_9_code
def yX6_takes : MethodName := ⟨RX6, "takes", "(II)Z"⟩
abbrev cX6_atRightSide : ByteArray := prog_8_method_10_code
def yX6_atRightSide : MethodName := ⟨RX6, "atRightSide", "()Z"⟩
abbrev cX6_takesOpen : ByteArray := prog_8_method_11_code
def yX6_takesOpen : MethodName := ⟨RX6, "takesOpen", "(I)Z"⟩
abbrev cX6_takesTable : ByteArray := prog_8_method_12_code
def yX6_takesTable : MethodName := ⟨RX6, "takesTable", "(II)Z"⟩
abbrev cX6_takesWay : ByteArray := prog_8_method_13_code
def yX6_takesWay : MethodName := ⟨RX6, "takesWay", "(I)Z"⟩
abbrev cX6_takesClose : ByteArray := prog_8_method_14_code
def yX6_takesClose : MethodName := ⟨RX6, "takesClose", "(I)Z"⟩
def RX7 : String := "JoinWays$Shelf"
def TX7 : u_T := fun k => match k with
  | 0 => ("JoinWays$Shelf", "letterBits", "[I", true)
  | 1 => ("JoinWays$Shelf", "perPage", "[I", true)
  | 2 => ("JoinWays$Shelf", "rowCount", "[I", true)
  | 3 => ("JoinWays$Shelf", "codes", "[I", true)
  | 4 => ("JoinWays$Shelf", "sorted", "[I", true)
  | 5 => ("JoinWays$Shelf", "made", "I", false)
  | 6 => ("JoinWays$Shelf", "wide", "I", false)
  | _ => ("JoinWays$Shelf", "memory", "I", false)
def tyX7 : Nat → FieldType := fun k => match k with
  | 0 => .array .int
  | 1 => .array .int
  | 2 => .array .int
  | 3 => .array .int
  | 4 => .array .int
  | 5 => .int
  | 6 => .int
  | _ => .int
abbrev wsX70 : List Cond := u_ws RX7 TX7 8
theorem nmX7 : ∀ a, a < 8 → ∀ b, b < 8 → a ≠ b → (TX7 a).2.1 ≠ (TX7 b).2.1 := by decide +kernel
theorem tyX7_ok : ∀ k, k < 8 → parseFieldDescriptor (TX7 k).2.2.1 = some (tyX7 k) := by decide +kernel
abbrev cX7_init : ByteArray := prog_9_method_1_code
def yX7_init : MethodName := ⟨RX7, "<init>", "()V"⟩
abbrev cX7_holds : ByteArray := prog_9_method_2_code
def yX7_holds : MethodName := ⟨RX7, "holds", "(I)Z"⟩
abbrev cX7_holdsRow : ByteArray := prog_9_method_3_code
def yX7_holdsRow : MethodName := ⟨RX7, "holdsRow", "(II)Z"⟩
abbrev cX7_hasLetter : ByteArray := prog_9_method_4_code
def yX7_hasLetter : MethodName := ⟨RX7, "hasLetter", "(II)Z"⟩
abbrev cX7_isSet : ByteArray := prog_9_method_5_code
def yX7_isSet : MethodName := ⟨RX7, "isSet", "(I)Z"⟩
abbrev cX7_tablesMade : ByteArray := prog_9_method_6_code
def yX7_tablesMade : MethodName := ⟨RX7, "tablesMade", "()I"⟩
abbrev cX7_allTables : ByteArray := prog_9_method_7_code
def yX7_allTables : MethodName := ⟨RX7, "allTables", "()I"⟩
abbrev cX7_lettersOf : ByteArray := prog_9_method_8_code
def yX7_lettersOf : MethodName := ⟨RX7, "lettersOf", "(I)I"⟩
abbrev cX7_perOf : ByteArray := prog_9_method_9_code
def yX7_perOf : MethodName := ⟨RX7, "perOf", "(I)I"⟩
abbrev cX7_rowsOf : ByteArray := prog_9_method_10_code
def yX7_rowsOf : MethodName := ⟨RX7, "rowsOf", "(I)I"⟩
abbrev cX7_codeAt : ByteArray := prog_9_method_11_code
def yX7_codeAt : MethodName := ⟨RX7, "codeAt", "(II)I"⟩
abbrev cX7_wide : ByteArray := prog_9_method_12_code
def yX7_wide : MethodName := ⟨RX7, "wide", "()I"⟩
abbrev cX7_memory : ByteArray := prog_9_method_13_code
def yX7_memory : MethodName := ⟨RX7, "memory", "()I"⟩
abbrev cX7_putWide : ByteArray := prog_9_method_14_code
def yX7_putWide : MethodName := ⟨RX7, "putWide", "(I)I"⟩
abbrev cX7_putMemory : ByteArray := prog_9_method_15_code
def yX7_putMemory : MethodName := ⟨RX7, "putMemory", "(I)I"⟩
abbrev cX7_addTable : ByteArray := prog_9_method_16_code
def yX7_addTable : MethodName := ⟨RX7, "addTable", "(II)I"⟩
abbrev cX7_addRow : ByteArray := prog_9_method_17_code
def yX7_addRow : MethodName := ⟨RX7, "addRow", "(II)I"⟩
abbrev cX7_addSeeded : ByteArray := prog_9_method_18_code
def yX7_addSeeded : MethodName := ⟨RX7, "addSeeded", "(IIII)I"⟩
abbrev cX7_dropRow : ByteArray := prog_9_method_19_code
def yX7_dropRow : MethodName := ⟨RX7, "dropRow", "(II)I"⟩
abbrev cX7_sortRows : ByteArray := prog_9_method_20_code
def yX7_sortRows : MethodName := ⟨RX7, "sortRows", "(II)I"⟩
abbrev cX7_placeOf : ByteArray := prog_9_method_21_code
def yX7_placeOf : MethodName := ⟨RX7, "placeOf", "(III)I"⟩
abbrev cX7_sortedLetter : ByteArray := prog_9_method_22_code
def yX7_sortedLetter : MethodName := ⟨RX7, "sortedLetter", "(I)I"⟩
abbrev cX7_rowsRise : ByteArray := prog_9_method_23_code
def yX7_rowsRise : MethodName := ⟨RX7, "rowsRise", "(II)Z"⟩
abbrev cX7_unlikeNumbers : ByteArray := prog_9_method_24_code
def yX7_unlikeNumbers : MethodName := ⟨RX7, "unlikeNumbers", "(II)I"⟩
abbrev cX7_rowsOfAll : ByteArray := prog_9_method_25_code
def yX7_rowsOfAll : MethodName := ⟨RX7, "rowsOfAll", "()I"⟩
abbrev cX7_lettersOfSet : ByteArray := prog_9_method_26_code
def yX7_lettersOfSet : MethodName := ⟨RX7, "lettersOfSet", "(I)I"⟩
abbrev cX7_fewestThatCover : ByteArray := prog_9_method_27_code
def yX7_fewestThatCover : MethodName := ⟨RX7, "fewestThatCover", "(I)I"⟩
def RX8 : String := "JoinWays"
def TX8 : u_T := fun k => match k with
  | 0 => ("JoinWays", "shelf", "LJoinWays$Shelf;", true)
  | 1 => ("JoinWays", "matches", "LJoinWays$Matches;", true)
  | 2 => ("JoinWays", "sheet", "LJoinWays$Sheet;", true)
  | 3 => ("JoinWays", "judge", "LJoinWays$Judge;", true)
  | 4 => ("JoinWays", "chooser", "LJoinWays$Chooser;", true)
  | 5 => ("JoinWays", "hanging", "LJoinWays$Hanging;", true)
  | _ => ("JoinWays", "choices", "I", false)
def tyX8 : Nat → FieldType := fun k => match k with
  | 0 => .object "JoinWays$Shelf"
  | 1 => .object "JoinWays$Matches"
  | 2 => .object "JoinWays$Sheet"
  | 3 => .object "JoinWays$Judge"
  | 4 => .object "JoinWays$Chooser"
  | 5 => .object "JoinWays$Hanging"
  | _ => .int
abbrev wsX80 : List Cond := u_ws RX8 TX8 7
theorem nmX8 : ∀ a, a < 7 → ∀ b, b < 7 → a ≠ b → (TX8 a).2.1 ≠ (TX8 b).2.1 := by decide +kernel
theorem tyX8_ok : ∀ k, k < 7 → parseFieldDescriptor (TX8 k).2.2.1 = some (tyX8 k) := by decide +kernel
abbrev cX8_init : ByteArray := prog_1_method_1_code
def yX8_init : MethodName := ⟨RX8, "<init>", "()V"⟩
abbrev cX8_table : ByteArray := prog_1_method_2_code
def yX8_table : MethodName := ⟨RX8, "table", "(II)I"⟩
abbrev cX8_row : ByteArray := prog_1_method_3_code
def yX8_row : MethodName := ⟨RX8, "row", "(IIII)I"⟩
abbrev cX8_fill : ByteArray := prog_1_method_4_code
def yX8_fill : MethodName := ⟨RX8, "fill", "(IIII)I"⟩
abbrev cX8_drop : ByteArray := prog_1_method_5_code
def yX8_drop : MethodName := ⟨RX8, "drop", "(II)I"⟩
abbrev cX8_sort : ByteArray := prog_1_method_6_code
def yX8_sort : MethodName := ⟨RX8, "sort", "(II)I"⟩
abbrev cX8_get : ByteArray := prog_1_method_7_code
def yX8_get : MethodName := ⟨RX8, "get", "(III)I"⟩
abbrev cX8_about : ByteArray := prog_1_method_8_code
def yX8_about : MethodName := ⟨RX8, "about", "(II)I"⟩
abbrev cX8_unlike : ByteArray := prog_1_method_9_code
def yX8_unlike : MethodName := ⟨RX8, "unlike", "(II)I"⟩
abbrev cX8_rule : ByteArray := prog_1_method_10_code
def yX8_rule : MethodName := ⟨RX8, "rule", "(II)I"⟩
abbrev cX8_size : ByteArray := prog_1_method_11_code
def yX8_size : MethodName := ⟨RX8, "size", "(II)I"⟩
abbrev cX8_pages : ByteArray := prog_1_method_12_code
def yX8_pages : MethodName := ⟨RX8, "pages", "(II)I"⟩
abbrev cX8_joined : ByteArray := prog_1_method_13_code
def yX8_joined : MethodName := ⟨RX8, "joined", "(III)I"⟩
abbrev cX8_value : ByteArray := prog_1_method_14_code
def yX8_value : MethodName := ⟨RX8, "value", "(III)I"⟩
abbrev cX8_idle : ByteArray := prog_1_method_15_code
def yX8_idle : MethodName := ⟨RX8, "idle", "(II)I"⟩
abbrev cX8_letters : ByteArray := prog_1_method_16_code
def yX8_letters : MethodName := ⟨RX8, "letters", "(J)I"⟩
abbrev cX8_blank : ByteArray := prog_1_method_17_code
def yX8_blank : MethodName := ⟨RX8, "blank", "()I"⟩
abbrev cX8_good : ByteArray := prog_1_method_18_code
def yX8_good : MethodName := ⟨RX8, "good", "()I"⟩
abbrev cX8_plan : ByteArray := prog_1_method_19_code
def yX8_plan : MethodName := ⟨RX8, "plan", "(II)I"⟩
abbrev cX8_best : ByteArray := prog_1_method_20_code
def yX8_best : MethodName := ⟨RX8, "best", "(IIII)I"⟩
abbrev cX8_sign : ByteArray := prog_1_method_21_code
def yX8_sign : MethodName := ⟨RX8, "sign", "(IIIII)I"⟩
abbrev cX8_regret : ByteArray := prog_1_method_22_code
def yX8_regret : MethodName := ⟨RX8, "regret", "(II)I"⟩
abbrev cX8_hangs : ByteArray := prog_1_method_23_code
def yX8_hangs : MethodName := ⟨RX8, "hangs", "(I)I"⟩
abbrev cX8_goes : ByteArray := prog_1_method_24_code
def yX8_goes : MethodName := ⟨RX8, "goes", "(II)I"⟩
abbrev cX8_on : ByteArray := prog_1_method_25_code
def yX8_on : MethodName := ⟨RX8, "on", "(II)I"⟩
abbrev cX8_left : ByteArray := prog_1_method_26_code
def yX8_left : MethodName := ⟨RX8, "left", "(II)I"⟩
abbrev cX8_steps : ByteArray := prog_1_method_27_code
def yX8_steps : MethodName := ⟨RX8, "steps", "(I)I"⟩
abbrev cX8_cover : ByteArray := prog_1_method_28_code
def yX8_cover : MethodName := ⟨RX8, "cover", "(I)I"⟩
abbrev cX8_count : ByteArray := prog_1_method_29_code
def yX8_count : MethodName := ⟨RX8, "count", "(I)I"⟩
abbrev cX8_digest : ByteArray := prog_1_method_30_code
def yX8_digest : MethodName := ⟨RX8, "digest", "()J"⟩
abbrev cX8_digestOfTable : ByteArray := prog_1_method_31_code
def yX8_digestOfTable : MethodName := ⟨RX8, "digestOfTable", "(JI)J"⟩
abbrev cX8_mayStand : ByteArray := prog_1_method_32_code
def yX8_mayStand : MethodName := ⟨RX8, "mayStand", "(IZ)Z"⟩
abbrev cX8_isLetter : ByteArray := prog_1_method_33_code
def yX8_isLetter : MethodName := ⟨RX8, "isLetter", "(I)Z"⟩
abbrev cX8_isBy : ByteArray := prog_1_method_34_code
def yX8_isBy : MethodName := ⟨RX8, "isBy", "(I)Z"⟩
abbrev cX8_refusalOfMember : ByteArray := prog_1_method_35_code
def yX8_refusalOfMember : MethodName := ⟨RX8, "refusalOfMember", "(II)I"⟩
abbrev cX8_refusalOfChoice : ByteArray := prog_1_method_36_code
def yX8_refusalOfChoice : MethodName := ⟨RX8, "refusalOfChoice", "(IIII)I"⟩
def RX9 : String := "JoinWaysModel"
def TX9 : u_T := fun k => match k with
  | 0 => ("JoinWaysModel", "tables", "I", false)
  | 1 => ("JoinWaysModel", "lettersOf", "[I", true)
  | 2 => ("JoinWaysModel", "pers", "[I", true)
  | 3 => ("JoinWaysModel", "rows", "[I", true)
  | 4 => ("JoinWaysModel", "numbers", "[I", true)
  | 5 => ("JoinWaysModel", "wide", "I", false)
  | 6 => ("JoinWaysModel", "memory", "I", false)
  | 7 => ("JoinWaysModel", "drawn", "[I", true)
  | 8 => ("JoinWaysModel", "order", "[I", true)
  | 9 => ("JoinWaysModel", "held", "[I", true)
  | 10 => ("JoinWaysModel", "isCounted", "Z", false)
  | 11 => ("JoinWaysModel", "trueSizes", "[I", true)
  | 12 => ("JoinWaysModel", "members", "[I", true)
  | 13 => ("JoinWaysModel", "memberMany", "I", false)
  | 14 => ("JoinWaysModel", "chosen", "[I", true)
  | 15 => ("JoinWaysModel", "page", "[I", true)
  | 16 => ("JoinWaysModel", "pageMany", "I", false)
  | 17 => ("JoinWaysModel", "open", "[I", true)
  | 18 => ("JoinWaysModel", "depth", "I", false)
  | 19 => ("JoinWaysModel", "used", "I", false)
  | 20 => ("JoinWaysModel", "dueMany", "I", false)
  | 21 => ("JoinWaysModel", "isDone", "Z", false)
  | 22 => ("JoinWaysModel", "pagesNow", "[I", true)
  | 23 => ("JoinWaysModel", "readySets", "[I", true)
  | 24 => ("JoinWaysModel", "readyCosts", "[I", true)
  | 25 => ("JoinWaysModel", "readyOrders", "[I", true)
  | 26 => ("JoinWaysModel", "ways", "[I", true)
  | 27 => ("JoinWaysModel", "canBeDone", "Z", false)
  | 28 => ("JoinWaysModel", "stepMany", "I", false)
  | 29 => ("JoinWaysModel", "doneMany", "I", false)
  | 30 => ("JoinWaysModel", "bestCosts", "[I", true)
  | 31 => ("JoinWaysModel", "bestTexts", "[I", true)
  | 32 => ("JoinWaysModel", "trial", "[I", true)
  | 33 => ("JoinWaysModel", "trialMany", "I", false)
  | 34 => ("JoinWaysModel", "wishedCost", "I", false)
  | 35 => ("JoinWaysModel", "foretoldText", "[I", true)
  | 36 => ("JoinWaysModel", "gone", "[I", true)
  | 37 => ("JoinWaysModel", "goneMany", "I", false)
  | 38 => ("JoinWaysModel", "hangsOn", "[I", true)
  | _ => ("JoinWaysModel", "leftRows", "[I", true)
def tyX9 : Nat → FieldType := fun k => match k with
  | 0 => .int
  | 1 => .array .int
  | 2 => .array .int
  | 3 => .array .int
  | 4 => .array .int
  | 5 => .int
  | 6 => .int
  | 7 => .array .int
  | 8 => .array .int
  | 9 => .array .int
  | 10 => .boolean
  | 11 => .array .int
  | 12 => .array .int
  | 13 => .int
  | 14 => .array .int
  | 15 => .array .int
  | 16 => .int
  | 17 => .array .int
  | 18 => .int
  | 19 => .int
  | 20 => .int
  | 21 => .boolean
  | 22 => .array .int
  | 23 => .array .int
  | 24 => .array .int
  | 25 => .array .int
  | 26 => .array .int
  | 27 => .boolean
  | 28 => .int
  | 29 => .int
  | 30 => .array .int
  | 31 => .array .int
  | 32 => .array .int
  | 33 => .int
  | 34 => .int
  | 35 => .array .int
  | 36 => .array .int
  | 37 => .int
  | 38 => .array .int
  | _ => .array .int
abbrev wsX90 : List Cond := u_ws RX9 TX9 40
theorem nmX9 : ∀ a, a < 40 → ∀ b, b < 40 → a ≠ b → (TX9 a).2.1 ≠ (TX9 b).2.1 := by decide +kernel
theorem tyX9_ok : ∀ k, k < 40 → parseFieldDescriptor (TX9 k).2.2.1 = some (tyX9 k) := by decide +kernel
abbrev cX9_init : ByteArray := prog_11_method_1_code
def yX9_init : MethodName := ⟨RX9, "<init>", "()V"⟩
abbrev cX9_in : ByteArray := prog_11_method_2_code
def yX9_in : MethodName := ⟨RX9, "in", "(JJJ)Z"⟩
abbrev cX9_up : ByteArray := prog_11_method_3_code
def yX9_up : MethodName := ⟨RX9, "up", "(II)I"⟩
abbrev cX9_bitsOf : ByteArray := prog_11_method_4_code
def yX9_bitsOf : MethodName := ⟨RX9, "bitsOf", "(I)I"⟩
abbrev cX9_isTable : ByteArray := prog_11_method_5_code
def yX9_isTable : MethodName := ⟨RX9, "isTable", "(I)Z"⟩
abbrev cX9_has : ByteArray := prog_11_method_6_code
def yX9_has : MethodName := ⟨RX9, "has", "(II)Z"⟩
abbrev cX9_table : ByteArray := prog_11_method_7_code
def yX9_table : MethodName := ⟨RX9, "table", "(II)I"⟩
abbrev cX9_letterAt : ByteArray := prog_11_method_8_code
def yX9_letterAt : MethodName := ⟨RX9, "letterAt", "(II)I"⟩
abbrev cX9_lay : ByteArray := prog_11_method_9_code
def yX9_lay : MethodName := ⟨RX9, "lay", "(IIII)V"⟩
abbrev cX9_row : ByteArray := prog_11_method_10_code
def yX9_row : MethodName := ⟨RX9, "row", "(IIII)I"⟩
abbrev cX9_fill : ByteArray := prog_11_method_11_code
def yX9_fill : MethodName := ⟨RX9, "fill", "(IIII)I"⟩
abbrev cX9_isRow : ByteArray := prog_11_method_12_code
def yX9_isRow : MethodName := ⟨RX9, "isRow", "(II)Z"⟩
abbrev cX9_drop : ByteArray := prog_11_method_13_code
def yX9_drop : MethodName := ⟨RX9, "drop", "(II)I"⟩
abbrev cX9_sort : ByteArray := prog_11_method_14_code
def yX9_sort : MethodName := ⟨RX9, "sort", "(II)I"⟩
abbrev cX9_get : ByteArray := prog_11_method_15_code
def yX9_get : MethodName := ⟨RX9, "get", "(III)I"⟩
abbrev cX9_sortedBy : ByteArray := prog_11_method_16_code
def yX9_sortedBy : MethodName := ⟨RX9, "sortedBy", "(I)I"⟩
abbrev cX9_aboutOf : ByteArray := prog_11_method_17_code
def yX9_aboutOf : MethodName := ⟨RX9, "aboutOf", "(II)I"⟩
abbrev cX9_about : ByteArray := prog_11_method_18_code
def yX9_about : MethodName := ⟨RX9, "about", "(II)I"⟩
abbrev cX9_unlikeOf : ByteArray := prog_11_method_19_code
def yX9_unlikeOf : MethodName := ⟨RX9, "unlikeOf", "(II)I"⟩
abbrev cX9_unlike : ByteArray := prog_11_method_20_code
def yX9_unlike : MethodName := ⟨RX9, "unlike", "(II)I"⟩
abbrev cX9_rule : ByteArray := prog_11_method_21_code
def yX9_rule : MethodName := ⟨RX9, "rule", "(II)I"⟩
abbrev cX9_takeMembers : ByteArray := prog_11_method_22_code
def yX9_takeMembers : MethodName := ⟨RX9, "takeMembers", "(I)V"⟩
abbrev cX9_fit : ByteArray := prog_11_method_23_code
def yX9_fit : MethodName := ⟨RX9, "fit", "(IIII)Z"⟩
abbrev cX9_fitsAhead : ByteArray := prog_11_method_24_code
def yX9_fitsAhead : MethodName := ⟨RX9, "fitsAhead", "(I)Z"⟩
abbrev cX9_nextJoined : ByteArray := prog_11_method_25_code
def yX9_nextJoined : MethodName := ⟨RX9, "nextJoined", "(I)Z"⟩
abbrev cX9_firstJoined : ByteArray := prog_11_method_26_code
def yX9_firstJoined : MethodName := ⟨RX9, "firstJoined", "(I)Z"⟩
abbrev cX9_countAll : ByteArray := prog_11_method_27_code
def yX9_countAll : MethodName := ⟨RX9, "countAll", "()V"⟩
abbrev cX9_trueSize : ByteArray := prog_11_method_28_code
def yX9_trueSize : MethodName := ⟨RX9, "trueSize", "(I)I"⟩
abbrev cX9_foretoldSize : ByteArray := prog_11_method_29_code
def yX9_foretoldSize : MethodName := ⟨RX9, "foretoldSize", "(I)I"⟩
abbrev cX9_isSet : ByteArray := prog_11_method_30_code
def yX9_isSet : MethodName := ⟨RX9, "isSet", "(I)Z"⟩
abbrev cX9_sizeOf : ByteArray := prog_11_method_31_code
def yX9_sizeOf : MethodName := ⟨RX9, "sizeOf", "(II)I"⟩
abbrev cX9_size : ByteArray := prog_11_method_32_code
def yX9_size : MethodName := ⟨RX9, "size", "(II)I"⟩
abbrev cX9_pagesOf : ByteArray := prog_11_method_33_code
def yX9_pagesOf : MethodName := ⟨RX9, "pagesOf", "(II)I"⟩
abbrev cX9_pages : ByteArray := prog_11_method_34_code
def yX9_pages : MethodName := ⟨RX9, "pages", "(II)I"⟩
abbrev cX9_goTo : ByteArray := prog_11_method_35_code
def yX9_goTo : MethodName := ⟨RX9, "goTo", "(II)Z"⟩
abbrev cX9_isIn : ByteArray := prog_11_method_36_code
def yX9_isIn : MethodName := ⟨RX9, "isIn", "(II)Z"⟩
abbrev cX9_joined : ByteArray := prog_11_method_37_code
def yX9_joined : MethodName := ⟨RX9, "joined", "(III)I"⟩
abbrev cX9_value : ByteArray := prog_11_method_38_code
def yX9_value : MethodName := ⟨RX9, "value", "(III)I"⟩
abbrev cX9_idle : ByteArray := prog_11_method_39_code
def yX9_idle : MethodName := ⟨RX9, "idle", "(II)I"⟩
abbrev cX9_letters : ByteArray := prog_11_method_40_code
def yX9_letters : MethodName := ⟨RX9, "letters", "(J)I"⟩
abbrev cX9_blank : ByteArray := prog_11_method_41_code
def yX9_blank : MethodName := ⟨RX9, "blank", "()I"⟩
abbrev cX9_endPlan : ByteArray := prog_11_method_42_code
def yX9_endPlan : MethodName := ⟨RX9, "endPlan", "()V"⟩
abbrev cX9_go : ByteArray := prog_11_method_43_code
def yX9_go : MethodName := ⟨RX9, "go", "(I)Z"⟩
abbrev cX9_goodOf : ByteArray := prog_11_method_44_code
def yX9_goodOf : MethodName := ⟨RX9, "goodOf", "()I"⟩
abbrev cX9_good : ByteArray := prog_11_method_45_code
def yX9_good : MethodName := ⟨RX9, "good", "()I"⟩
abbrev cX9_sorting : ByteArray := prog_11_method_46_code
def yX9_sorting : MethodName := ⟨RX9, "sorting", "(I)I"⟩
abbrev cX9_lettersIn : ByteArray := prog_11_method_47_code
def yX9_lettersIn : MethodName := ⟨RX9, "lettersIn", "(I)I"⟩
abbrev cX9_sharedBy : ByteArray := prog_11_method_48_code
def yX9_sharedBy : MethodName := ⟨RX9, "sharedBy", "(II)I"⟩
abbrev cX9_layPages : ByteArray := prog_11_method_49_code
def yX9_layPages : MethodName := ⟨RX9, "layPages", "(I)V"⟩
abbrev cX9_stepCost : ByteArray := prog_11_method_50_code
def yX9_stepCost : MethodName := ⟨RX9, "stepCost", "(IIIII)I"⟩
abbrev cX9_stepOrder : ByteArray := prog_11_method_51_code
def yX9_stepOrder : MethodName := ⟨RX9, "stepOrder", "(IIII)I"⟩
abbrev cX9_workOff : ByteArray := prog_11_method_52_code
def yX9_workOff : MethodName := ⟨RX9, "workOff", "([III)V"⟩
abbrev cX9_plan : ByteArray := prog_11_method_53_code
def yX9_plan : MethodName := ⟨RX9, "plan", "(II)I"⟩
abbrev cX9_signsOf : ByteArray := prog_11_method_54_code
def yX9_signsOf : MethodName := ⟨RX9, "signsOf", "(I)I"⟩
abbrev cX9_offer : ByteArray := prog_11_method_55_code
def yX9_offer : MethodName := ⟨RX9, "offer", "(III)V"⟩
abbrev cX9_putSign : ByteArray := prog_11_method_56_code
def yX9_putSign : MethodName := ⟨RX9, "putSign", "(I)V"⟩
abbrev cX9_putText : ByteArray := prog_11_method_57_code
def yX9_putText : MethodName := ⟨RX9, "putText", "(II)V"⟩
abbrev cX9_joinSides : ByteArray := prog_11_method_58_code
def yX9_joinSides : MethodName := ⟨RX9, "joinSides", "(II)V"⟩
abbrev cX9_findBest : ByteArray := prog_11_method_59_code
def yX9_findBest : MethodName := ⟨RX9, "findBest", "(III)V"⟩
abbrev cX9_bestOrder : ByteArray := prog_11_method_60_code
def yX9_bestOrder : MethodName := ⟨RX9, "bestOrder", "(II)I"⟩
abbrev cX9_isAsked : ByteArray := prog_11_method_61_code
def yX9_isAsked : MethodName := ⟨RX9, "isAsked", "(IIII)Z"⟩
abbrev cX9_best : ByteArray := prog_11_method_62_code
def yX9_best : MethodName := ⟨RX9, "best", "(IIII)I"⟩
abbrev cX9_sign : ByteArray := prog_11_method_63_code
def yX9_sign : MethodName := ⟨RX9, "sign", "(IIIII)I"⟩
abbrev cX9_regret : ByteArray := prog_11_method_64_code
def yX9_regret : MethodName := ⟨RX9, "regret", "(II)I"⟩
abbrev cX9_holder : ByteArray := prog_11_method_65_code
def yX9_holder : MethodName := ⟨RX9, "holder", "(II)I"⟩
abbrev cX9_takeAway : ByteArray := prog_11_method_66_code
def yX9_takeAway : MethodName := ⟨RX9, "takeAway", "(I)V"⟩
abbrev cX9_doesHang : ByteArray := prog_11_method_67_code
def yX9_doesHang : MethodName := ⟨RX9, "doesHang", "(I)Z"⟩
abbrev cX9_hangs : ByteArray := prog_11_method_68_code
def yX9_hangs : MethodName := ⟨RX9, "hangs", "(I)I"⟩
abbrev cX9_goes : ByteArray := prog_11_method_69_code
def yX9_goes : MethodName := ⟨RX9, "goes", "(II)I"⟩
abbrev cX9_on : ByteArray := prog_11_method_70_code
def yX9_on : MethodName := ⟨RX9, "on", "(II)I"⟩
abbrev cX9_cut : ByteArray := prog_11_method_71_code
def yX9_cut : MethodName := ⟨RX9, "cut", "(II)V"⟩
abbrev cX9_cutAll : ByteArray := prog_11_method_72_code
def yX9_cutAll : MethodName := ⟨RX9, "cutAll", "()V"⟩
abbrev cX9_left : ByteArray := prog_11_method_73_code
def yX9_left : MethodName := ⟨RX9, "left", "(II)I"⟩
abbrev cX9_steps : ByteArray := prog_11_method_74_code
def yX9_steps : MethodName := ⟨RX9, "steps", "(I)I"⟩
abbrev cX9_coverOf : ByteArray := prog_11_method_75_code
def yX9_coverOf : MethodName := ⟨RX9, "coverOf", "(I)I"⟩
abbrev cX9_cover : ByteArray := prog_11_method_76_code
def yX9_cover : MethodName := ⟨RX9, "cover", "(I)I"⟩
abbrev cX9_countOf : ByteArray := prog_11_method_77_code
def yX9_countOf : MethodName := ⟨RX9, "countOf", "(I)I"⟩
abbrev cX9_count : ByteArray := prog_11_method_78_code
def yX9_count : MethodName := ⟨RX9, "count", "(I)I"⟩
abbrev cX9_digest : ByteArray := prog_11_method_79_code
def yX9_digest : MethodName := ⟨RX9, "digest", "()J"⟩
def RJ6 : String := "java/lang/Integer"
def TJ6 : u_T := fun k => match k with
  | _ => ("", "", "", false)
def tyJ6 : Nat → FieldType := fun k => match k with
  | _ => .int
abbrev wsJ60 : List Cond := u_ws RJ6 TJ6 0
theorem nmJ6 : ∀ a, a < 0 → ∀ b, b < 0 → a ≠ b → (TJ6 a).2.1 ≠ (TJ6 b).2.1 := by decide +kernel
theorem tyJ6_ok : ∀ k, k < 0 → parseFieldDescriptor (TJ6 k).2.2.1 = some (tyJ6 k) := by decide +kernel
abbrev cJ6_numberOfTrailingZeros_0f7a4 : ByteArray := prog_12_method_48_code
def yJ6_numberOfTrailingZeros_0f7a4 : MethodName := ⟨RJ6, "numberOfTrailingZeros", "(I)I"⟩
abbrev cJ6_bitCount_0f7a4 : ByteArray := prog_12_method_49_code
def yJ6_bitCount_0f7a4 : MethodName := ⟨RJ6, "bitCount", "(I)I"⟩
def RJ9 : String := "java/lang/Math"
def TJ9 : u_T := fun k => match k with
  | _ => ("", "", "", false)
def tyJ9 : Nat → FieldType := fun k => match k with
  | _ => .int
abbrev wsJ90 : List Cond := u_ws RJ9 TJ9 0
theorem nmJ9 : ∀ a, a < 0 → ∀ b, b < 0 → a ≠ b → (TJ9 a).2.1 ≠ (TJ9 b).2.1 := by decide +kernel
theorem tyJ9_ok : ∀ k, k < 0 → parseFieldDescriptor (TJ9 k).2.2.1 = some (tyJ9 k) := by decide +kernel
abbrev cJ9_min_7cf53 : ByteArray := prog_13_method_69_code
def yJ9_min_7cf53 : MethodName := ⟨RJ9, "min", "(II)I"⟩
def RJ7 : String := "java/util/Arrays"
def TJ7 : u_T := fun k => match k with
  | _ => ("", "", "", false)
def tyJ7 : Nat → FieldType := fun k => match k with
  | _ => .int
abbrev wsJ70 : List Cond := u_ws RJ7 TJ7 0
theorem nmJ7 : ∀ a, a < 0 → ∀ b, b < 0 → a ≠ b → (TJ7 a).2.1 ≠ (TJ7 b).2.1 := by decide +kernel
theorem tyJ7_ok : ∀ k, k < 0 → parseFieldDescriptor (TJ7 k).2.2.1 = some (tyJ7 k) := by decide +kernel
abbrev cJ7_fill_53178 : ByteArray := prog_14_method_103_code
def yJ7_fill_53178 : MethodName := ⟨RJ7, "fill", "([II)V"⟩
def RL : String := "JoinWaysLaw"
abbrev cL_law : ByteArray := code
def yL_law : MethodName := ⟨RL, "law", "([I)Z"⟩
abbrev vwCl : List vw_C := [(RX0, TX0, 8), (RX1, TX1, 6), (RX2, TX2, 11), (RX3, TX3, 5), (RX6, TX6, 7), (RX7, TX7, 8), (RX8, TX8, 7), (RX9, TX9, 40)]
def TT : List Cond := lw_tbl.filter goodWord
theorem tb_1 : ∀ w ∈ tables_1_1, w ∈ lw_tbl := fun w h => List.mem_append_right _ (show w ∈ tables_1_1 ++ (tables_1_2 ++ (tables_1_3 ++ (tables_1_4 ++ (tables_1_5 ++ tables_1_6)))) from List.mem_append_left _ (h))
theorem mw1 {w : Cond} (k : Nat) (h : tables_1_1[k]? = some w) (hg : goodWord w = true) : w ∈ TT := List.mem_filter.mpr ⟨tb_1 w (List.mem_of_getElem? h), hg⟩
theorem ms1 {y : MethodName} (k n : Nat) (h : lw_privs_1[k]? = some (y, n)) : Cond.selects y.cls y y ∈ TT := List.mem_filter.mpr ⟨List.mem_append_left _ (List.mem_map.mpr ⟨(y, n), show (y, n) ∈ lw_privs_1 ++ (lw_privs_2 ++ (lw_privs_3 ++ (lw_privs_4 ++ (lw_privs_5 ++ lw_privs_6)))) from (fun h => List.mem_append_left _ (h)) (List.mem_of_getElem? h), rfl⟩), rfl⟩
theorem tb_2 : ∀ w ∈ tables_1_2, w ∈ lw_tbl := fun w h => List.mem_append_right _ (show w ∈ tables_1_1 ++ (tables_1_2 ++ (tables_1_3 ++ (tables_1_4 ++ (tables_1_5 ++ tables_1_6)))) from List.mem_append_right _ (List.mem_append_left _ (h)))
theorem mw2 {w : Cond} (k : Nat) (h : tables_1_2[k]? = some w) (hg : goodWord w = true) : w ∈ TT := List.mem_filter.mpr ⟨tb_2 w (List.mem_of_getElem? h), hg⟩
theorem ms2 {y : MethodName} (k n : Nat) (h : lw_privs_2[k]? = some (y, n)) : Cond.selects y.cls y y ∈ TT := List.mem_filter.mpr ⟨List.mem_append_left _ (List.mem_map.mpr ⟨(y, n), show (y, n) ∈ lw_privs_1 ++ (lw_privs_2 ++ (lw_privs_3 ++ (lw_privs_4 ++ (lw_privs_5 ++ lw_privs_6)))) from (fun h => List.mem_append_right _ (List.mem_append_left _ (h))) (List.mem_of_getElem? h), rfl⟩), rfl⟩
theorem tb_3 : ∀ w ∈ tables_1_3, w ∈ lw_tbl := fun w h => List.mem_append_right _ (show w ∈ tables_1_1 ++ (tables_1_2 ++ (tables_1_3 ++ (tables_1_4 ++ (tables_1_5 ++ tables_1_6)))) from List.mem_append_right _ (List.mem_append_right _ (List.mem_append_left _ (h))))
theorem mw3 {w : Cond} (k : Nat) (h : tables_1_3[k]? = some w) (hg : goodWord w = true) : w ∈ TT := List.mem_filter.mpr ⟨tb_3 w (List.mem_of_getElem? h), hg⟩
theorem ms3 {y : MethodName} (k n : Nat) (h : lw_privs_3[k]? = some (y, n)) : Cond.selects y.cls y y ∈ TT := List.mem_filter.mpr ⟨List.mem_append_left _ (List.mem_map.mpr ⟨(y, n), show (y, n) ∈ lw_privs_1 ++ (lw_privs_2 ++ (lw_privs_3 ++ (lw_privs_4 ++ (lw_privs_5 ++ lw_privs_6)))) from (fun h => List.mem_append_right _ (List.mem_append_right _ (List.mem_append_left _ (h)))) (List.mem_of_getElem? h), rfl⟩), rfl⟩
theorem tb_4 : ∀ w ∈ tables_1_4, w ∈ lw_tbl := fun w h => List.mem_append_right _ (show w ∈ tables_1_1 ++ (tables_1_2 ++ (tables_1_3 ++ (tables_1_4 ++ (tables_1_5 ++ tables_1_6)))) from List.mem_append_right _ (List.mem_append_right _ (List.mem_append_right _ (List.mem_append_left _ (h)))))
theorem mw4 {w : Cond} (k : Nat) (h : tables_1_4[k]? = some w) (hg : goodWord w = true) : w ∈ TT := List.mem_filter.mpr ⟨tb_4 w (List.mem_of_getElem? h), hg⟩
theorem ms4 {y : MethodName} (k n : Nat) (h : lw_privs_4[k]? = some (y, n)) : Cond.selects y.cls y y ∈ TT := List.mem_filter.mpr ⟨List.mem_append_left _ (List.mem_map.mpr ⟨(y, n), show (y, n) ∈ lw_privs_1 ++ (lw_privs_2 ++ (lw_privs_3 ++ (lw_privs_4 ++ (lw_privs_5 ++ lw_privs_6)))) from (fun h => List.mem_append_right _ (List.mem_append_right _ (List.mem_append_right _ (List.mem_append_left _ (h))))) (List.mem_of_getElem? h), rfl⟩), rfl⟩
theorem tb_5 : ∀ w ∈ tables_1_5, w ∈ lw_tbl := fun w h => List.mem_append_right _ (show w ∈ tables_1_1 ++ (tables_1_2 ++ (tables_1_3 ++ (tables_1_4 ++ (tables_1_5 ++ tables_1_6)))) from List.mem_append_right _ (List.mem_append_right _ (List.mem_append_right _ (List.mem_append_right _ (List.mem_append_left _ (h))))))
theorem mw5 {w : Cond} (k : Nat) (h : tables_1_5[k]? = some w) (hg : goodWord w = true) : w ∈ TT := List.mem_filter.mpr ⟨tb_5 w (List.mem_of_getElem? h), hg⟩
theorem ms5 {y : MethodName} (k n : Nat) (h : lw_privs_5[k]? = some (y, n)) : Cond.selects y.cls y y ∈ TT := List.mem_filter.mpr ⟨List.mem_append_left _ (List.mem_map.mpr ⟨(y, n), show (y, n) ∈ lw_privs_1 ++ (lw_privs_2 ++ (lw_privs_3 ++ (lw_privs_4 ++ (lw_privs_5 ++ lw_privs_6)))) from (fun h => List.mem_append_right _ (List.mem_append_right _ (List.mem_append_right _ (List.mem_append_right _ (List.mem_append_left _ (h)))))) (List.mem_of_getElem? h), rfl⟩), rfl⟩
theorem tb_6 : ∀ w ∈ tables_1_6, w ∈ lw_tbl := fun w h => List.mem_append_right _ (show w ∈ tables_1_1 ++ (tables_1_2 ++ (tables_1_3 ++ (tables_1_4 ++ (tables_1_5 ++ tables_1_6)))) from List.mem_append_right _ (List.mem_append_right _ (List.mem_append_right _ (List.mem_append_right _ (List.mem_append_right _ (h))))))
theorem mw6 {w : Cond} (k : Nat) (h : tables_1_6[k]? = some w) (hg : goodWord w = true) : w ∈ TT := List.mem_filter.mpr ⟨tb_6 w (List.mem_of_getElem? h), hg⟩
theorem ms6 {y : MethodName} (k n : Nat) (h : lw_privs_6[k]? = some (y, n)) : Cond.selects y.cls y y ∈ TT := List.mem_filter.mpr ⟨List.mem_append_left _ (List.mem_map.mpr ⟨(y, n), show (y, n) ∈ lw_privs_1 ++ (lw_privs_2 ++ (lw_privs_3 ++ (lw_privs_4 ++ (lw_privs_5 ++ lw_privs_6)))) from (fun h => List.mem_append_right _ (List.mem_append_right _ (List.mem_append_right _ (List.mem_append_right _ (List.mem_append_right _ (h)))))) (List.mem_of_getElem? h), rfl⟩), rfl⟩
end
section
theorem zz : True := trivial
end
section
/-! the layer: a method's body over a small state, the machine hidden behind J -/
abbrev SS : Type := (Nat → Int32) × (Nat → Nat → Int32) × (Nat → Int64)
abbrev WL : Type := (Nat → Nat) → ClassId → ClassId → SS → va_W
def ix (i : Int32) : Nat := i.toNatClampNeg
def fi (q : SS) (k : Nat) : Int32 := q.1 k
def ar (q : SS) (k : Nat) : Nat → Int32 := q.2.1 k
def lo (q : SS) : Nat → Int64 := q.2.2
def sf (q : SS) (k : Nat) (v : Int32) : SS := (fun j => if j = k then v else q.1 j, q.2)
def sa (q : SS) (k : Nat) (i : Nat) (v : Int32) : SS := (q.1, (fun j => if j = k then upd (q.2.1 j) i v else q.2.1 j), q.2.2)
def sl (q : SS) (i : Nat) (v : Int64) : SS := (q.1, q.2.1, vp_updL q.2.2 i v)
def jshl (x y : Int32) : Int32 := x <<< (y &&& 31)
def jshr (x y : Int32) : Int32 := x >>> (y &&& 31)
def jushr (x y : Int32) : Int32 := (x.toUInt32 >>> (y.toUInt32 &&& Int32.toUInt32 31)).toInt32
def jlushr (x : Int64) (y : Int32) : Int64 := (x.toUInt64 >>> (y.toInt64.toUInt64 &&& Int64.toUInt64 63)).toInt64
def jlshl (x : Int64) (y : Int32) : Int64 := x <<< (y.toInt64 &&& 63)
def jlrem (x y : Int64) : Int64 := x - x / y * y
def ck {α : Type} (i : Int32) (n : Nat) (k : Option α) : Option α := if i < 0 ∨ n ≤ i.toNatClampNeg then none else k
def cz {α : Type} (v : Int32) (k : Option α) : Option α := if v = 0 ∨ v = 1 then k else none
def dz {α : Type} (v : Int32) (k : Option α) : Option α := if v = 0 then none else k
def dzl {α : Type} (v : Int64) (k : Option α) : Option α := if v = 0 then none else k
def bn {α β : Type} (e : α) (k : α → Option β) : Option β := k e
def bd {α β : Type} (o : Option α) (k : α → Option β) : Option β := match o with
  | none => none
  | some a => k a
def bd2 {α γ β : Type} (o : Option (α × γ)) (k : α → γ → Option β) : Option β := match o with
  | none => none
  | some (a, c) => k a c
theorem ck_some {α : Type} {i : Int32} {n : Nat} {k : Option α} {x : α} (h : ck i n k = some x) : vp_in i n ∧ k = some x := by
  unfold ck at h
  by_cases c : i < 0 ∨ n ≤ i.toNatClampNeg
  · rw [if_pos c] at h; cases h
  · rw [if_neg c] at h; exact ⟨c, h⟩
theorem cz_some {α : Type} {v : Int32} {k : Option α} {x : α} (h : cz v k = some x) : (v = 0 ∨ v = 1) ∧ k = some x := by
  unfold cz at h
  by_cases c : v = 0 ∨ v = 1
  · rw [if_pos c] at h; exact ⟨c, h⟩
  · rw [if_neg c] at h; cases h
theorem dz_some {α : Type} {v : Int32} {k : Option α} {x : α} (h : dz v k = some x) : (¬ v = 0) ∧ k = some x := by
  unfold dz at h
  by_cases c : v = 0
  · rw [if_pos c] at h; cases h
  · rw [if_neg c] at h; exact ⟨c, h⟩
theorem dzl_some {α : Type} {v : Int64} {k : Option α} {x : α} (h : dzl v k = some x) : (¬ v = 0) ∧ k = some x := by
  unfold dzl at h
  by_cases c : v = 0
  · rw [if_pos c] at h; cases h
  · rw [if_neg c] at h; exact ⟨c, h⟩
theorem bn_some {α β : Type} {e : α} {k : α → Option β} {x : β} (h : bn e k = some x) : ∃ y, y = e ∧ k y = some x := ⟨e, rfl, h⟩
theorem bd_some {α β : Type} {o : Option α} {k : α → Option β} {x : β} (h : bd o k = some x) : ∃ y, o = some y ∧ k y = some x := by
  cases o with
  | none => cases h
  | some a => exact ⟨a, rfl, h⟩
theorem bd2_some {α γ β : Type} {o : Option (α × γ)} {k : α → γ → Option β} {x : β} (h : bd2 o k = some x) : ∃ y z, o = some (y, z) ∧ k y z = some x := by
  cases o with
  | none => cases h
  | some a => exact ⟨a.1, a.2, rfl, h⟩
theorem mu_noneF {α : Type} {x : α} {G : Prop} (h : (none : Option α) = some x) : G := by cases h
theorem TTg : ∀ w ∈ TT, (w.onTables && w.keeps) = true ∨ ∃ ty, w = .arrayClass ty := fun w hw => good_of_word (List.mem_filter.mp hw).2
def rmN (n : Nat) : Room := { frames := 2 * n, cells := 0, slots := 0, locals := 100 * n }
def tyA (cI cJ : ClassId) : List (ClassId × FieldType) := [(cI, .int), (cJ, .long)]
def WD (wl : WL) (D : va_G) (ad : Nat → Nat) (cI cJ : ClassId) (A : Nat → Prop) (s : State) (q : SS) (H : Heap) (locs : List Loc) : Prop :=
  va_K D vwCl (tyA cI cJ) s ∧ va_P D vwCl (wl ad cI cJ q) H ∧ va_D A (wl ad cI cJ q) ∧ va_S A s.heap H locs
abbrev JT : Type := List (Nat × Value) → List Value → SS → Nat → Prop
abbrev PT : Type := Option Value → SS → Prop
def QQ (wl : WL) (D : va_G) (ad : Nat → Nat) (cI cJ : ClassId) (A : Nat → Prop) (P : PT) : Array Value → State → Outcome → State → Prop := fun _ st oc t =>
  (∃ (v : Option Value) (q : SS), oc = .returned v ∧ P v q ∧ va_P D vwCl (wl ad cI cJ q) t.heap ∧ va_K D vwCl (tyA cI cJ) t ∧ va_D A (wl ad cI cJ q)) ∧ va_F A st t
def Rl (wl : WL) (n : Nat) (own : String) (cc : ByteArray) (nL : Nat) (ret : Option FieldType) (ad : Nat → Nat) (J : JT) (P : PT) : Prop :=
  ∃ (p : Program) (l : Launch) (e : Env) (s : State) (m : MethodId) (args : Array Value) (below : List Frame) (meth : Method) (c : Code) (D : va_G) (cI cJ : ClassId) (A : Nat → Prop),
    CallFix p m c cc nL s args TT own ∧ meth.sig.returnType = ret ∧ meth.locks = false ∧ (∀ q, s.heap.size ≤ q → A q) ∧
    J = fun lv st q pc => ∀ (H : Heap) (locs : List Loc) (ls : Array Slot), WD wl D ad cI cJ A s q H locs → lv_has ls nL lv → W p l e (rmN n) s m args below meth c H locs 0 0 (MQ below (QQ wl D ad cI cJ A P) args s 0 0 A) (F0 m pc ls st)
/-- a method's contract: from the state q with these arguments it returns v and leaves the state q2 -/
def Ct (wl : WL) (n : Nat) (y : MethodName) (cc : ByteArray) (maxL : Nat) (ret : Option FieldType) (av : (Nat → Nat) → List Value) (q : SS) (v : (Nat → Nat) → Option Value) (q2 : SS) : Prop :=
  ∀ (l : Launch) (D : va_G) (ad : Nat → Nat) (cI cJ : ClassId) (sz : Nat), Met l y (.code y cc maxL ret :: TT) (rmN n)
    (va_Pc (av ad) (fun U => U.heap.size = sz ∧ va_K D vwCl (tyA cI cJ) U ∧ va_P D vwCl (wl ad cI cJ q) U.heap ∧ va_D (fun _ => True) (wl ad cI cJ q)))
    (QQ wl D ad cI cJ (va_A (wl ad cI cJ q) sz) (fun v2 q3 => v2 = v ad ∧ q3 = q2)) 0 0 (va_A (wl ad cI cJ q) sz)
theorem ct_of {wl : WL} {n : Nat} {y : MethodName} {cc : ByteArray} {maxL : Nat} {ret : Option FieldType} {av : (Nat → Nat) → List Value} {q : SS} {v : (Nat → Nat) → Option Value} {q2 : SS} (hy : plainName y.cls = true)
    (hlen : ∀ ad, (lg_sl (av ad)).length ≤ maxL) (h : ∀ (ad : Nat → Nat) (J : JT), Rl wl n y.cls cc maxL ret ad J (fun v2 q3 => v2 = v ad ∧ q3 = q2) → J (lv_args 0 (av ad)) [] q 0) : Ct wl n y cc maxL ret av q v q2 := by
  intro l D ad cI cJ sz
  refine Met.ofW (cc := cc) (maxL := maxL) (ret := ret) hy rfl ?_
  intro p e s m args below meth c s₁ B hml hv
  obtain ⟨rfl, hsz, hK, hP, hD0⟩ := hv
  have hts := atoms_spec (ws := .code y cc maxL ret :: TT) B.pre
  have hown : s.vm.findClass y.cls = some m.cls := findClass_of_methodNamed B.named
  subst hsz
  have hD := hD0.self (sz := s.heap.size)
  have hl := lv_entry (av ad) (n := maxL) (hlen ad)
  rw [lg_entry_eq]
  exact h ad _ ⟨p, l, e, s, m, (av ad).toArray, below, meth, c, D, cI, cJ, va_A (wl ad cI cJ q) s.heap.size, ⟨B.exec, B.bytes, hml, hown, fun w hw => hts w (List.mem_cons_of_mem _ hw)⟩, B.returns, B.notSynchronized, fun q h => Or.inr h, rfl⟩ s.heap [] _ ⟨hK, hP, hD, va_S.rf⟩ hl
/-- what a call needs of the tables -/
def Cf (own : String) (n n2 np idx : Nat) (y : MethodName) (bytes : ByteArray) (maxL : Nat) (rt : Option FieldType) : Prop :=
  Cond.methodLink own idx y ∈ TT ∧ Cond.initialized y.cls ∈ TT ∧ Cond.code y bytes maxL rt ∈ TT ∧ (y.cls ≠ "java/lang/invoke/MethodHandle" ∧ y.cls ≠ "java/lang/invoke/VarHandle" ∧ (parseMethodDescriptor y.desc).map (fun d => d.parameters.length) = some np) ∧ n2 + 1 ≤ n ∧ maxL ≤ 60
section LayerCall
variable {wl : WL} {n : Nat} {own : String} {cc : ByteArray} {nL : Nat} {ret : Option FieldType} {ad : Nat → Nat} {J : JT} {P : PT}
variable {lv lv' : List (Nat × Value)} {st : List Value} {q q1 : SS} {pc : Nat}
theorem call_go {p : Program} {l : Launch} {e : Env} {s : State} {m : MethodId} {args : Array Value} {below : List Frame} {meth : Method} {c : Code} {D : va_G} {cI cJ : ClassId} {A : Nat → Prop} {H : Heap} {locs : List Loc} {ls : Array Slot} {Qr : State → Prop} {R : Room} {a : Array Value} {v : Option Value} {stk : List Value}
    (hr : va_Run p l e R s m args below meth c H locs 0 0 0 0 (F0 m pc ls stk) st (QQ wl D ad cI cJ (va_A (wl ad cI cJ q) H.size) (fun v2 q3 => v2 = v ∧ q3 = q1) a) (va_A (wl ad cI cJ q) H.size)) (hw : WD wl D ad cI cJ A s q H locs) (hA : ∀ x, s.heap.size ≤ x → A x)
    (kk : ∀ (H1 : Heap) (locs1 : List Loc), WD wl D ad cI cJ A s q1 H1 locs1 → W p l e R s m args below meth c H1 locs1 0 0 Qr (F0 m (pc + 3) ls (v.toList ++ st))) : W p l e R s m args below meth c H locs 0 0 Qr (F0 m pc ls stk) := by
  obtain ⟨hK, hP, hD, hS⟩ := hw
  have hF : ∀ x, va_A (wl ad cI cJ q) H.size x → A x := fun x h => by
    rcases h with ⟨k, e1, h⟩ | h
    · exact hD.2 k (x, e1) h
    · exact hA x (Nat.le_trans hS.1 h)
  intro T hT X
  obtain ⟨v1, st₀, t, T', L, h0, X', hL, e1, e2, ⟨⟨v2, q3, hv, ⟨rfl, rfl⟩, hP1, hK1, hD1⟩, hz, hk⟩, stp⟩ := hr T hT X
  cases hv
  rw [h0] at hz hk
  obtain ⟨t2, a1, b1⟩ := kk T'.heap (locs ++ L) ⟨hK, by rw [e1]; exact hP1, hD1.weaken (fun k x _ h => hF x.1 h), Nat.le_trans hS.1 (by rw [e1]; exact hz), fun x h1 h2 => by rw [e1, hk x (Nat.lt_of_lt_of_le h1 hS.1) (fun z => h2 (hF x z))]; exact hS.2.1 x h1 h2, fun x hx => by
    rcases List.mem_append.mp hx with h | h
    · exact hS.2.2 x h
    · exact hF _ (hL x h)⟩ T' rfl X'
  exact ⟨t2, stp t2 a1, b1⟩
theorem r_callV (hR : Rl wl n own cc nL ret ad J P) {n2 np idx maxL : Nat} {y : MethodName} {bytes : ByteArray} {rt : Option FieldType} {av : (Nat → Nat) → List Value} {v : (Nat → Nat) → Option Value} (hC : Ct wl n2 y bytes maxL rt av q v q1) (hcf : Cf own n n2 np idx y bytes maxL rt)
    (hi : Cond.instanceMethod y ∈ TT ∧ Cond.selects y.cls y y ∈ TT) {a : Nat} {As stk : List Value} (hav : av ad = .ref a :: As) (hlen : As.length = np) {q0 ci : Nat} {qc : vw_C} (hq : vwCl[ci]? = some qc) (hqn : qc.1 = y.cls) (hrc : ∀ cI cJ, ∃ fs, (wl ad cI cJ q)[q0]? = some (a, .inr (ci, fs)))
    (hst : (st.map fun v => v.category).sum ≤ 8) (hs : stk = As.reverse ++ .ref a :: st) (hdg : decode cc pc = .ok (.invokevirtual idx, 3)) (k : J lv ((v ad).toList ++ st) q1 (pc + 3)) : J lv stk q pc := by
  obtain ⟨p, l, e, s, m, args, below, meth, c, D, cI, cJ, A, hfix, hret, hlk, hA, rfl⟩ := hR
  intro H locs ls hw hl
  have hw' := hw
  obtain ⟨hK, hP, hD, hS⟩ := hw'
  obtain ⟨h1, h2, h3, h4, h5, h6⟩ := hcf
  have hts := hfix.2.2.2.2
  obtain ⟨fs, he⟩ := hrc cI cJ
  have hG : GoodIn TT (.code y bytes maxL rt :: TT) := fun w h => by
    rcases List.mem_cons.mp h with rfl | h
    · exact ⟨h3, TTg _ h3⟩
    · exact ⟨h, TTg w h⟩
  have hM := hC l D ad cI cJ H.size
  have hcb : CallB (rmN n) s args own idx y bytes maxL rt (.code y bytes maxL rt :: TT) (rmN n2) 0 0 np := callB_of np hts hG rfl rfl rfl (hts _ h2) (hts _ h1) h4 ⟨show 2 * n2 + 1 ≤ 2 * n by omega, show 8 + (maxL + 11) + 100 * n2 ≤ 100 * n by omega⟩
  refine call_go (v := v ad) (a := (Value.ref a :: As).toArray) (va_runV (As := As) (rest := st) (C := y.cls) hfix hM ⟨hcb, hts _ hi.1, hts _ hi.2⟩ ⟨fun a U g mk z => ?_, ?_, fun U hU hW => ?_⟩ rfl hlen hl.1 hs (lv_room (m := m) (pc := pc) (ls := ls) (rest := st) hst) hdg ⟨Nat.le_refl 0, Nat.le_refl 0⟩) hw hA (fun H1 locs1 hw1 => k H1 locs1 ls hw1 hl)
  · obtain ⟨z0, z1, z2, z3, z4⟩ := z
    exact ⟨z0, z1, va_K.moved (u := U) (U := U.calling g mk a) (Vm.Alike.refl U.vm) z2, z3, z4⟩
  · obtain ⟨cell, g1, g2, g3⟩ := va_recv hK hP hq he
    exact ⟨cell, g1, g2, by rw [← hqn]; exact g3⟩
  · exact ⟨by rw [hav], by rw [hU], va_K.moved hW.alike hK, by rw [hU]; exact hP, hD.weaken (fun _ _ _ _ => trivial)⟩
theorem r_callS (hR : Rl wl n own cc nL ret ad J P) {n2 np idx maxL : Nat} {y : MethodName} {bytes : ByteArray} {rt : Option FieldType} {av : (Nat → Nat) → List Value} {v : (Nat → Nat) → Option Value} (hC : Ct wl n2 y bytes maxL rt av q v q1) (hcf : Cf own n n2 np idx y bytes maxL rt)
    (hi : Cond.static y ∈ TT) {As stk : List Value} (hav : av ad = As) (hlen : As.length = np) (hst : (st.map fun v => v.category).sum ≤ 8) (hs : stk = As.reverse ++ st) (hdg : decode cc pc = .ok (.invokestatic idx, 3)) (k : J lv ((v ad).toList ++ st) q1 (pc + 3)) : J lv stk q pc := by
  obtain ⟨p, l, e, s, m, args, below, meth, c, D, cI, cJ, A, hfix, hret, hlk, hA, rfl⟩ := hR
  intro H locs ls hw hl
  have hw' := hw
  obtain ⟨hK, hP, hD, hS⟩ := hw'
  obtain ⟨h1, h2, h3, h4, h5, h6⟩ := hcf
  have hts := hfix.2.2.2.2
  have hG : GoodIn TT (.code y bytes maxL rt :: TT) := fun w h => by
    rcases List.mem_cons.mp h with rfl | h
    · exact ⟨h3, TTg _ h3⟩
    · exact ⟨h, TTg w h⟩
  have hM := hC l D ad cI cJ H.size
  have hcb : CallB (rmN n) s args own idx y bytes maxL rt (.code y bytes maxL rt :: TT) (rmN n2) 0 0 np := callB_of np hts hG rfl rfl rfl (hts _ h2) (hts _ h1) h4 ⟨show 2 * n2 + 1 ≤ 2 * n by omega, show 8 + (maxL + 11) + 100 * n2 ≤ 100 * n by omega⟩
  refine call_go (v := v ad) (a := As.toArray) (va_runS (As := As) (rest := st) hfix hM ⟨hcb, hts _ hi⟩ ⟨fun a U g mk z => ?_, fun U hU hW => ?_⟩ rfl hlen hl.1 hs (lv_room (m := m) (pc := pc) (ls := ls) (rest := st) hst) hdg ⟨Nat.le_refl 0, Nat.le_refl 0⟩) hw hA (fun H1 locs1 hw1 => k H1 locs1 ls hw1 hl)
  · obtain ⟨z0, z1, z2, z3, z4⟩ := z
    exact ⟨z0, z1, va_K.moved (u := U) (U := U.calling g mk a) (Vm.Alike.refl U.vm) z2, z3, z4⟩
  · exact ⟨by rw [hav], by rw [hU], va_K.moved hW.alike hK, by rw [hU]; exact hP, hD.weaken (fun _ _ _ _ => trivial)⟩
end LayerCall
section LayerRows
variable {wl : WL} {n : Nat} {own : String} {cc : ByteArray} {nL : Nat} {ret : Option FieldType} {ad : Nat → Nat} {J : JT} {P : PT}
variable {lv lv' : List (Nat × Value)} {st : List Value} {q q1 : SS} {pc : Nat}
theorem r_iadd (hR : Rl wl n own cc nL ret ad J P) {x y : Int32} (hdg : decode cc pc = .ok (.iadd, 1))  (k : J lv (.int (x + y) :: st) q (pc + 1)) : J lv (.int y :: .int x :: st) q pc := by
  obtain ⟨p, l, e, s, m, args, below, meth, c, D, cI, cJ, A, hfix, hret, hlk, hA, rfl⟩ := hR
  intro H locs ls hw hl
  exact lv_iadd hfix.1 hfix.2.1 hdg  (k H locs ls hw hl)
theorem r_isub (hR : Rl wl n own cc nL ret ad J P) {x y : Int32} (hdg : decode cc pc = .ok (.isub, 1))  (k : J lv (.int (x - y) :: st) q (pc + 1)) : J lv (.int y :: .int x :: st) q pc := by
  obtain ⟨p, l, e, s, m, args, below, meth, c, D, cI, cJ, A, hfix, hret, hlk, hA, rfl⟩ := hR
  intro H locs ls hw hl
  exact lv_isub hfix.1 hfix.2.1 hdg  (k H locs ls hw hl)
theorem r_imul (hR : Rl wl n own cc nL ret ad J P) {x y : Int32} (hdg : decode cc pc = .ok (.imul, 1))  (k : J lv (.int (x * y) :: st) q (pc + 1)) : J lv (.int y :: .int x :: st) q pc := by
  obtain ⟨p, l, e, s, m, args, below, meth, c, D, cI, cJ, A, hfix, hret, hlk, hA, rfl⟩ := hR
  intro H locs ls hw hl
  exact lv_imul hfix.1 hfix.2.1 hdg  (k H locs ls hw hl)
theorem r_iand (hR : Rl wl n own cc nL ret ad J P) {x y : Int32} (hdg : decode cc pc = .ok (.iand, 1))  (k : J lv (.int (x &&& y) :: st) q (pc + 1)) : J lv (.int y :: .int x :: st) q pc := by
  obtain ⟨p, l, e, s, m, args, below, meth, c, D, cI, cJ, A, hfix, hret, hlk, hA, rfl⟩ := hR
  intro H locs ls hw hl
  exact lv_iand hfix.1 hfix.2.1 hdg  (k H locs ls hw hl)
theorem r_ior (hR : Rl wl n own cc nL ret ad J P) {x y : Int32} (hdg : decode cc pc = .ok (.ior, 1))  (k : J lv (.int (x ||| y) :: st) q (pc + 1)) : J lv (.int y :: .int x :: st) q pc := by
  obtain ⟨p, l, e, s, m, args, below, meth, c, D, cI, cJ, A, hfix, hret, hlk, hA, rfl⟩ := hR
  intro H locs ls hw hl
  exact lv_ior hfix.1 hfix.2.1 hdg  (k H locs ls hw hl)
theorem r_ixor (hR : Rl wl n own cc nL ret ad J P) {x y : Int32} (hdg : decode cc pc = .ok (.ixor, 1))  (k : J lv (.int (x ^^^ y) :: st) q (pc + 1)) : J lv (.int y :: .int x :: st) q pc := by
  obtain ⟨p, l, e, s, m, args, below, meth, c, D, cI, cJ, A, hfix, hret, hlk, hA, rfl⟩ := hR
  intro H locs ls hw hl
  exact lv_ixor hfix.1 hfix.2.1 hdg  (k H locs ls hw hl)
theorem r_ishl (hR : Rl wl n own cc nL ret ad J P) {x y : Int32} (hdg : decode cc pc = .ok (.ishl, 1))  (k : J lv (.int (jshl x y) :: st) q (pc + 1)) : J lv (.int y :: .int x :: st) q pc := by
  obtain ⟨p, l, e, s, m, args, below, meth, c, D, cI, cJ, A, hfix, hret, hlk, hA, rfl⟩ := hR
  intro H locs ls hw hl
  exact lv_ishl hfix.1 hfix.2.1 hdg  (k H locs ls hw hl)
theorem r_ishr (hR : Rl wl n own cc nL ret ad J P) {x y : Int32} (hdg : decode cc pc = .ok (.ishr, 1))  (k : J lv (.int (jshr x y) :: st) q (pc + 1)) : J lv (.int y :: .int x :: st) q pc := by
  obtain ⟨p, l, e, s, m, args, below, meth, c, D, cI, cJ, A, hfix, hret, hlk, hA, rfl⟩ := hR
  intro H locs ls hw hl
  exact lv_ishr hfix.1 hfix.2.1 hdg  (k H locs ls hw hl)
theorem r_iushr (hR : Rl wl n own cc nL ret ad J P) {x y : Int32} (hdg : decode cc pc = .ok (.iushr, 1))  (k : J lv (.int (jushr x y) :: st) q (pc + 1)) : J lv (.int y :: .int x :: st) q pc := by
  obtain ⟨p, l, e, s, m, args, below, meth, c, D, cI, cJ, A, hfix, hret, hlk, hA, rfl⟩ := hR
  intro H locs ls hw hl
  exact lv_iushr hfix.1 hfix.2.1 hdg rfl (k H locs ls hw hl)
theorem r_idiv (hR : Rl wl n own cc nL ret ad J P) {x y : Int32} (hdg : decode cc pc = .ok (.idiv, 1)) (hne : ¬ y = 0) (k : J lv (.int (x / y) :: st) q (pc + 1)) : J lv (.int y :: .int x :: st) q pc := by
  obtain ⟨p, l, e, s, m, args, below, meth, c, D, cI, cJ, A, hfix, hret, hlk, hA, rfl⟩ := hR
  intro H locs ls hw hl
  exact lv_idiv hfix.1 hfix.2.1 hdg hne (k H locs ls hw hl)
theorem r_ladd (hR : Rl wl n own cc nL ret ad J P) {x y : Int64} (hdg : decode cc pc = .ok (.ladd, 1))  (k : J lv (.long (x + y) :: st) q (pc + 1)) : J lv (.long y :: .long x :: st) q pc := by
  obtain ⟨p, l, e, s, m, args, below, meth, c, D, cI, cJ, A, hfix, hret, hlk, hA, rfl⟩ := hR
  intro H locs ls hw hl
  exact lv_ladd hfix.1 hfix.2.1 hdg  (k H locs ls hw hl)
theorem r_lsub (hR : Rl wl n own cc nL ret ad J P) {x y : Int64} (hdg : decode cc pc = .ok (.lsub, 1))  (k : J lv (.long (x - y) :: st) q (pc + 1)) : J lv (.long y :: .long x :: st) q pc := by
  obtain ⟨p, l, e, s, m, args, below, meth, c, D, cI, cJ, A, hfix, hret, hlk, hA, rfl⟩ := hR
  intro H locs ls hw hl
  exact lv_lsub hfix.1 hfix.2.1 hdg  (k H locs ls hw hl)
theorem r_lmul (hR : Rl wl n own cc nL ret ad J P) {x y : Int64} (hdg : decode cc pc = .ok (.lmul, 1))  (k : J lv (.long (x * y) :: st) q (pc + 1)) : J lv (.long y :: .long x :: st) q pc := by
  obtain ⟨p, l, e, s, m, args, below, meth, c, D, cI, cJ, A, hfix, hret, hlk, hA, rfl⟩ := hR
  intro H locs ls hw hl
  exact lv_lmul hfix.1 hfix.2.1 hdg  (k H locs ls hw hl)
theorem r_land (hR : Rl wl n own cc nL ret ad J P) {x y : Int64} (hdg : decode cc pc = .ok (.land, 1))  (k : J lv (.long (x &&& y) :: st) q (pc + 1)) : J lv (.long y :: .long x :: st) q pc := by
  obtain ⟨p, l, e, s, m, args, below, meth, c, D, cI, cJ, A, hfix, hret, hlk, hA, rfl⟩ := hR
  intro H locs ls hw hl
  exact lv_land hfix.1 hfix.2.1 hdg  (k H locs ls hw hl)
theorem r_lor (hR : Rl wl n own cc nL ret ad J P) {x y : Int64} (hdg : decode cc pc = .ok (.lor, 1))  (k : J lv (.long (x ||| y) :: st) q (pc + 1)) : J lv (.long y :: .long x :: st) q pc := by
  obtain ⟨p, l, e, s, m, args, below, meth, c, D, cI, cJ, A, hfix, hret, hlk, hA, rfl⟩ := hR
  intro H locs ls hw hl
  exact lv_lor hfix.1 hfix.2.1 hdg  (k H locs ls hw hl)
theorem r_ldiv (hR : Rl wl n own cc nL ret ad J P) {x y : Int64} (hdg : decode cc pc = .ok (.ldiv, 1)) (hne : ¬ y = 0) (k : J lv (.long (x / y) :: st) q (pc + 1)) : J lv (.long y :: .long x :: st) q pc := by
  obtain ⟨p, l, e, s, m, args, below, meth, c, D, cI, cJ, A, hfix, hret, hlk, hA, rfl⟩ := hR
  intro H locs ls hw hl
  exact lv_ldiv hfix.1 hfix.2.1 hdg hne (k H locs ls hw hl)
theorem r_lrem (hR : Rl wl n own cc nL ret ad J P) {x y : Int64} (hdg : decode cc pc = .ok (.lrem, 1)) (hne : ¬ y = 0) (k : J lv (.long (jlrem x y) :: st) q (pc + 1)) : J lv (.long y :: .long x :: st) q pc := by
  obtain ⟨p, l, e, s, m, args, below, meth, c, D, cI, cJ, A, hfix, hret, hlk, hA, rfl⟩ := hR
  intro H locs ls hw hl
  exact lv_lrem hfix.1 hfix.2.1 hdg hne (k H locs ls hw hl)
theorem r_lushr (hR : Rl wl n own cc nL ret ad J P) {x : Int64} {y : Int32} (hdg : decode cc pc = .ok (.lushr, 1))  (k : J lv (.long (jlushr x y) :: st) q (pc + 1)) : J lv (.int y :: .long x :: st) q pc := by
  obtain ⟨p, l, e, s, m, args, below, meth, c, D, cI, cJ, A, hfix, hret, hlk, hA, rfl⟩ := hR
  intro H locs ls hw hl
  exact lv_lushr hfix.1 hfix.2.1 hdg rfl (k H locs ls hw hl)
theorem r_lshl (hR : Rl wl n own cc nL ret ad J P) {x : Int64} {y : Int32} (hdg : decode cc pc = .ok (.lshl, 1))  (k : J lv (.long (jlshl x y) :: st) q (pc + 1)) : J lv (.int y :: .long x :: st) q pc := by
  obtain ⟨p, l, e, s, m, args, below, meth, c, D, cI, cJ, A, hfix, hret, hlk, hA, rfl⟩ := hR
  intro H locs ls hw hl
  exact lv_lshl hfix.1 hfix.2.1 hdg rfl (k H locs ls hw hl)
theorem r_i2l (hR : Rl wl n own cc nL ret ad J P) {x : Int32} (hdg : decode cc pc = .ok (.i2l, 1))  (k : J lv (.long x.toInt64 :: st) q (pc + 1)) : J lv (.int x :: st) q pc := by
  obtain ⟨p, l, e, s, m, args, below, meth, c, D, cI, cJ, A, hfix, hret, hlk, hA, rfl⟩ := hR
  intro H locs ls hw hl
  exact lv_i2l hfix.1 hfix.2.1 hdg rfl (k H locs ls hw hl)
theorem r_l2i (hR : Rl wl n own cc nL ret ad J P) {x : Int64} (hdg : decode cc pc = .ok (.l2i, 1))  (k : J lv (.int x.toInt32 :: st) q (pc + 1)) : J lv (.long x :: st) q pc := by
  obtain ⟨p, l, e, s, m, args, below, meth, c, D, cI, cJ, A, hfix, hret, hlk, hA, rfl⟩ := hR
  intro H locs ls hw hl
  exact lv_l2i hfix.1 hfix.2.1 hdg rfl (k H locs ls hw hl)
theorem r_lcmp (hR : Rl wl n own cc nL ret ad J P) {x y : Int64} (hdg : decode cc pc = .ok (.lcmp, 1))  (k : J lv (.int (lg_cmp x y) :: st) q (pc + 1)) : J lv (.long y :: .long x :: st) q pc := by
  obtain ⟨p, l, e, s, m, args, below, meth, c, D, cI, cJ, A, hfix, hret, hlk, hA, rfl⟩ := hR
  intro H locs ls hw hl
  exact W.lcmp hfix.1 hfix.2.1 hdg  (k H locs ls hw hl)
theorem r_dup (hR : Rl wl n own cc nL ret ad J P) {va : Value} (hdg : decode cc pc = .ok (.dup, 1)) (hva : va.category = 1) (k : J lv (va :: va :: st) q (pc + 1)) : J lv (va :: st) q pc := by
  obtain ⟨p, l, e, s, m, args, below, meth, c, D, cI, cJ, A, hfix, hret, hlk, hA, rfl⟩ := hR
  intro H locs ls hw hl
  exact lv_dup hfix.1 hfix.2.1 hdg hva (k H locs ls hw hl)
theorem r_pop (hR : Rl wl n own cc nL ret ad J P) {va : Value} (hdg : decode cc pc = .ok (.pop, 1)) (hva : va.category = 1) (k : J lv (st) q (pc + 1)) : J lv (va :: st) q pc := by
  obtain ⟨p, l, e, s, m, args, below, meth, c, D, cI, cJ, A, hfix, hret, hlk, hA, rfl⟩ := hR
  intro H locs ls hw hl
  exact lv_pop hfix.1 hfix.2.1 hdg hva (k H locs ls hw hl)
theorem r_dup2 (hR : Rl wl n own cc nL ret ad J P) {va vb : Value} (hdg : decode cc pc = .ok (.dup2, 1)) (hva : va.category = 1) (hvb : vb.category = 1) (k : J lv (va :: vb :: va :: vb :: st) q (pc + 1)) : J lv (va :: vb :: st) q pc := by
  obtain ⟨p, l, e, s, m, args, below, meth, c, D, cI, cJ, A, hfix, hret, hlk, hA, rfl⟩ := hR
  intro H locs ls hw hl
  exact lv_dup2_11 hfix.1 hfix.2.1 hdg hva hvb (k H locs ls hw hl)
theorem r_iconst (hR : Rl wl n own cc nL ret ad J P) {i : Int} {v : Int32} (hdg : decode cc pc = .ok (.iconst i, 1)) (hv : Int32.ofInt i = v) (k : J lv (.int v :: st) q (pc + 1)) : J lv (st) q pc := by
  obtain ⟨p, l, e, s, m, args, below, meth, c, D, cI, cJ, A, hfix, hret, hlk, hA, rfl⟩ := hR
  intro H locs ls hw hl
  exact lv_iconst hfix.1 hfix.2.1 hdg hv (k H locs ls hw hl)
theorem r_bipush (hR : Rl wl n own cc nL ret ad J P) {i : Int} {v : Int32} (hdg : decode cc pc = .ok (.bipush i, 2)) (hv : (Int8.ofInt i).toInt32 = v) (k : J lv (.int v :: st) q (pc + 2)) : J lv (st) q pc := by
  obtain ⟨p, l, e, s, m, args, below, meth, c, D, cI, cJ, A, hfix, hret, hlk, hA, rfl⟩ := hR
  intro H locs ls hw hl
  exact lv_bipush hfix.1 hfix.2.1 hdg hv (k H locs ls hw hl)
theorem r_sipush (hR : Rl wl n own cc nL ret ad J P) {i : Int} {v : Int32} (hdg : decode cc pc = .ok (.sipush i, 3)) (hv : (Int16.ofInt i).toInt32 = v) (k : J lv (.int v :: st) q (pc + 3)) : J lv (st) q pc := by
  obtain ⟨p, l, e, s, m, args, below, meth, c, D, cI, cJ, A, hfix, hret, hlk, hA, rfl⟩ := hR
  intro H locs ls hw hl
  exact lv_sipush hfix.1 hfix.2.1 hdg hv (k H locs ls hw hl)
theorem r_lconst (hR : Rl wl n own cc nL ret ad J P) {i : Fin 2} {v : Int64} (hdg : decode cc pc = .ok (.lconst i, 1)) (hv : Int64.ofNat (i : Nat) = v) (k : J lv (.long v :: st) q (pc + 1)) : J lv (st) q pc := by
  obtain ⟨p, l, e, s, m, args, below, meth, c, D, cI, cJ, A, hfix, hret, hlk, hA, rfl⟩ := hR
  intro H locs ls hw hl
  exact lv_lconst hfix.1 hfix.2.1 hdg hv (k H locs ls hw hl)
theorem r_ldcw (hR : Rl wl n own cc nL ret ad J P) {i : Nat} {v : Int32} (hdg : decode cc pc = .ok (.ldc_w i, 3)) (hm : Cond.constant own i v ∈ TT) (k : J lv (.int v :: st) q (pc + 3)) : J lv st q pc := by
  obtain ⟨p, l, e, s, m, args, below, meth, c, D, cI, cJ, A, hfix, hret, hlk, hA, rfl⟩ := hR
  intro H locs ls hw hl
  exact lv_ldcw hfix.1 hfix.2.1 hfix.2.2.2.1 (hfix.2.2.2.2 _ hm) hdg (k H locs ls hw hl)
theorem r_ldc2 (hR : Rl wl n own cc nL ret ad J P) {i : Nat} {v : Int64} (hdg : decode cc pc = .ok (.ldc2_w i, 3)) (hm : Cond.constantLong own i v ∈ TT) (k : J lv (.long v :: st) q (pc + 3)) : J lv st q pc := by
  obtain ⟨p, l, e, s, m, args, below, meth, c, D, cI, cJ, A, hfix, hret, hlk, hA, rfl⟩ := hR
  intro H locs ls hw hl
  exact lv_ldc2 hfix.1 hfix.2.1 hfix.2.2.2.1 (hfix.2.2.2.2 _ hm) hdg (k H locs ls hw hl)
theorem r_iload_n (hR : Rl wl n own cc nL ret ad J P) {kk : Fin 4} {i : Nat} {x : Int32} (hdg : decode cc pc = .ok (.iload_n kk, 1)) (hi : (kk : Nat) = i) (j : Nat) (hj : lv[j]? = some (i, .int x)) (k : J lv (.int x :: st) q (pc + 1)) : J lv st q pc := by
  obtain ⟨p, l, e, s, m, args, below, meth, c, D, cI, cJ, A, hfix, hret, hlk, hA, rfl⟩ := hR
  intro H locs ls hw hl
  exact lv_iload_n hfix.1 hfix.2.1 hdg hi (lv_at hl j hj) (k H locs ls hw hl)
theorem r_iload (hR : Rl wl n own cc nL ret ad J P) {i : Nat} {x : Int32} (hdg : decode cc pc = .ok (.iload i, 2)) (j : Nat) (hj : lv[j]? = some (i, .int x)) (k : J lv (.int x :: st) q (pc + 2)) : J lv st q pc := by
  obtain ⟨p, l, e, s, m, args, below, meth, c, D, cI, cJ, A, hfix, hret, hlk, hA, rfl⟩ := hR
  intro H locs ls hw hl
  exact lv_iload hfix.1 hfix.2.1 hdg (lv_at hl j hj) (k H locs ls hw hl)
theorem r_lload_n (hR : Rl wl n own cc nL ret ad J P) {kk : Fin 4} {i : Nat} {x : Int64} (hdg : decode cc pc = .ok (.lload_n kk, 1)) (hi : (kk : Nat) = i) (j : Nat) (hj : lv[j]? = some (i, .long x)) (k : J lv (.long x :: st) q (pc + 1)) : J lv st q pc := by
  obtain ⟨p, l, e, s, m, args, below, meth, c, D, cI, cJ, A, hfix, hret, hlk, hA, rfl⟩ := hR
  intro H locs ls hw hl
  exact lv_lload_n hfix.1 hfix.2.1 hdg hi (lv_at hl j hj) (k H locs ls hw hl)
theorem r_lload (hR : Rl wl n own cc nL ret ad J P) {i : Nat} {x : Int64} (hdg : decode cc pc = .ok (.lload i, 2)) (j : Nat) (hj : lv[j]? = some (i, .long x)) (k : J lv (.long x :: st) q (pc + 2)) : J lv st q pc := by
  obtain ⟨p, l, e, s, m, args, below, meth, c, D, cI, cJ, A, hfix, hret, hlk, hA, rfl⟩ := hR
  intro H locs ls hw hl
  exact lv_lload hfix.1 hfix.2.1 hdg (lv_at hl j hj) (k H locs ls hw hl)
theorem r_aload_n (hR : Rl wl n own cc nL ret ad J P) {kk : Fin 4} {i : Nat} {x : Nat} (hdg : decode cc pc = .ok (.aload_n kk, 1)) (hi : (kk : Nat) = i) (j : Nat) (hj : lv[j]? = some (i, .ref x)) (k : J lv (.ref x :: st) q (pc + 1)) : J lv st q pc := by
  obtain ⟨p, l, e, s, m, args, below, meth, c, D, cI, cJ, A, hfix, hret, hlk, hA, rfl⟩ := hR
  intro H locs ls hw hl
  exact lv_aload_n hfix.1 hfix.2.1 hdg hi (lv_at hl j hj) (k H locs ls hw hl)
theorem r_aload (hR : Rl wl n own cc nL ret ad J P) {i : Nat} {x : Nat} (hdg : decode cc pc = .ok (.aload i, 2)) (j : Nat) (hj : lv[j]? = some (i, .ref x)) (k : J lv (.ref x :: st) q (pc + 2)) : J lv st q pc := by
  obtain ⟨p, l, e, s, m, args, below, meth, c, D, cI, cJ, A, hfix, hret, hlk, hA, rfl⟩ := hR
  intro H locs ls hw hl
  exact lv_aload hfix.1 hfix.2.1 hdg (lv_at hl j hj) (k H locs ls hw hl)
theorem r_istore_n (hR : Rl wl n own cc nL ret ad J P) {kk : Fin 4} {i : Nat} {x x0 : Int32} (hdg : decode cc pc = .ok (.istore_n kk, 1)) (hx : x = x0) (hi : (kk : Nat) = i) (hn : i < nL) (hlv : (i, Value.int x) :: lv.filter (fun q => !(q.1 == i) && !(q.1 + 1 == i && q.2.category == 2)) = lv') (k : J lv' st q (pc + 1)) : J lv (.int x0 :: st) q pc := by
  obtain ⟨p, l, e, s, m, args, below, meth, c, D, cI, cJ, A, hfix, hret, hlk, hA, rfl⟩ := hR
  intro H locs ls hw hl
  exact lv_istore_n hfix.1 hfix.2.1 hdg hi hl hn (hx ▸ hlv) (fun ls2 hl2 => k H locs ls2 hw hl2)
theorem r_istore (hR : Rl wl n own cc nL ret ad J P) {i : Nat} {x x0 : Int32} (hdg : decode cc pc = .ok (.istore i, 2)) (hx : x = x0) (hn : i < nL) (hlv : (i, Value.int x) :: lv.filter (fun q => !(q.1 == i) && !(q.1 + 1 == i && q.2.category == 2)) = lv') (k : J lv' st q (pc + 2)) : J lv (.int x0 :: st) q pc := by
  obtain ⟨p, l, e, s, m, args, below, meth, c, D, cI, cJ, A, hfix, hret, hlk, hA, rfl⟩ := hR
  intro H locs ls hw hl
  exact lv_istore hfix.1 hfix.2.1 hdg hl hn (hx ▸ hlv) (fun ls2 hl2 => k H locs ls2 hw hl2)
theorem r_lstore_n (hR : Rl wl n own cc nL ret ad J P) {kk : Fin 4} {i : Nat} {x x0 : Int64} (hdg : decode cc pc = .ok (.lstore_n kk, 1)) (hx : x = x0) (hi : (kk : Nat) = i) (hn : i + 1 < nL) (hlv : (i, Value.long x) :: lv.filter (fun q => !(q.1 == i) && (!(q.1 == i + 1) && !(q.1 + 1 == i && q.2.category == 2))) = lv') (k : J lv' st q (pc + 1)) : J lv (.long x0 :: st) q pc := by
  obtain ⟨p, l, e, s, m, args, below, meth, c, D, cI, cJ, A, hfix, hret, hlk, hA, rfl⟩ := hR
  intro H locs ls hw hl
  exact lv_lstore_n hfix.1 hfix.2.1 hdg hi hl hn (hx ▸ hlv) (fun ls2 hl2 => k H locs ls2 hw hl2)
theorem r_lstore (hR : Rl wl n own cc nL ret ad J P) {i : Nat} {x x0 : Int64} (hdg : decode cc pc = .ok (.lstore i, 2)) (hx : x = x0) (hn : i + 1 < nL) (hlv : (i, Value.long x) :: lv.filter (fun q => !(q.1 == i) && (!(q.1 == i + 1) && !(q.1 + 1 == i && q.2.category == 2))) = lv') (k : J lv' st q (pc + 2)) : J lv (.long x0 :: st) q pc := by
  obtain ⟨p, l, e, s, m, args, below, meth, c, D, cI, cJ, A, hfix, hret, hlk, hA, rfl⟩ := hR
  intro H locs ls hw hl
  exact lv_lstore hfix.1 hfix.2.1 hdg hl hn (hx ▸ hlv) (fun ls2 hl2 => k H locs ls2 hw hl2)
theorem r_astore_n (hR : Rl wl n own cc nL ret ad J P) {kk : Fin 4} {i : Nat} {x x0 : Nat} (hdg : decode cc pc = .ok (.astore_n kk, 1)) (hx : x = x0) (hi : (kk : Nat) = i) (hn : i < nL) (hlv : (i, Value.ref x) :: lv.filter (fun q => !(q.1 == i) && !(q.1 + 1 == i && q.2.category == 2)) = lv') (k : J lv' st q (pc + 1)) : J lv (.ref x0 :: st) q pc := by
  obtain ⟨p, l, e, s, m, args, below, meth, c, D, cI, cJ, A, hfix, hret, hlk, hA, rfl⟩ := hR
  intro H locs ls hw hl
  exact lv_astore_n hfix.1 hfix.2.1 hdg hi hl hn (hx ▸ hlv) (fun ls2 hl2 => k H locs ls2 hw hl2)
theorem r_astore (hR : Rl wl n own cc nL ret ad J P) {i : Nat} {x x0 : Nat} (hdg : decode cc pc = .ok (.astore i, 2)) (hx : x = x0) (hn : i < nL) (hlv : (i, Value.ref x) :: lv.filter (fun q => !(q.1 == i) && !(q.1 + 1 == i && q.2.category == 2)) = lv') (k : J lv' st q (pc + 2)) : J lv (.ref x0 :: st) q pc := by
  obtain ⟨p, l, e, s, m, args, below, meth, c, D, cI, cJ, A, hfix, hret, hlk, hA, rfl⟩ := hR
  intro H locs ls hw hl
  exact lv_astore hfix.1 hfix.2.1 hdg hl hn (hx ▸ hlv) (fun ls2 hl2 => k H locs ls2 hw hl2)
theorem r_iinc (hR : Rl wl n own cc nL ret ad J P) {i : Nat} {d : Int} {x v : Int32} (hdg : decode cc pc = .ok (.iinc i d, 3)) (j : Nat) (hj : lv[j]? = some (i, .int x)) (hv : x + Int32.ofInt d = v) (hn : i < nL) (hlv : (i, Value.int v) :: lv.filter (fun q => !(q.1 == i) && !(q.1 + 1 == i && q.2.category == 2)) = lv') (k : J lv' st q (pc + 3)) : J lv st q pc := by
  obtain ⟨p, l, e, s, m, args, below, meth, c, D, cI, cJ, A, hfix, hret, hlk, hA, rfl⟩ := hR
  intro H locs ls hw hl
  exact lv_iinc hfix.1 hfix.2.1 hdg hl hj hv hn hlv (fun ls2 hl2 => k H locs ls2 hw hl2)
theorem r_if_eq (hR : Rl wl n own cc nL ret ad J P) {x : Int32} {off : Int} {tgt : Nat} (hdg : decode cc pc = .ok (.ifCond .eq off, 3)) (ht : (pc : Int) + off = (tgt : Int)) (kt : x = 0 → J lv st q tgt) (kf : ¬ x = 0 → J lv st q (pc + 3)) : J lv (.int x :: st) q pc := by
  obtain ⟨p, l, e, s, m, args, below, meth, c, D, cI, cJ, A, hfix, hret, hlk, hA, rfl⟩ := hR
  intro H locs ls hw hl
  exact lv_if_eq hfix.1 hfix.2.1 hdg ht (fun c => kt c H locs ls hw hl) (fun c => kf c H locs ls hw hl)
theorem r_icmp_eq (hR : Rl wl n own cc nL ret ad J P) {x y : Int32} {off : Int} {tgt : Nat} (hdg : decode cc pc = .ok (.if_icmp .eq off, 3)) (ht : (pc : Int) + off = (tgt : Int)) (kt : x = y → J lv st q tgt) (kf : ¬ x = y → J lv st q (pc + 3)) : J lv (.int y :: .int x :: st) q pc := by
  obtain ⟨p, l, e, s, m, args, below, meth, c, D, cI, cJ, A, hfix, hret, hlk, hA, rfl⟩ := hR
  intro H locs ls hw hl
  exact lv_icmp_eq hfix.1 hfix.2.1 hdg ht (fun c => kt c H locs ls hw hl) (fun c => kf c H locs ls hw hl)
theorem r_if_ne (hR : Rl wl n own cc nL ret ad J P) {x : Int32} {off : Int} {tgt : Nat} (hdg : decode cc pc = .ok (.ifCond .ne off, 3)) (ht : (pc : Int) + off = (tgt : Int)) (kt : ¬ x = 0 → J lv st q tgt) (kf : x = 0 → J lv st q (pc + 3)) : J lv (.int x :: st) q pc := by
  obtain ⟨p, l, e, s, m, args, below, meth, c, D, cI, cJ, A, hfix, hret, hlk, hA, rfl⟩ := hR
  intro H locs ls hw hl
  exact lv_if_ne hfix.1 hfix.2.1 hdg ht (fun c => kt c H locs ls hw hl) (fun c => kf c H locs ls hw hl)
theorem r_icmp_ne (hR : Rl wl n own cc nL ret ad J P) {x y : Int32} {off : Int} {tgt : Nat} (hdg : decode cc pc = .ok (.if_icmp .ne off, 3)) (ht : (pc : Int) + off = (tgt : Int)) (kt : ¬ x = y → J lv st q tgt) (kf : x = y → J lv st q (pc + 3)) : J lv (.int y :: .int x :: st) q pc := by
  obtain ⟨p, l, e, s, m, args, below, meth, c, D, cI, cJ, A, hfix, hret, hlk, hA, rfl⟩ := hR
  intro H locs ls hw hl
  exact lv_icmp_ne hfix.1 hfix.2.1 hdg ht (fun c => kt c H locs ls hw hl) (fun c => kf c H locs ls hw hl)
theorem r_if_lt (hR : Rl wl n own cc nL ret ad J P) {x : Int32} {off : Int} {tgt : Nat} (hdg : decode cc pc = .ok (.ifCond .lt off, 3)) (ht : (pc : Int) + off = (tgt : Int)) (kt : x < 0 → J lv st q tgt) (kf : ¬ x < 0 → J lv st q (pc + 3)) : J lv (.int x :: st) q pc := by
  obtain ⟨p, l, e, s, m, args, below, meth, c, D, cI, cJ, A, hfix, hret, hlk, hA, rfl⟩ := hR
  intro H locs ls hw hl
  exact lv_if_lt hfix.1 hfix.2.1 hdg ht (fun c => kt c H locs ls hw hl) (fun c => kf c H locs ls hw hl)
theorem r_icmp_lt (hR : Rl wl n own cc nL ret ad J P) {x y : Int32} {off : Int} {tgt : Nat} (hdg : decode cc pc = .ok (.if_icmp .lt off, 3)) (ht : (pc : Int) + off = (tgt : Int)) (kt : x < y → J lv st q tgt) (kf : ¬ x < y → J lv st q (pc + 3)) : J lv (.int y :: .int x :: st) q pc := by
  obtain ⟨p, l, e, s, m, args, below, meth, c, D, cI, cJ, A, hfix, hret, hlk, hA, rfl⟩ := hR
  intro H locs ls hw hl
  exact lv_icmp_lt hfix.1 hfix.2.1 hdg ht (fun c => kt c H locs ls hw hl) (fun c => kf c H locs ls hw hl)
theorem r_if_ge (hR : Rl wl n own cc nL ret ad J P) {x : Int32} {off : Int} {tgt : Nat} (hdg : decode cc pc = .ok (.ifCond .ge off, 3)) (ht : (pc : Int) + off = (tgt : Int)) (kt : 0 ≤ x → J lv st q tgt) (kf : ¬ 0 ≤ x → J lv st q (pc + 3)) : J lv (.int x :: st) q pc := by
  obtain ⟨p, l, e, s, m, args, below, meth, c, D, cI, cJ, A, hfix, hret, hlk, hA, rfl⟩ := hR
  intro H locs ls hw hl
  exact lv_if_ge hfix.1 hfix.2.1 hdg ht (fun c => kt c H locs ls hw hl) (fun c => kf c H locs ls hw hl)
theorem r_icmp_ge (hR : Rl wl n own cc nL ret ad J P) {x y : Int32} {off : Int} {tgt : Nat} (hdg : decode cc pc = .ok (.if_icmp .ge off, 3)) (ht : (pc : Int) + off = (tgt : Int)) (kt : y ≤ x → J lv st q tgt) (kf : ¬ y ≤ x → J lv st q (pc + 3)) : J lv (.int y :: .int x :: st) q pc := by
  obtain ⟨p, l, e, s, m, args, below, meth, c, D, cI, cJ, A, hfix, hret, hlk, hA, rfl⟩ := hR
  intro H locs ls hw hl
  exact lv_icmp_ge hfix.1 hfix.2.1 hdg ht (fun c => kt c H locs ls hw hl) (fun c => kf c H locs ls hw hl)
theorem r_if_gt (hR : Rl wl n own cc nL ret ad J P) {x : Int32} {off : Int} {tgt : Nat} (hdg : decode cc pc = .ok (.ifCond .gt off, 3)) (ht : (pc : Int) + off = (tgt : Int)) (kt : 0 < x → J lv st q tgt) (kf : ¬ 0 < x → J lv st q (pc + 3)) : J lv (.int x :: st) q pc := by
  obtain ⟨p, l, e, s, m, args, below, meth, c, D, cI, cJ, A, hfix, hret, hlk, hA, rfl⟩ := hR
  intro H locs ls hw hl
  exact lv_if_gt hfix.1 hfix.2.1 hdg ht (fun c => kt c H locs ls hw hl) (fun c => kf c H locs ls hw hl)
theorem r_icmp_gt (hR : Rl wl n own cc nL ret ad J P) {x y : Int32} {off : Int} {tgt : Nat} (hdg : decode cc pc = .ok (.if_icmp .gt off, 3)) (ht : (pc : Int) + off = (tgt : Int)) (kt : y < x → J lv st q tgt) (kf : ¬ y < x → J lv st q (pc + 3)) : J lv (.int y :: .int x :: st) q pc := by
  obtain ⟨p, l, e, s, m, args, below, meth, c, D, cI, cJ, A, hfix, hret, hlk, hA, rfl⟩ := hR
  intro H locs ls hw hl
  exact lv_icmp_gt hfix.1 hfix.2.1 hdg ht (fun c => kt c H locs ls hw hl) (fun c => kf c H locs ls hw hl)
theorem r_if_le (hR : Rl wl n own cc nL ret ad J P) {x : Int32} {off : Int} {tgt : Nat} (hdg : decode cc pc = .ok (.ifCond .le off, 3)) (ht : (pc : Int) + off = (tgt : Int)) (kt : x ≤ 0 → J lv st q tgt) (kf : ¬ x ≤ 0 → J lv st q (pc + 3)) : J lv (.int x :: st) q pc := by
  obtain ⟨p, l, e, s, m, args, below, meth, c, D, cI, cJ, A, hfix, hret, hlk, hA, rfl⟩ := hR
  intro H locs ls hw hl
  exact lv_if_le hfix.1 hfix.2.1 hdg ht (fun c => kt c H locs ls hw hl) (fun c => kf c H locs ls hw hl)
theorem r_icmp_le (hR : Rl wl n own cc nL ret ad J P) {x y : Int32} {off : Int} {tgt : Nat} (hdg : decode cc pc = .ok (.if_icmp .le off, 3)) (ht : (pc : Int) + off = (tgt : Int)) (kt : x ≤ y → J lv st q tgt) (kf : ¬ x ≤ y → J lv st q (pc + 3)) : J lv (.int y :: .int x :: st) q pc := by
  obtain ⟨p, l, e, s, m, args, below, meth, c, D, cI, cJ, A, hfix, hret, hlk, hA, rfl⟩ := hR
  intro H locs ls hw hl
  exact lv_icmp_le hfix.1 hfix.2.1 hdg ht (fun c => kt c H locs ls hw hl) (fun c => kf c H locs ls hw hl)
theorem r_goto (hR : Rl wl n own cc nL ret ad J P) {off : Int} {tgt : Nat} (hdg : decode cc pc = .ok (.goto off, 3)) (ht : (pc : Int) + off = (tgt : Int)) (k : J lv st q tgt) : J lv st q pc := by
  obtain ⟨p, l, e, s, m, args, below, meth, c, D, cI, cJ, A, hfix, hret, hlk, hA, rfl⟩ := hR
  intro H locs ls hw hl
  exact lv_goto hfix.1 hfix.2.1 hdg ht (k H locs ls hw hl)
theorem r_tableOut (hR : Rl wl n own cc nL ret ad J P) {dflt lo hi : Int} {offs : Array Int} {len : Nat} {x : Int32} {tgt : Nat} (hdg : decode cc pc = .ok (.tableswitch dflt lo hi offs, len)) (h : x.toInt < lo ∨ hi < x.toInt) (ht : (pc : Int) + dflt = (tgt : Int)) (k : J lv st q tgt) : J lv (.int x :: st) q pc := by
  obtain ⟨p, l, e, s, m, args, below, meth, c, D, cI, cJ, A, hfix, hret, hlk, hA, rfl⟩ := hR
  intro H locs ls hw hl
  exact lv_tableOut hfix.1 hfix.2.1 hdg h ht (k H locs ls hw hl)
theorem r_tableIn (hR : Rl wl n own cc nL ret ad J P) {dflt lo hi : Int} {offs : Array Int} {len : Nat} {x : Int32} {off : Int} {tgt : Nat} (hdg : decode cc pc = .ok (.tableswitch dflt lo hi offs, len)) (h1 : ¬ x.toInt < lo) (h2 : ¬ hi < x.toInt) (ho : offs[(x.toInt - lo).toNat]? = some off) (ht : (pc : Int) + off = (tgt : Int)) (k : J lv st q tgt) : J lv (.int x :: st) q pc := by
  obtain ⟨p, l, e, s, m, args, below, meth, c, D, cI, cJ, A, hfix, hret, hlk, hA, rfl⟩ := hR
  intro H locs ls hw hl
  exact lv_tableIn hfix.1 hfix.2.1 hdg h1 h2 ho ht (k H locs ls hw hl)
theorem r_lookup (hR : Rl wl n own cc nL ret ad J P) {dflt : Int} {ps : Array (Int × Int)} {len : Nat} {x : Int32} {off : Int} {tgt : Nat} (hdg : decode cc pc = .ok (.lookupswitch dflt ps, len)) (hp : (ps.toList.zip (ps.toList.drop 1)).all (fun (a, next) => a.1 < next.1) = true) (ho : Op.lookupswitch.offset ps.toList dflt x.toInt = off) (ht : (pc : Int) + off = (tgt : Int)) (k : J lv st q tgt) : J lv (.int x :: st) q pc := by
  obtain ⟨p, l, e, s, m, args, below, meth, c, D, cI, cJ, A, hfix, hret, hlk, hA, rfl⟩ := hR
  intro H locs ls hw hl
  exact lv_lookup hfix.1 hfix.2.1 hdg hp ho ht (k H locs ls hw hl)
theorem r_sub (hR : Rl wl n own cc nL ret ad J P) (ks : List Nat) (hlv : lv_pick lv ks = lv') (k : J lv' st q pc) : J lv st q pc := by
  obtain ⟨p, l, e, s, m, args, below, meth, c, D, cI, cJ, A, hfix, hret, hlk, hA, rfl⟩ := hR
  intro H locs ls hw hl
  exact k H locs ls hw (lv_sub hl ks hlv)
theorem r_iret (hR : Rl wl n own cc nL ret ad J P) {v : Int32} (hdg : decode cc pc = .ok (.ireturn, 1)) (hrt : ret = some .int) (hP : P (some (.int v)) q)  : J lv [.int v] q pc := by
  obtain ⟨p, l, e, s, m, args, below, meth, c, D, cI, cJ, A, hfix, hret, hlk, hA, rfl⟩ := hR
  intro H locs ls hw hl
  exact W.iret hfix.1 hfix.2.1 (hret.trans hrt) (fun t ht hW => ⟨⟨_, q, rfl, hP, by rw [ht]; exact hw.2.1, va_K.moved hW.alike hw.1, hw.2.2.1⟩, hw.2.2.2.F ht⟩) hw.2.2.2.2.2 hdg hlk
theorem r_zret (hR : Rl wl n own cc nL ret ad J P) {v : Int32} (hdg : decode cc pc = .ok (.ireturn, 1)) (hrt : ret = some .boolean) (hz : v = 0 ∨ v = 1) (hP : P (some (.int v)) q)  : J lv [.int v] q pc := by
  obtain ⟨p, l, e, s, m, args, below, meth, c, D, cI, cJ, A, hfix, hret, hlk, hA, rfl⟩ := hR
  intro H locs ls hw hl
  exact W.zret hfix.1 hfix.2.1 (hret.trans hrt) (by rcases hz with rfl | rfl <;> rfl) (fun t ht hW => ⟨⟨_, q, rfl, hP, by rw [ht]; exact hw.2.1, va_K.moved hW.alike hw.1, hw.2.2.1⟩, hw.2.2.2.F ht⟩) hw.2.2.2.2.2 hdg hlk
theorem r_lret (hR : Rl wl n own cc nL ret ad J P) {v : Int64} (hdg : decode cc pc = .ok (.lreturn, 1)) (hrt : ret = some .long) (hP : P (some (.long v)) q)  : J lv [.long v] q pc := by
  obtain ⟨p, l, e, s, m, args, below, meth, c, D, cI, cJ, A, hfix, hret, hlk, hA, rfl⟩ := hR
  intro H locs ls hw hl
  exact W.lret hfix.1 hfix.2.1 (hret.trans hrt) (fun t ht hW => ⟨⟨_, q, rfl, hP, by rw [ht]; exact hw.2.1, va_K.moved hW.alike hw.1, hw.2.2.1⟩, hw.2.2.2.F ht⟩) hw.2.2.2.2.2 hdg hlk
theorem r_vret (hR : Rl wl n own cc nL ret ad J P)  (hdg : decode cc pc = .ok (.return_, 1)) (hrt : ret = none) (hP : P none q)  : J lv [] q pc := by
  obtain ⟨p, l, e, s, m, args, below, meth, c, D, cI, cJ, A, hfix, hret, hlk, hA, rfl⟩ := hR
  intro H locs ls hw hl
  exact W.vret hfix.1 hfix.2.1 (hret.trans hrt) (fun t ht hW => ⟨⟨_, q, rfl, hP, by rw [ht]; exact hw.2.1, va_K.moved hW.alike hw.1, hw.2.2.1⟩, hw.2.2.2.F ht⟩) hw.2.2.2.2.2 hdg hlk
theorem r_aret (hR : Rl wl n own cc nL ret ad J P) {a : Nat} {ty : FieldType} (hdg : decode cc pc = .ok (.areturn, 1)) (hrt : ret = some (.array ty)) (hP : P (some (.ref a)) q)  : J lv [.ref a] q pc := by
  obtain ⟨p, l, e, s, m, args, below, meth, c, D, cI, cJ, A, hfix, hret, hlk, hA, rfl⟩ := hR
  intro H locs ls hw hl
  exact W.aret hfix.1 hfix.2.1 (hret.trans hrt) (Or.inr ⟨ty, rfl⟩) (Or.inr ⟨a, rfl⟩) (fun t ht hW => ⟨⟨_, q, rfl, hP, by rw [ht]; exact hw.2.1, va_K.moved hW.alike hw.1, hw.2.2.1⟩, hw.2.2.2.F ht⟩) hw.2.2.2.2.2 hdg hlk
theorem r_get (hR : Rl wl n own cc nL ret ad J P) {q0 ci idx a : Nat} {fs : List Value} {C : String} {T : u_T} {N : Nat} {v : Value} (hdg : decode cc pc = .ok (.getfield idx, 3)) (he : ∀ cI cJ, (wl ad cI cJ q)[q0]? = some (a, .inr (ci, fs))) (hc : vwCl[ci]? = some (C, T, N)) (hin : ∀ w ∈ u_ws C T N, w ∈ TT) (j : Nat) (hj : j < N) (hlink : Cond.fieldLink own idx (T j).1 (T j).2.1 (T j).2.2.1 ∈ TT) (hv : fs[j]? = some v) (k : J lv (v :: st) q (pc + 3)) : J lv (.ref a :: st) q pc := by
  obtain ⟨p, l, e, s, m, args, below, meth, c, D, cI, cJ, A, hfix, hret, hlk, hA, rfl⟩ := hR
  intro H locs ls hw hl
  exact va_get hfix.1 hfix.2.1 hfix.2.2.2.2 hin hfix.2.2.2.1 hw.1 hw.2.1 q0 (he cI cJ) hc j hj (hfix.2.2.2.2 _ hlink) (fun _ h9 => h9) hv hdg (k H locs ls hw hl)
theorem r_put (hR : Rl wl n own cc nL ret ad J P) {q0 ci idx a : Nat} {fs : List Value} {C : String} {T : u_T} {N : Nat} {v : Value} {ty : FieldType} (hdg : decode cc pc = .ok (.putfield idx, 3)) (he : ∀ cI cJ, (wl ad cI cJ q)[q0]? = some (a, .inr (ci, fs))) (hc : vwCl[ci]? = some (C, T, N)) (hin : ∀ w ∈ u_ws C T N, w ∈ TT) (ty0 : Nat → FieldType) (hty : ∀ k, k < N → parseFieldDescriptor (T k).2.2.1 = some (ty0 k)) (hnm : ∀ a, a < N → ∀ b, b < N → a ≠ b → (T a).2.1 ≠ (T b).2.1) (j : Nat) (hj : j < N) (hlink : Cond.fieldLink own idx (T j).1 (T j).2.1 (T j).2.2.1 ∈ TT) (hfin : (T j).2.2.2 = false) (hd : parseFieldDescriptor (T j).2.2.1 = some ty) (hn : narrow ty v = v) (hfit : fits ty v = true) (hfl : j < fs.length) (hset : ∀ cI cJ, (wl ad cI cJ q).set q0 (a, .inr (ci, fs.set j v)) = wl ad cI cJ q1) (k : J lv st q1 (pc + 3)) : J lv (v :: .ref a :: st) q pc := by
  obtain ⟨p, l, e, s, m, args, below, meth, c, D, cI, cJ, A, hfix, hret, hlk, hA, rfl⟩ := hR
  intro H locs ls hw hl
  exact va_put hfix.1 hfix.2.1 hfix.2.2.2.2 hin ty0 hty hnm hfix.2.2.2.1 hw.1 hw.2.1 hw.2.2.1 hw.2.2.2 q0 (he cI cJ) hc j hj (hfix.2.2.2.2 _ hlink) (fun _ h9 => h9) hfin hd hn hfit hfl hdg (fun H1 locs1 a1 a2 a3 => k H1 locs1 ls ⟨hw.1, hset cI cJ ▸ a1, hset cI cJ ▸ a2, a3⟩ hl)
theorem r_iald (hR : Rl wl n own cc nL ret ad J P) {q0 a len : Nat} {f : Nat → Int32} {i : Int32} (hdg : decode cc pc = .ok (.iaload, 1)) (he : ∀ cI cJ, (wl ad cI cJ q)[q0]? = some (a, .inl (cI, len, .inl f))) (hin : vp_in i len) (k : J lv (.int (f (ix i)) :: st) q (pc + 1)) : J lv (.int i :: .ref a :: st) q pc := by
  obtain ⟨p, l, e, s, m, args, below, meth, c, D, cI, cJ, A, hfix, hret, hlk, hA, rfl⟩ := hR
  intro H locs ls hw hl
  exact va_iald hfix.1 hfix.2.1 hw.1 hw.2.1 q0 0 (he cI cJ) rfl hin hdg (k H locs ls hw hl)
theorem r_lald (hR : Rl wl n own cc nL ret ad J P) {q0 a len : Nat} {f : Nat → Int64} {i : Int32} (hdg : decode cc pc = .ok (.laload, 1)) (he : ∀ cI cJ, (wl ad cI cJ q)[q0]? = some (a, .inl (cJ, len, .inr (.inl f)))) (hin : vp_in i len) (k : J lv (.long (f (ix i)) :: st) q (pc + 1)) : J lv (.int i :: .ref a :: st) q pc := by
  obtain ⟨p, l, e, s, m, args, below, meth, c, D, cI, cJ, A, hfix, hret, hlk, hA, rfl⟩ := hR
  intro H locs ls hw hl
  exact va_lald hfix.1 hfix.2.1 hw.1 hw.2.1 q0 1 (he cI cJ) rfl hin hdg (k H locs ls hw hl)
theorem r_iast (hR : Rl wl n own cc nL ret ad J P) {q0 a len : Nat} {f : Nat → Int32} {i x : Int32} (hdg : decode cc pc = .ok (.iastore, 1)) (he : ∀ cI cJ, (wl ad cI cJ q)[q0]? = some (a, .inl (cI, len, .inl f))) (hset : ∀ cI cJ, (wl ad cI cJ q).set q0 (a, .inl (cI, len, .inl (upd f (ix i) x))) = wl ad cI cJ q1) (hin : vp_in i len) (k : J lv st q1 (pc + 1)) : J lv (.int x :: .int i :: .ref a :: st) q pc := by
  obtain ⟨p, l, e, s, m, args, below, meth, c, D, cI, cJ, A, hfix, hret, hlk, hA, rfl⟩ := hR
  intro H locs ls hw hl
  exact va_iast hfix.1 hfix.2.1 hw.1 hw.2.1 hw.2.2.1 hw.2.2.2 q0 0 (he cI cJ) rfl hin hdg (fun H1 locs1 a1 a2 a3 => k H1 locs1 ls ⟨hw.1, hset cI cJ ▸ a1, hset cI cJ ▸ a2, a3⟩ hl)
theorem r_last (hR : Rl wl n own cc nL ret ad J P) {q0 a len : Nat} {f : Nat → Int64} {i : Int32} {x : Int64} (hdg : decode cc pc = .ok (.lastore, 1)) (he : ∀ cI cJ, (wl ad cI cJ q)[q0]? = some (a, .inl (cJ, len, .inr (.inl f)))) (hset : ∀ cI cJ, (wl ad cI cJ q).set q0 (a, .inl (cJ, len, .inr (.inl (vp_updL f (ix i) x)))) = wl ad cI cJ q1) (hin : vp_in i len) (k : J lv st q1 (pc + 1)) : J lv (.long x :: .int i :: .ref a :: st) q pc := by
  obtain ⟨p, l, e, s, m, args, below, meth, c, D, cI, cJ, A, hfix, hret, hlk, hA, rfl⟩ := hR
  intro H locs ls hw hl
  exact va_last hfix.1 hfix.2.1 hw.1 hw.2.1 hw.2.2.1 hw.2.2.2 q0 1 (he cI cJ) rfl hin hdg (fun H1 locs1 a1 a2 a3 => k H1 locs1 ls ⟨hw.1, hset cI cJ ▸ a1, hset cI cJ ▸ a2, a3⟩ hl)
theorem r_alen (hR : Rl wl n own cc nL ret ad J P) {q0 a : Nat} {x : ClassId → ClassId → ClassId × vp_A} {v : Int32} (hdg : decode cc pc = .ok (.arraylength, 1)) (he : ∀ cI cJ, (wl ad cI cJ q)[q0]? = some (a, .inl (x cI cJ))) (t0 : Nat) {ty : FieldType} (ht : ∀ cI cJ, (tyA cI cJ)[t0]? = some ((x cI cJ).1, ty)) (hv : ∀ cI cJ, Int32.ofNat (x cI cJ).2.1 = v) (k : J lv (.int v :: st) q (pc + 1)) : J lv (.ref a :: st) q pc := by
  obtain ⟨p, l, e, s, m, args, below, meth, c, D, cI, cJ, A, hfix, hret, hlk, hA, rfl⟩ := hR
  intro H locs ls hw hl
  exact va_alen hfix.1 hfix.2.1 hw.1 hw.2.1 q0 t0 (he cI cJ) (ht cI cJ) (hv cI cJ) hdg (k H locs ls hw hl)
theorem r_callVi (hR : Rl wl n own cc nL ret ad J P) {n2 np idx maxL : Nat} {y : MethodName} {bytes : ByteArray} {rt : Option FieldType} {av : (Nat → Nat) → List Value} {r : Int32} (hC : Ct wl n2 y bytes maxL rt av q (fun ad => some (.int r)) q1) (hcf : Cf own n n2 np idx y bytes maxL rt) (hi : Cond.instanceMethod y ∈ TT ∧ Cond.selects y.cls y y ∈ TT) {a : Nat} {q0 ci : Nat} {qc : vw_C} {As stk : List Value} (hav : av ad = .ref a :: As) (hlen : As.length = np) (hq : vwCl[ci]? = some qc) (hqn : qc.1 = y.cls) (hrc : ∀ cI cJ, ∃ fs, (wl ad cI cJ q)[q0]? = some (a, .inr (ci, fs))) (hst : (st.map fun v => v.category).sum ≤ 8) (hs : stk = As.reverse ++ .ref a :: st) (hdg : decode cc pc = .ok (.invokevirtual idx, 3)) (k : J lv (.int r :: st) q1 (pc + 3)) : J lv stk q pc := r_callV hR hC hcf hi hav hlen hq hqn hrc hst hs hdg k
theorem r_callVl (hR : Rl wl n own cc nL ret ad J P) {n2 np idx maxL : Nat} {y : MethodName} {bytes : ByteArray} {rt : Option FieldType} {av : (Nat → Nat) → List Value} {r : Int64} (hC : Ct wl n2 y bytes maxL rt av q (fun ad => some (.long r)) q1) (hcf : Cf own n n2 np idx y bytes maxL rt) (hi : Cond.instanceMethod y ∈ TT ∧ Cond.selects y.cls y y ∈ TT) {a : Nat} {q0 ci : Nat} {qc : vw_C} {As stk : List Value} (hav : av ad = .ref a :: As) (hlen : As.length = np) (hq : vwCl[ci]? = some qc) (hqn : qc.1 = y.cls) (hrc : ∀ cI cJ, ∃ fs, (wl ad cI cJ q)[q0]? = some (a, .inr (ci, fs))) (hst : (st.map fun v => v.category).sum ≤ 8) (hs : stk = As.reverse ++ .ref a :: st) (hdg : decode cc pc = .ok (.invokevirtual idx, 3)) (k : J lv (.long r :: st) q1 (pc + 3)) : J lv stk q pc := r_callV hR hC hcf hi hav hlen hq hqn hrc hst hs hdg k
theorem r_callVv (hR : Rl wl n own cc nL ret ad J P) {n2 np idx maxL : Nat} {y : MethodName} {bytes : ByteArray} {rt : Option FieldType} {av : (Nat → Nat) → List Value}  (hC : Ct wl n2 y bytes maxL rt av q (fun _ => none) q1) (hcf : Cf own n n2 np idx y bytes maxL rt) (hi : Cond.instanceMethod y ∈ TT ∧ Cond.selects y.cls y y ∈ TT) {a : Nat} {q0 ci : Nat} {qc : vw_C} {As stk : List Value} (hav : av ad = .ref a :: As) (hlen : As.length = np) (hq : vwCl[ci]? = some qc) (hqn : qc.1 = y.cls) (hrc : ∀ cI cJ, ∃ fs, (wl ad cI cJ q)[q0]? = some (a, .inr (ci, fs))) (hst : (st.map fun v => v.category).sum ≤ 8) (hs : stk = As.reverse ++ .ref a :: st) (hdg : decode cc pc = .ok (.invokevirtual idx, 3)) (k : J lv (st) q1 (pc + 3)) : J lv stk q pc := r_callV hR hC hcf hi hav hlen hq hqn hrc hst hs hdg k
theorem r_callVa (hR : Rl wl n own cc nL ret ad J P) {n2 np idx maxL : Nat} {y : MethodName} {bytes : ByteArray} {rt : Option FieldType} {av : (Nat → Nat) → List Value} {r : Nat} (hC : Ct wl n2 y bytes maxL rt av q (fun ad => some (.ref (ad r))) q1) (hcf : Cf own n n2 np idx y bytes maxL rt) (hi : Cond.instanceMethod y ∈ TT ∧ Cond.selects y.cls y y ∈ TT) {a : Nat} {q0 ci : Nat} {qc : vw_C} {As stk : List Value} (hav : av ad = .ref a :: As) (hlen : As.length = np) (hq : vwCl[ci]? = some qc) (hqn : qc.1 = y.cls) (hrc : ∀ cI cJ, ∃ fs, (wl ad cI cJ q)[q0]? = some (a, .inr (ci, fs))) (hst : (st.map fun v => v.category).sum ≤ 8) (hs : stk = As.reverse ++ .ref a :: st) (hdg : decode cc pc = .ok (.invokevirtual idx, 3)) (k : J lv (.ref (ad r) :: st) q1 (pc + 3)) : J lv stk q pc := r_callV hR hC hcf hi hav hlen hq hqn hrc hst hs hdg k
theorem r_callSi (hR : Rl wl n own cc nL ret ad J P) {n2 np idx maxL : Nat} {y : MethodName} {bytes : ByteArray} {rt : Option FieldType} {av : (Nat → Nat) → List Value} {r : Int32} (hC : Ct wl n2 y bytes maxL rt av q (fun ad => some (.int r)) q1) (hcf : Cf own n n2 np idx y bytes maxL rt) (hi : Cond.static y ∈ TT)  {As stk : List Value} (hav : av ad = As) (hlen : As.length = np) (hst : (st.map fun v => v.category).sum ≤ 8) (hs : stk = As.reverse ++ st) (hdg : decode cc pc = .ok (.invokestatic idx, 3)) (k : J lv (.int r :: st) q1 (pc + 3)) : J lv stk q pc := r_callS hR hC hcf hi hav hlen hst hs hdg k
theorem r_callSl (hR : Rl wl n own cc nL ret ad J P) {n2 np idx maxL : Nat} {y : MethodName} {bytes : ByteArray} {rt : Option FieldType} {av : (Nat → Nat) → List Value} {r : Int64} (hC : Ct wl n2 y bytes maxL rt av q (fun ad => some (.long r)) q1) (hcf : Cf own n n2 np idx y bytes maxL rt) (hi : Cond.static y ∈ TT)  {As stk : List Value} (hav : av ad = As) (hlen : As.length = np) (hst : (st.map fun v => v.category).sum ≤ 8) (hs : stk = As.reverse ++ st) (hdg : decode cc pc = .ok (.invokestatic idx, 3)) (k : J lv (.long r :: st) q1 (pc + 3)) : J lv stk q pc := r_callS hR hC hcf hi hav hlen hst hs hdg k
theorem r_callSv (hR : Rl wl n own cc nL ret ad J P) {n2 np idx maxL : Nat} {y : MethodName} {bytes : ByteArray} {rt : Option FieldType} {av : (Nat → Nat) → List Value}  (hC : Ct wl n2 y bytes maxL rt av q (fun _ => none) q1) (hcf : Cf own n n2 np idx y bytes maxL rt) (hi : Cond.static y ∈ TT)  {As stk : List Value} (hav : av ad = As) (hlen : As.length = np) (hst : (st.map fun v => v.category).sum ≤ 8) (hs : stk = As.reverse ++ st) (hdg : decode cc pc = .ok (.invokestatic idx, 3)) (k : J lv (st) q1 (pc + 3)) : J lv stk q pc := r_callS hR hC hcf hi hav hlen hst hs hdg k
theorem r_callSa (hR : Rl wl n own cc nL ret ad J P) {n2 np idx maxL : Nat} {y : MethodName} {bytes : ByteArray} {rt : Option FieldType} {av : (Nat → Nat) → List Value} {r : Nat} (hC : Ct wl n2 y bytes maxL rt av q (fun ad => some (.ref (ad r))) q1) (hcf : Cf own n n2 np idx y bytes maxL rt) (hi : Cond.static y ∈ TT)  {As stk : List Value} (hav : av ad = As) (hlen : As.length = np) (hst : (st.map fun v => v.category).sum ≤ 8) (hs : stk = As.reverse ++ st) (hdg : decode cc pc = .ok (.invokestatic idx, 3)) (k : J lv (.ref (ad r) :: st) q1 (pc + 3)) : J lv stk q pc := r_callS hR hC hcf hi hav hlen hst hs hdg k
end LayerRows
end
section
def wC : WL := fun ad cI cJ q => [(ad 0, .inr (6, [.ref (ad 1), .ref (ad 2), .ref (ad 3), .ref (ad 4), .ref (ad 5), .ref (ad 6), .int (fi q 0)])), (ad 1, .inr (5, [.ref (ad 7), .ref (ad 8), .ref (ad 9), .ref (ad 10), .ref (ad 11), .int (fi q 1), .int (fi q 2), .int (fi q 3)])), (ad 2, .inr (3, [.ref (ad 1), .ref (ad 12), .ref (ad 13), .ref (ad 14), .ref (ad 15)])), (ad 3, .inr (4, [.ref (ad 16), .int (fi q 4), .int (fi q 5), .int (fi q 6), .int (fi q 7), .int (fi q 8), .int (fi q 9)])), (ad 4, .inr (2, [.ref (ad 1), .ref (ad 2), .ref (ad 17), .ref (ad 18), .ref (ad 19), .ref (ad 20), .ref (ad 21), .int (fi q 10), .int (fi q 11), .int (fi q 12), .int (fi q 13)])), (ad 5, .inr (0, [.ref (ad 1), .ref (ad 2), .ref (ad 22), .ref (ad 23), .ref (ad 24), .ref (ad 25), .ref (ad 26), .int (fi q 14)])), (ad 6, .inr (1, [.ref (ad 1), .ref (ad 27), .ref (ad 28), .ref (ad 29), .int (fi q 15), .int (fi q 16)])), (ad 7, .inl (cI, 6, .inl (ar q 7))), (ad 8, .inl (cI, 6, .inl (ar q 8))), (ad 9, .inl (cI, 6, .inl (ar q 9))), (ad 10, .inl (cI, 48, .inl (ar q 10))), (ad 11, .inl (cI, 8, .inl (ar q 11))), (ad 12, .inl (cI, 6, .inl (ar q 12))), (ad 13, .inl (cI, 48, .inl (ar q 13))), (ad 14, .inl (cI, 6, .inl (ar q 14))), (ad 15, .inl (cI, 6, .inl (ar q 15))), (ad 16, .inl (cI, 40, .inl (ar q 16))), (ad 17, .inl (cI, 6, .inl (ar q 17))), (ad 18, .inl (cI, 6, .inl (ar q 18))), (ad 19, .inl (cI, 6, .inl (ar q 19))), (ad 20, .inl (cI, 6, .inl (ar q 20))), (ad 21, .inl (cI, 6, .inl (ar q 21))), (ad 22, .inl (cI, 576, .inl (ar q 22))), (ad 23, .inl (cJ, 576, .inr (.inl (lo q)))), (ad 24, .inl (cI, 64, .inl (ar q 24))), (ad 25, .inl (cI, 64, .inl (ar q 25))), (ad 26, .inl (cI, 21, .inl (ar q 26))), (ad 27, .inl (cI, 6, .inl (ar q 27))), (ad 28, .inl (cI, 6, .inl (ar q 28))), (ad 29, .inl (cI, 6, .inl (ar q 29)))]
def wM : WL := fun ad cI cJ q => [(ad 0, .inr (7, [.int (fi q 0), .ref (ad 1), .ref (ad 2), .ref (ad 3), .ref (ad 4), .int (fi q 1), .int (fi q 2), .ref (ad 5), .ref (ad 6), .ref (ad 7), .int (fi q 3), .ref (ad 8), .ref (ad 9), .int (fi q 4), .ref (ad 10), .ref (ad 11), .int (fi q 5), .ref (ad 12), .int (fi q 6), .int (fi q 7), .int (fi q 8), .int (fi q 9), .ref (ad 13), .ref (ad 14), .ref (ad 15), .ref (ad 16), .ref (ad 17), .int (fi q 10), .int (fi q 11), .int (fi q 12), .ref (ad 18), .ref (ad 19), .ref (ad 20), .int (fi q 13), .int (fi q 14), .ref (ad 21), .ref (ad 22), .int (fi q 15), .ref (ad 23), .ref (ad 24)])), (ad 1, .inl (cI, 6, .inl (ar q 1))), (ad 2, .inl (cI, 6, .inl (ar q 2))), (ad 3, .inl (cI, 6, .inl (ar q 3))), (ad 4, .inl (cI, 384, .inl (ar q 4))), (ad 5, .inl (cI, 3, .inl (ar q 5))), (ad 6, .inl (cI, 8, .inl (ar q 6))), (ad 7, .inl (cI, 64, .inl (ar q 7))), (ad 8, .inl (cI, 64, .inl (ar q 8))), (ad 9, .inl (cI, 6, .inl (ar q 9))), (ad 10, .inl (cI, 6, .inl (ar q 10))), (ad 11, .inl (cI, 40, .inl (ar q 11))), (ad 12, .inl (cI, 41, .inl (ar q 12))), (ad 13, .inl (cI, 64, .inl (ar q 13))), (ad 14, .inl (cI, 41, .inl (ar q 14))), (ad 15, .inl (cI, 41, .inl (ar q 15))), (ad 16, .inl (cI, 41, .inl (ar q 16))), (ad 17, .inl (cI, 41, .inl (ar q 17))), (ad 18, .inl (cI, 576, .inl (ar q 18))), (ad 19, .inl (cI, 12096, .inl (ar q 19))), (ad 20, .inl (cI, 21, .inl (ar q 20))), (ad 21, .inl (cI, 21, .inl (ar q 21))), (ad 22, .inl (cI, 6, .inl (ar q 22))), (ad 23, .inl (cI, 6, .inl (ar q 23))), (ad 24, .inl (cI, 6, .inl (ar q 24)))]
theorem fl_X8 : ∀ w ∈ u_ws RX8 TX8 7, w ∈ TT := by
  intro w hw
  obtain ⟨k, hk, rfl⟩ := List.mem_map.mp hw
  have hk := List.mem_range.mp hk
  rcases (show k = 0 ∨ k = 1 ∨ k = 2 ∨ k = 3 ∨ k = 4 ∨ k = 5 ∨ k = 6 by omega) with rfl | rfl | rfl | rfl | rfl | rfl | rfl
  · exact mw1 208 (by decide +kernel) (by decide +kernel)
  · exact mw1 210 (by decide +kernel) (by decide +kernel)
  · exact mw1 212 (by decide +kernel) (by decide +kernel)
  · exact mw1 214 (by decide +kernel) (by decide +kernel)
  · exact mw1 216 (by decide +kernel) (by decide +kernel)
  · exact mw1 218 (by decide +kernel) (by decide +kernel)
  · exact mw1 220 (by decide +kernel) (by decide +kernel)
theorem fl_X7 : ∀ w ∈ u_ws RX7 TX7 8, w ∈ TT := by
  intro w hw
  obtain ⟨k, hk, rfl⟩ := List.mem_map.mp hw
  have hk := List.mem_range.mp hk
  rcases (show k = 0 ∨ k = 1 ∨ k = 2 ∨ k = 3 ∨ k = 4 ∨ k = 5 ∨ k = 6 ∨ k = 7 by omega) with rfl | rfl | rfl | rfl | rfl | rfl | rfl | rfl
  · exact mw1 36 (by decide +kernel) (by decide +kernel)
  · exact mw1 38 (by decide +kernel) (by decide +kernel)
  · exact mw1 40 (by decide +kernel) (by decide +kernel)
  · exact mw1 42 (by decide +kernel) (by decide +kernel)
  · exact mw1 44 (by decide +kernel) (by decide +kernel)
  · exact mw1 46 (by decide +kernel) (by decide +kernel)
  · exact mw1 48 (by decide +kernel) (by decide +kernel)
  · exact mw1 50 (by decide +kernel) (by decide +kernel)
theorem fl_X3 : ∀ w ∈ u_ws RX3 TX3 5, w ∈ TT := by
  intro w hw
  obtain ⟨k, hk, rfl⟩ := List.mem_map.mp hw
  have hk := List.mem_range.mp hk
  rcases (show k = 0 ∨ k = 1 ∨ k = 2 ∨ k = 3 ∨ k = 4 by omega) with rfl | rfl | rfl | rfl | rfl
  · exact mw1 65 (by decide +kernel) (by decide +kernel)
  · exact mw1 67 (by decide +kernel) (by decide +kernel)
  · exact mw1 69 (by decide +kernel) (by decide +kernel)
  · exact mw1 71 (by decide +kernel) (by decide +kernel)
  · exact mw1 73 (by decide +kernel) (by decide +kernel)
theorem fl_X6 : ∀ w ∈ u_ws RX6 TX6 7, w ∈ TT := by
  intro w hw
  obtain ⟨k, hk, rfl⟩ := List.mem_map.mp hw
  have hk := List.mem_range.mp hk
  rcases (show k = 0 ∨ k = 1 ∨ k = 2 ∨ k = 3 ∨ k = 4 ∨ k = 5 ∨ k = 6 by omega) with rfl | rfl | rfl | rfl | rfl | rfl | rfl
  · exact mw1 89 (by decide +kernel) (by decide +kernel)
  · exact mw1 91 (by decide +kernel) (by decide +kernel)
  · exact mw1 93 (by decide +kernel) (by decide +kernel)
  · exact mw1 95 (by decide +kernel) (by decide +kernel)
  · exact mw1 97 (by decide +kernel) (by decide +kernel)
  · exact mw1 99 (by decide +kernel) (by decide +kernel)
  · exact mw1 101 (by decide +kernel) (by decide +kernel)
theorem fl_X2 : ∀ w ∈ u_ws RX2 TX2 11, w ∈ TT := by
  intro w hw
  obtain ⟨k, hk, rfl⟩ := List.mem_map.mp hw
  have hk := List.mem_range.mp hk
  rcases (show k = 0 ∨ k = 1 ∨ k = 2 ∨ k = 3 ∨ k = 4 ∨ k = 5 ∨ k = 6 ∨ k = 7 ∨ k = 8 ∨ k = 9 ∨ k = 10 by omega) with rfl | rfl | rfl | rfl | rfl | rfl | rfl | rfl | rfl | rfl | rfl
  · exact mw1 121 (by decide +kernel) (by decide +kernel)
  · exact mw1 123 (by decide +kernel) (by decide +kernel)
  · exact mw1 125 (by decide +kernel) (by decide +kernel)
  · exact mw1 127 (by decide +kernel) (by decide +kernel)
  · exact mw1 129 (by decide +kernel) (by decide +kernel)
  · exact mw1 131 (by decide +kernel) (by decide +kernel)
  · exact mw1 133 (by decide +kernel) (by decide +kernel)
  · exact mw1 135 (by decide +kernel) (by decide +kernel)
  · exact mw1 137 (by decide +kernel) (by decide +kernel)
  · exact mw1 139 (by decide +kernel) (by decide +kernel)
  · exact mw1 141 (by decide +kernel) (by decide +kernel)
theorem fl_X0 : ∀ w ∈ u_ws RX0 TX0 8, w ∈ TT := by
  intro w hw
  obtain ⟨k, hk, rfl⟩ := List.mem_map.mp hw
  have hk := List.mem_range.mp hk
  rcases (show k = 0 ∨ k = 1 ∨ k = 2 ∨ k = 3 ∨ k = 4 ∨ k = 5 ∨ k = 6 ∨ k = 7 by omega) with rfl | rfl | rfl | rfl | rfl | rfl | rfl | rfl
  · exact mw1 158 (by decide +kernel) (by decide +kernel)
  · exact mw1 160 (by decide +kernel) (by decide +kernel)
  · exact mw1 162 (by decide +kernel) (by decide +kernel)
  · exact mw1 164 (by decide +kernel) (by decide +kernel)
  · exact mw1 166 (by decide +kernel) (by decide +kernel)
  · exact mw1 168 (by decide +kernel) (by decide +kernel)
  · exact mw1 170 (by decide +kernel) (by decide +kernel)
  · exact mw1 172 (by decide +kernel) (by decide +kernel)
theorem fl_X1 : ∀ w ∈ u_ws RX1 TX1 6, w ∈ TT := by
  intro w hw
  obtain ⟨k, hk, rfl⟩ := List.mem_map.mp hw
  have hk := List.mem_range.mp hk
  rcases (show k = 0 ∨ k = 1 ∨ k = 2 ∨ k = 3 ∨ k = 4 ∨ k = 5 by omega) with rfl | rfl | rfl | rfl | rfl | rfl
  · exact mw1 188 (by decide +kernel) (by decide +kernel)
  · exact mw1 190 (by decide +kernel) (by decide +kernel)
  · exact mw1 192 (by decide +kernel) (by decide +kernel)
  · exact mw1 194 (by decide +kernel) (by decide +kernel)
  · exact mw1 196 (by decide +kernel) (by decide +kernel)
  · exact mw1 198 (by decide +kernel) (by decide +kernel)
theorem fl_X9 : ∀ w ∈ u_ws RX9 TX9 40, w ∈ TT := by
  intro w hw
  obtain ⟨k, hk, rfl⟩ := List.mem_map.mp hw
  have hk := List.mem_range.mp hk
  rcases (show k = 0 ∨ k = 1 ∨ k = 2 ∨ k = 3 ∨ k = 4 ∨ k = 5 ∨ k = 6 ∨ k = 7 ∨ k = 8 ∨ k = 9 ∨ k = 10 ∨ k = 11 ∨ k = 12 ∨ k = 13 ∨ k = 14 ∨ k = 15 ∨ k = 16 ∨ k = 17 ∨ k = 18 ∨ k = 19 ∨ k = 20 ∨ k = 21 ∨ k = 22 ∨ k = 23 ∨ k = 24 ∨ k = 25 ∨ k = 26 ∨ k = 27 ∨ k = 28 ∨ k = 29 ∨ k = 30 ∨ k = 31 ∨ k = 32 ∨ k = 33 ∨ k = 34 ∨ k = 35 ∨ k = 36 ∨ k = 37 ∨ k = 38 ∨ k = 39 by omega) with rfl | rfl | rfl | rfl | rfl | rfl | rfl | rfl | rfl | rfl | rfl | rfl | rfl | rfl | rfl | rfl | rfl | rfl | rfl | rfl | rfl | rfl | rfl | rfl | rfl | rfl | rfl | rfl | rfl | rfl | rfl | rfl | rfl | rfl | rfl | rfl | rfl | rfl | rfl | rfl
  · exact mw4 152 (by decide +kernel) (by decide +kernel)
  · exact mw4 154 (by decide +kernel) (by decide +kernel)
  · exact mw4 156 (by decide +kernel) (by decide +kernel)
  · exact mw4 158 (by decide +kernel) (by decide +kernel)
  · exact mw4 160 (by decide +kernel) (by decide +kernel)
  · exact mw4 162 (by decide +kernel) (by decide +kernel)
  · exact mw4 164 (by decide +kernel) (by decide +kernel)
  · exact mw4 166 (by decide +kernel) (by decide +kernel)
  · exact mw4 168 (by decide +kernel) (by decide +kernel)
  · exact mw4 170 (by decide +kernel) (by decide +kernel)
  · exact mw4 172 (by decide +kernel) (by decide +kernel)
  · exact mw4 174 (by decide +kernel) (by decide +kernel)
  · exact mw4 176 (by decide +kernel) (by decide +kernel)
  · exact mw4 178 (by decide +kernel) (by decide +kernel)
  · exact mw4 180 (by decide +kernel) (by decide +kernel)
  · exact mw4 182 (by decide +kernel) (by decide +kernel)
  · exact mw4 184 (by decide +kernel) (by decide +kernel)
  · exact mw4 186 (by decide +kernel) (by decide +kernel)
  · exact mw4 188 (by decide +kernel) (by decide +kernel)
  · exact mw4 190 (by decide +kernel) (by decide +kernel)
  · exact mw4 192 (by decide +kernel) (by decide +kernel)
  · exact mw4 194 (by decide +kernel) (by decide +kernel)
  · exact mw4 196 (by decide +kernel) (by decide +kernel)
  · exact mw4 198 (by decide +kernel) (by decide +kernel)
  · exact mw4 200 (by decide +kernel) (by decide +kernel)
  · exact mw4 202 (by decide +kernel) (by decide +kernel)
  · exact mw4 204 (by decide +kernel) (by decide +kernel)
  · exact mw4 206 (by decide +kernel) (by decide +kernel)
  · exact mw4 208 (by decide +kernel) (by decide +kernel)
  · exact mw4 210 (by decide +kernel) (by decide +kernel)
  · exact mw4 212 (by decide +kernel) (by decide +kernel)
  · exact mw4 214 (by decide +kernel) (by decide +kernel)
  · exact mw4 216 (by decide +kernel) (by decide +kernel)
  · exact mw4 218 (by decide +kernel) (by decide +kernel)
  · exact mw4 220 (by decide +kernel) (by decide +kernel)
  · exact mw4 222 (by decide +kernel) (by decide +kernel)
  · exact mw4 224 (by decide +kernel) (by decide +kernel)
  · exact mw4 226 (by decide +kernel) (by decide +kernel)
  · exact mw4 228 (by decide +kernel) (by decide +kernel)
  · exact mw4 230 (by decide +kernel) (by decide +kernel)
section WorldRows
variable {n : Nat} {own : String} {cc : ByteArray} {nL : Nat} {ret : Option FieldType} {ad : Nat → Nat} {J : JT} {P : PT}
variable {lv lv' : List (Nat × Value)} {st : List Value} {q q1 : SS} {pc idx : Nat}
theorem rc_X8 (ad : Nat → Nat) (q : SS) : ∀ cI cJ, ∃ fs, (wC ad cI cJ q)[0]? = some (ad 0, .inr (6, fs)) := fun _ _ => ⟨_, rfl⟩
theorem g_X8_shelf (hR : Rl wC n own cc nL ret ad J P) (hlink : Cond.fieldLink own idx "JoinWays" "shelf" "LJoinWays$Shelf;" ∈ TT) (hdg : decode cc pc = .ok (.getfield idx, 3)) (k : J lv (.ref (ad 1) :: st) q (pc + 3)) : J lv (.ref (ad 0) :: st) q pc := r_get hR (q0 := 0) (ci := 6) (C := RX8) (T := TX8) (N := 7) hdg (fun _ _ => rfl) rfl fl_X8 0 (by decide) hlink rfl k
theorem g_X8_matches (hR : Rl wC n own cc nL ret ad J P) (hlink : Cond.fieldLink own idx "JoinWays" "matches" "LJoinWays$Matches;" ∈ TT) (hdg : decode cc pc = .ok (.getfield idx, 3)) (k : J lv (.ref (ad 2) :: st) q (pc + 3)) : J lv (.ref (ad 0) :: st) q pc := r_get hR (q0 := 0) (ci := 6) (C := RX8) (T := TX8) (N := 7) hdg (fun _ _ => rfl) rfl fl_X8 1 (by decide) hlink rfl k
theorem g_X8_sheet (hR : Rl wC n own cc nL ret ad J P) (hlink : Cond.fieldLink own idx "JoinWays" "sheet" "LJoinWays$Sheet;" ∈ TT) (hdg : decode cc pc = .ok (.getfield idx, 3)) (k : J lv (.ref (ad 3) :: st) q (pc + 3)) : J lv (.ref (ad 0) :: st) q pc := r_get hR (q0 := 0) (ci := 6) (C := RX8) (T := TX8) (N := 7) hdg (fun _ _ => rfl) rfl fl_X8 2 (by decide) hlink rfl k
theorem g_X8_judge (hR : Rl wC n own cc nL ret ad J P) (hlink : Cond.fieldLink own idx "JoinWays" "judge" "LJoinWays$Judge;" ∈ TT) (hdg : decode cc pc = .ok (.getfield idx, 3)) (k : J lv (.ref (ad 4) :: st) q (pc + 3)) : J lv (.ref (ad 0) :: st) q pc := r_get hR (q0 := 0) (ci := 6) (C := RX8) (T := TX8) (N := 7) hdg (fun _ _ => rfl) rfl fl_X8 3 (by decide) hlink rfl k
theorem g_X8_chooser (hR : Rl wC n own cc nL ret ad J P) (hlink : Cond.fieldLink own idx "JoinWays" "chooser" "LJoinWays$Chooser;" ∈ TT) (hdg : decode cc pc = .ok (.getfield idx, 3)) (k : J lv (.ref (ad 5) :: st) q (pc + 3)) : J lv (.ref (ad 0) :: st) q pc := r_get hR (q0 := 0) (ci := 6) (C := RX8) (T := TX8) (N := 7) hdg (fun _ _ => rfl) rfl fl_X8 4 (by decide) hlink rfl k
theorem g_X8_hanging (hR : Rl wC n own cc nL ret ad J P) (hlink : Cond.fieldLink own idx "JoinWays" "hanging" "LJoinWays$Hanging;" ∈ TT) (hdg : decode cc pc = .ok (.getfield idx, 3)) (k : J lv (.ref (ad 6) :: st) q (pc + 3)) : J lv (.ref (ad 0) :: st) q pc := r_get hR (q0 := 0) (ci := 6) (C := RX8) (T := TX8) (N := 7) hdg (fun _ _ => rfl) rfl fl_X8 5 (by decide) hlink rfl k
theorem g_X8_choices (hR : Rl wC n own cc nL ret ad J P) (hlink : Cond.fieldLink own idx "JoinWays" "choices" "I" ∈ TT) (hdg : decode cc pc = .ok (.getfield idx, 3)) (k : J lv (.int (fi q 0) :: st) q (pc + 3)) : J lv (.ref (ad 0) :: st) q pc := r_get hR (q0 := 0) (ci := 6) (C := RX8) (T := TX8) (N := 7) hdg (fun _ _ => rfl) rfl fl_X8 6 (by decide) hlink rfl k
theorem p_X8_choices {x : Int32} (hR : Rl wC n own cc nL ret ad J P) (hlink : Cond.fieldLink own idx "JoinWays" "choices" "I" ∈ TT) (hdg : decode cc pc = .ok (.putfield idx, 3)) (hq : q1 = sf q 0 x) (k : J lv st q1 (pc + 3)) : J lv (.int x :: .ref (ad 0) :: st) q pc := r_put hR (q0 := 0) (ci := 6) (C := RX8) (T := TX8) (N := 7) (ty := .int) hdg (fun _ _ => rfl) rfl fl_X8 tyX8 tyX8_ok nmX8 6 (by decide) hlink rfl (by decide +kernel) rfl rfl (Nat.le_of_ble_eq_true rfl) (fun _ _ => by rw [hq]; rfl) k
theorem rc_X7 (ad : Nat → Nat) (q : SS) : ∀ cI cJ, ∃ fs, (wC ad cI cJ q)[1]? = some (ad 1, .inr (5, fs)) := fun _ _ => ⟨_, rfl⟩
theorem g_X7_letterBits (hR : Rl wC n own cc nL ret ad J P) (hlink : Cond.fieldLink own idx "JoinWays$Shelf" "letterBits" "[I" ∈ TT) (hdg : decode cc pc = .ok (.getfield idx, 3)) (k : J lv (.ref (ad 7) :: st) q (pc + 3)) : J lv (.ref (ad 1) :: st) q pc := r_get hR (q0 := 1) (ci := 5) (C := RX7) (T := TX7) (N := 8) hdg (fun _ _ => rfl) rfl fl_X7 0 (by decide) hlink rfl k
theorem g_X7_perPage (hR : Rl wC n own cc nL ret ad J P) (hlink : Cond.fieldLink own idx "JoinWays$Shelf" "perPage" "[I" ∈ TT) (hdg : decode cc pc = .ok (.getfield idx, 3)) (k : J lv (.ref (ad 8) :: st) q (pc + 3)) : J lv (.ref (ad 1) :: st) q pc := r_get hR (q0 := 1) (ci := 5) (C := RX7) (T := TX7) (N := 8) hdg (fun _ _ => rfl) rfl fl_X7 1 (by decide) hlink rfl k
theorem g_X7_rowCount (hR : Rl wC n own cc nL ret ad J P) (hlink : Cond.fieldLink own idx "JoinWays$Shelf" "rowCount" "[I" ∈ TT) (hdg : decode cc pc = .ok (.getfield idx, 3)) (k : J lv (.ref (ad 9) :: st) q (pc + 3)) : J lv (.ref (ad 1) :: st) q pc := r_get hR (q0 := 1) (ci := 5) (C := RX7) (T := TX7) (N := 8) hdg (fun _ _ => rfl) rfl fl_X7 2 (by decide) hlink rfl k
theorem g_X7_codes (hR : Rl wC n own cc nL ret ad J P) (hlink : Cond.fieldLink own idx "JoinWays$Shelf" "codes" "[I" ∈ TT) (hdg : decode cc pc = .ok (.getfield idx, 3)) (k : J lv (.ref (ad 10) :: st) q (pc + 3)) : J lv (.ref (ad 1) :: st) q pc := r_get hR (q0 := 1) (ci := 5) (C := RX7) (T := TX7) (N := 8) hdg (fun _ _ => rfl) rfl fl_X7 3 (by decide) hlink rfl k
theorem g_X7_sorted (hR : Rl wC n own cc nL ret ad J P) (hlink : Cond.fieldLink own idx "JoinWays$Shelf" "sorted" "[I" ∈ TT) (hdg : decode cc pc = .ok (.getfield idx, 3)) (k : J lv (.ref (ad 11) :: st) q (pc + 3)) : J lv (.ref (ad 1) :: st) q pc := r_get hR (q0 := 1) (ci := 5) (C := RX7) (T := TX7) (N := 8) hdg (fun _ _ => rfl) rfl fl_X7 4 (by decide) hlink rfl k
theorem g_X7_made (hR : Rl wC n own cc nL ret ad J P) (hlink : Cond.fieldLink own idx "JoinWays$Shelf" "made" "I" ∈ TT) (hdg : decode cc pc = .ok (.getfield idx, 3)) (k : J lv (.int (fi q 1) :: st) q (pc + 3)) : J lv (.ref (ad 1) :: st) q pc := r_get hR (q0 := 1) (ci := 5) (C := RX7) (T := TX7) (N := 8) hdg (fun _ _ => rfl) rfl fl_X7 5 (by decide) hlink rfl k
theorem p_X7_made {x : Int32} (hR : Rl wC n own cc nL ret ad J P) (hlink : Cond.fieldLink own idx "JoinWays$Shelf" "made" "I" ∈ TT) (hdg : decode cc pc = .ok (.putfield idx, 3)) (hq : q1 = sf q 1 x) (k : J lv st q1 (pc + 3)) : J lv (.int x :: .ref (ad 1) :: st) q pc := r_put hR (q0 := 1) (ci := 5) (C := RX7) (T := TX7) (N := 8) (ty := .int) hdg (fun _ _ => rfl) rfl fl_X7 tyX7 tyX7_ok nmX7 5 (by decide) hlink rfl (by decide +kernel) rfl rfl (Nat.le_of_ble_eq_true rfl) (fun _ _ => by rw [hq]; rfl) k
theorem g_X7_wide (hR : Rl wC n own cc nL ret ad J P) (hlink : Cond.fieldLink own idx "JoinWays$Shelf" "wide" "I" ∈ TT) (hdg : decode cc pc = .ok (.getfield idx, 3)) (k : J lv (.int (fi q 2) :: st) q (pc + 3)) : J lv (.ref (ad 1) :: st) q pc := r_get hR (q0 := 1) (ci := 5) (C := RX7) (T := TX7) (N := 8) hdg (fun _ _ => rfl) rfl fl_X7 6 (by decide) hlink rfl k
theorem p_X7_wide {x : Int32} (hR : Rl wC n own cc nL ret ad J P) (hlink : Cond.fieldLink own idx "JoinWays$Shelf" "wide" "I" ∈ TT) (hdg : decode cc pc = .ok (.putfield idx, 3)) (hq : q1 = sf q 2 x) (k : J lv st q1 (pc + 3)) : J lv (.int x :: .ref (ad 1) :: st) q pc := r_put hR (q0 := 1) (ci := 5) (C := RX7) (T := TX7) (N := 8) (ty := .int) hdg (fun _ _ => rfl) rfl fl_X7 tyX7 tyX7_ok nmX7 6 (by decide) hlink rfl (by decide +kernel) rfl rfl (Nat.le_of_ble_eq_true rfl) (fun _ _ => by rw [hq]; rfl) k
theorem g_X7_memory (hR : Rl wC n own cc nL ret ad J P) (hlink : Cond.fieldLink own idx "JoinWays$Shelf" "memory" "I" ∈ TT) (hdg : decode cc pc = .ok (.getfield idx, 3)) (k : J lv (.int (fi q 3) :: st) q (pc + 3)) : J lv (.ref (ad 1) :: st) q pc := r_get hR (q0 := 1) (ci := 5) (C := RX7) (T := TX7) (N := 8) hdg (fun _ _ => rfl) rfl fl_X7 7 (by decide) hlink rfl k
theorem p_X7_memory {x : Int32} (hR : Rl wC n own cc nL ret ad J P) (hlink : Cond.fieldLink own idx "JoinWays$Shelf" "memory" "I" ∈ TT) (hdg : decode cc pc = .ok (.putfield idx, 3)) (hq : q1 = sf q 3 x) (k : J lv st q1 (pc + 3)) : J lv (.int x :: .ref (ad 1) :: st) q pc := r_put hR (q0 := 1) (ci := 5) (C := RX7) (T := TX7) (N := 8) (ty := .int) hdg (fun _ _ => rfl) rfl fl_X7 tyX7 tyX7_ok nmX7 7 (by decide) hlink rfl (by decide +kernel) rfl rfl (Nat.le_of_ble_eq_true rfl) (fun _ _ => by rw [hq]; rfl) k
theorem rc_X3 (ad : Nat → Nat) (q : SS) : ∀ cI cJ, ∃ fs, (wC ad cI cJ q)[2]? = some (ad 2, .inr (3, fs)) := fun _ _ => ⟨_, rfl⟩
theorem g_X3_shelf (hR : Rl wC n own cc nL ret ad J P) (hlink : Cond.fieldLink own idx "JoinWays$Matches" "shelf" "LJoinWays$Shelf;" ∈ TT) (hdg : decode cc pc = .ok (.getfield idx, 3)) (k : J lv (.ref (ad 1) :: st) q (pc + 3)) : J lv (.ref (ad 2) :: st) q pc := r_get hR (q0 := 2) (ci := 3) (C := RX3) (T := TX3) (N := 5) hdg (fun _ _ => rfl) rfl fl_X3 0 (by decide) hlink rfl k
theorem g_X3_allowed (hR : Rl wC n own cc nL ret ad J P) (hlink : Cond.fieldLink own idx "JoinWays$Matches" "allowed" "[I" ∈ TT) (hdg : decode cc pc = .ok (.getfield idx, 3)) (k : J lv (.ref (ad 12) :: st) q (pc + 3)) : J lv (.ref (ad 2) :: st) q pc := r_get hR (q0 := 2) (ci := 3) (C := RX3) (T := TX3) (N := 5) hdg (fun _ _ => rfl) rfl fl_X3 1 (by decide) hlink rfl k
theorem g_X3_weight (hR : Rl wC n own cc nL ret ad J P) (hlink : Cond.fieldLink own idx "JoinWays$Matches" "weight" "[I" ∈ TT) (hdg : decode cc pc = .ok (.getfield idx, 3)) (k : J lv (.ref (ad 13) :: st) q (pc + 3)) : J lv (.ref (ad 2) :: st) q pc := r_get hR (q0 := 2) (ci := 3) (C := RX3) (T := TX3) (N := 5) hdg (fun _ _ => rfl) rfl fl_X3 2 (by decide) hlink rfl k
theorem g_X3_boundMask (hR : Rl wC n own cc nL ret ad J P) (hlink : Cond.fieldLink own idx "JoinWays$Matches" "boundMask" "[I" ∈ TT) (hdg : decode cc pc = .ok (.getfield idx, 3)) (k : J lv (.ref (ad 14) :: st) q (pc + 3)) : J lv (.ref (ad 2) :: st) q pc := r_get hR (q0 := 2) (ci := 3) (C := RX3) (T := TX3) (N := 5) hdg (fun _ _ => rfl) rfl fl_X3 3 (by decide) hlink rfl k
theorem g_X3_found (hR : Rl wC n own cc nL ret ad J P) (hlink : Cond.fieldLink own idx "JoinWays$Matches" "found" "[I" ∈ TT) (hdg : decode cc pc = .ok (.getfield idx, 3)) (k : J lv (.ref (ad 15) :: st) q (pc + 3)) : J lv (.ref (ad 2) :: st) q pc := r_get hR (q0 := 2) (ci := 3) (C := RX3) (T := TX3) (N := 5) hdg (fun _ _ => rfl) rfl fl_X3 4 (by decide) hlink rfl k
theorem rc_X6 (ad : Nat → Nat) (q : SS) : ∀ cI cJ, ∃ fs, (wC ad cI cJ q)[3]? = some (ad 3, .inr (4, fs)) := fun _ _ => ⟨_, rfl⟩
theorem g_X6_signs (hR : Rl wC n own cc nL ret ad J P) (hlink : Cond.fieldLink own idx "JoinWays$Sheet" "signs" "[I" ∈ TT) (hdg : decode cc pc = .ok (.getfield idx, 3)) (k : J lv (.ref (ad 16) :: st) q (pc + 3)) : J lv (.ref (ad 3) :: st) q pc := r_get hR (q0 := 3) (ci := 4) (C := RX6) (T := TX6) (N := 7) hdg (fun _ _ => rfl) rfl fl_X6 0 (by decide) hlink rfl k
theorem g_X6_length (hR : Rl wC n own cc nL ret ad J P) (hlink : Cond.fieldLink own idx "JoinWays$Sheet" "length" "I" ∈ TT) (hdg : decode cc pc = .ok (.getfield idx, 3)) (k : J lv (.int (fi q 4) :: st) q (pc + 3)) : J lv (.ref (ad 3) :: st) q pc := r_get hR (q0 := 3) (ci := 4) (C := RX6) (T := TX6) (N := 7) hdg (fun _ _ => rfl) rfl fl_X6 1 (by decide) hlink rfl k
theorem p_X6_length {x : Int32} (hR : Rl wC n own cc nL ret ad J P) (hlink : Cond.fieldLink own idx "JoinWays$Sheet" "length" "I" ∈ TT) (hdg : decode cc pc = .ok (.putfield idx, 3)) (hq : q1 = sf q 4 x) (k : J lv st q1 (pc + 3)) : J lv (.int x :: .ref (ad 3) :: st) q pc := r_put hR (q0 := 3) (ci := 4) (C := RX6) (T := TX6) (N := 7) (ty := .int) hdg (fun _ _ => rfl) rfl fl_X6 tyX6 tyX6_ok nmX6 1 (by decide) hlink rfl (by decide +kernel) rfl rfl (Nat.le_of_ble_eq_true rfl) (fun _ _ => by rw [hq]; rfl) k
theorem g_X6_told (hR : Rl wC n own cc nL ret ad J P) (hlink : Cond.fieldLink own idx "JoinWays$Sheet" "told" "I" ∈ TT) (hdg : decode cc pc = .ok (.getfield idx, 3)) (k : J lv (.int (fi q 5) :: st) q (pc + 3)) : J lv (.ref (ad 3) :: st) q pc := r_get hR (q0 := 3) (ci := 4) (C := RX6) (T := TX6) (N := 7) hdg (fun _ _ => rfl) rfl fl_X6 2 (by decide) hlink rfl k
theorem p_X6_told {x : Int32} (hR : Rl wC n own cc nL ret ad J P) (hlink : Cond.fieldLink own idx "JoinWays$Sheet" "told" "I" ∈ TT) (hdg : decode cc pc = .ok (.putfield idx, 3)) (hq : q1 = sf q 5 x) (k : J lv st q1 (pc + 3)) : J lv (.int x :: .ref (ad 3) :: st) q pc := r_put hR (q0 := 3) (ci := 4) (C := RX6) (T := TX6) (N := 7) (ty := .int) hdg (fun _ _ => rfl) rfl fl_X6 tyX6 tyX6_ok nmX6 2 (by decide) hlink rfl (by decide +kernel) rfl rfl (Nat.le_of_ble_eq_true rfl) (fun _ _ => by rw [hq]; rfl) k
theorem g_X6_due (hR : Rl wC n own cc nL ret ad J P) (hlink : Cond.fieldLink own idx "JoinWays$Sheet" "due" "I" ∈ TT) (hdg : decode cc pc = .ok (.getfield idx, 3)) (k : J lv (.int (fi q 6) :: st) q (pc + 3)) : J lv (.ref (ad 3) :: st) q pc := r_get hR (q0 := 3) (ci := 4) (C := RX6) (T := TX6) (N := 7) hdg (fun _ _ => rfl) rfl fl_X6 3 (by decide) hlink rfl k
theorem p_X6_due {x : Int32} (hR : Rl wC n own cc nL ret ad J P) (hlink : Cond.fieldLink own idx "JoinWays$Sheet" "due" "I" ∈ TT) (hdg : decode cc pc = .ok (.putfield idx, 3)) (hq : q1 = sf q 6 x) (k : J lv st q1 (pc + 3)) : J lv (.int x :: .ref (ad 3) :: st) q pc := r_put hR (q0 := 3) (ci := 4) (C := RX6) (T := TX6) (N := 7) (ty := .int) hdg (fun _ _ => rfl) rfl fl_X6 tyX6 tyX6_ok nmX6 3 (by decide) hlink rfl (by decide +kernel) rfl rfl (Nat.le_of_ble_eq_true rfl) (fun _ _ => by rw [hq]; rfl) k
theorem g_X6_open (hR : Rl wC n own cc nL ret ad J P) (hlink : Cond.fieldLink own idx "JoinWays$Sheet" "open" "I" ∈ TT) (hdg : decode cc pc = .ok (.getfield idx, 3)) (k : J lv (.int (fi q 7) :: st) q (pc + 3)) : J lv (.ref (ad 3) :: st) q pc := r_get hR (q0 := 3) (ci := 4) (C := RX6) (T := TX6) (N := 7) hdg (fun _ _ => rfl) rfl fl_X6 4 (by decide) hlink rfl k
theorem p_X6_open {x : Int32} (hR : Rl wC n own cc nL ret ad J P) (hlink : Cond.fieldLink own idx "JoinWays$Sheet" "open" "I" ∈ TT) (hdg : decode cc pc = .ok (.putfield idx, 3)) (hq : q1 = sf q 7 x) (k : J lv st q1 (pc + 3)) : J lv (.int x :: .ref (ad 3) :: st) q pc := r_put hR (q0 := 3) (ci := 4) (C := RX6) (T := TX6) (N := 7) (ty := .int) hdg (fun _ _ => rfl) rfl fl_X6 tyX6 tyX6_ok nmX6 4 (by decide) hlink rfl (by decide +kernel) rfl rfl (Nat.le_of_ble_eq_true rfl) (fun _ _ => by rw [hq]; rfl) k
theorem g_X6_sides (hR : Rl wC n own cc nL ret ad J P) (hlink : Cond.fieldLink own idx "JoinWays$Sheet" "sides" "I" ∈ TT) (hdg : decode cc pc = .ok (.getfield idx, 3)) (k : J lv (.int (fi q 8) :: st) q (pc + 3)) : J lv (.ref (ad 3) :: st) q pc := r_get hR (q0 := 3) (ci := 4) (C := RX6) (T := TX6) (N := 7) hdg (fun _ _ => rfl) rfl fl_X6 5 (by decide) hlink rfl k
theorem p_X6_sides {x : Int32} (hR : Rl wC n own cc nL ret ad J P) (hlink : Cond.fieldLink own idx "JoinWays$Sheet" "sides" "I" ∈ TT) (hdg : decode cc pc = .ok (.putfield idx, 3)) (hq : q1 = sf q 8 x) (k : J lv st q1 (pc + 3)) : J lv (.int x :: .ref (ad 3) :: st) q pc := r_put hR (q0 := 3) (ci := 4) (C := RX6) (T := TX6) (N := 7) (ty := .int) hdg (fun _ _ => rfl) rfl fl_X6 tyX6 tyX6_ok nmX6 5 (by decide) hlink rfl (by decide +kernel) rfl rfl (Nat.le_of_ble_eq_true rfl) (fun _ _ => by rw [hq]; rfl) k
theorem g_X6_ended (hR : Rl wC n own cc nL ret ad J P) (hlink : Cond.fieldLink own idx "JoinWays$Sheet" "ended" "Z" ∈ TT) (hdg : decode cc pc = .ok (.getfield idx, 3)) (k : J lv (.int (fi q 9) :: st) q (pc + 3)) : J lv (.ref (ad 3) :: st) q pc := r_get hR (q0 := 3) (ci := 4) (C := RX6) (T := TX6) (N := 7) hdg (fun _ _ => rfl) rfl fl_X6 6 (by decide) hlink rfl k
theorem p_X6_ended {x : Int32} (hR : Rl wC n own cc nL ret ad J P) (hlink : Cond.fieldLink own idx "JoinWays$Sheet" "ended" "Z" ∈ TT) (hdg : decode cc pc = .ok (.putfield idx, 3)) (hz : x = 0 ∨ x = 1) (hq : q1 = sf q 9 x) (k : J lv st q1 (pc + 3)) : J lv (.int x :: .ref (ad 3) :: st) q pc := r_put hR (q0 := 3) (ci := 4) (C := RX6) (T := TX6) (N := 7) (ty := .boolean) hdg (fun _ _ => rfl) rfl fl_X6 tyX6 tyX6_ok nmX6 6 (by decide) hlink rfl (by decide +kernel) (by rcases hz with rfl | rfl <;> rfl) (by rcases hz with rfl | rfl <;> rfl) (Nat.le_of_ble_eq_true rfl) (fun _ _ => by rw [hq]; rfl) k
theorem rc_X2 (ad : Nat → Nat) (q : SS) : ∀ cI cJ, ∃ fs, (wC ad cI cJ q)[4]? = some (ad 4, .inr (2, fs)) := fun _ _ => ⟨_, rfl⟩
theorem g_X2_shelf (hR : Rl wC n own cc nL ret ad J P) (hlink : Cond.fieldLink own idx "JoinWays$Judge" "shelf" "LJoinWays$Shelf;" ∈ TT) (hdg : decode cc pc = .ok (.getfield idx, 3)) (k : J lv (.ref (ad 1) :: st) q (pc + 3)) : J lv (.ref (ad 4) :: st) q pc := r_get hR (q0 := 4) (ci := 2) (C := RX2) (T := TX2) (N := 11) hdg (fun _ _ => rfl) rfl fl_X2 0 (by decide) hlink rfl k
theorem g_X2_matches (hR : Rl wC n own cc nL ret ad J P) (hlink : Cond.fieldLink own idx "JoinWays$Judge" "matches" "LJoinWays$Matches;" ∈ TT) (hdg : decode cc pc = .ok (.getfield idx, 3)) (k : J lv (.ref (ad 2) :: st) q (pc + 3)) : J lv (.ref (ad 4) :: st) q pc := r_get hR (q0 := 4) (ci := 2) (C := RX2) (T := TX2) (N := 11) hdg (fun _ _ => rfl) rfl fl_X2 1 (by decide) hlink rfl k
theorem g_X2_sets (hR : Rl wC n own cc nL ret ad J P) (hlink : Cond.fieldLink own idx "JoinWays$Judge" "sets" "[I" ∈ TT) (hdg : decode cc pc = .ok (.getfield idx, 3)) (k : J lv (.ref (ad 17) :: st) q (pc + 3)) : J lv (.ref (ad 4) :: st) q pc := r_get hR (q0 := 4) (ci := 2) (C := RX2) (T := TX2) (N := 11) hdg (fun _ _ => rfl) rfl fl_X2 2 (by decide) hlink rfl k
theorem g_X2_costs (hR : Rl wC n own cc nL ret ad J P) (hlink : Cond.fieldLink own idx "JoinWays$Judge" "costs" "[I" ∈ TT) (hdg : decode cc pc = .ok (.getfield idx, 3)) (k : J lv (.ref (ad 18) :: st) q (pc + 3)) : J lv (.ref (ad 4) :: st) q pc := r_get hR (q0 := 4) (ci := 2) (C := RX2) (T := TX2) (N := 11) hdg (fun _ _ => rfl) rfl fl_X2 3 (by decide) hlink rfl k
theorem g_X2_orders (hR : Rl wC n own cc nL ret ad J P) (hlink : Cond.fieldLink own idx "JoinWays$Judge" "orders" "[I" ∈ TT) (hdg : decode cc pc = .ok (.getfield idx, 3)) (k : J lv (.ref (ad 19) :: st) q (pc + 3)) : J lv (.ref (ad 4) :: st) q pc := r_get hR (q0 := 4) (ci := 2) (C := RX2) (T := TX2) (N := 11) hdg (fun _ _ => rfl) rfl fl_X2 4 (by decide) hlink rfl k
theorem g_X2_pageCounts (hR : Rl wC n own cc nL ret ad J P) (hlink : Cond.fieldLink own idx "JoinWays$Judge" "pageCounts" "[I" ∈ TT) (hdg : decode cc pc = .ok (.getfield idx, 3)) (k : J lv (.ref (ad 20) :: st) q (pc + 3)) : J lv (.ref (ad 4) :: st) q pc := r_get hR (q0 := 4) (ci := 2) (C := RX2) (T := TX2) (N := 11) hdg (fun _ _ => rfl) rfl fl_X2 5 (by decide) hlink rfl k
theorem g_X2_ways (hR : Rl wC n own cc nL ret ad J P) (hlink : Cond.fieldLink own idx "JoinWays$Judge" "ways" "[I" ∈ TT) (hdg : decode cc pc = .ok (.getfield idx, 3)) (k : J lv (.ref (ad 21) :: st) q (pc + 3)) : J lv (.ref (ad 4) :: st) q pc := r_get hR (q0 := 4) (ci := 2) (C := RX2) (T := TX2) (N := 11) hdg (fun _ _ => rfl) rfl fl_X2 6 (by decide) hlink rfl k
theorem g_X2_held (hR : Rl wC n own cc nL ret ad J P) (hlink : Cond.fieldLink own idx "JoinWays$Judge" "held" "I" ∈ TT) (hdg : decode cc pc = .ok (.getfield idx, 3)) (k : J lv (.int (fi q 10) :: st) q (pc + 3)) : J lv (.ref (ad 4) :: st) q pc := r_get hR (q0 := 4) (ci := 2) (C := RX2) (T := TX2) (N := 11) hdg (fun _ _ => rfl) rfl fl_X2 7 (by decide) hlink rfl k
theorem p_X2_held {x : Int32} (hR : Rl wC n own cc nL ret ad J P) (hlink : Cond.fieldLink own idx "JoinWays$Judge" "held" "I" ∈ TT) (hdg : decode cc pc = .ok (.putfield idx, 3)) (hq : q1 = sf q 10 x) (k : J lv st q1 (pc + 3)) : J lv (.int x :: .ref (ad 4) :: st) q pc := r_put hR (q0 := 4) (ci := 2) (C := RX2) (T := TX2) (N := 11) (ty := .int) hdg (fun _ _ => rfl) rfl fl_X2 tyX2 tyX2_ok nmX2 7 (by decide) hlink rfl (by decide +kernel) rfl rfl (Nat.le_of_ble_eq_true rfl) (fun _ _ => by rw [hq]; rfl) k
theorem g_X2_waiting (hR : Rl wC n own cc nL ret ad J P) (hlink : Cond.fieldLink own idx "JoinWays$Judge" "waiting" "I" ∈ TT) (hdg : decode cc pc = .ok (.getfield idx, 3)) (k : J lv (.int (fi q 11) :: st) q (pc + 3)) : J lv (.ref (ad 4) :: st) q pc := r_get hR (q0 := 4) (ci := 2) (C := RX2) (T := TX2) (N := 11) hdg (fun _ _ => rfl) rfl fl_X2 8 (by decide) hlink rfl k
theorem p_X2_waiting {x : Int32} (hR : Rl wC n own cc nL ret ad J P) (hlink : Cond.fieldLink own idx "JoinWays$Judge" "waiting" "I" ∈ TT) (hdg : decode cc pc = .ok (.putfield idx, 3)) (hq : q1 = sf q 11 x) (k : J lv st q1 (pc + 3)) : J lv (.int x :: .ref (ad 4) :: st) q pc := r_put hR (q0 := 4) (ci := 2) (C := RX2) (T := TX2) (N := 11) (ty := .int) hdg (fun _ _ => rfl) rfl fl_X2 tyX2 tyX2_ok nmX2 8 (by decide) hlink rfl (by decide +kernel) rfl rfl (Nat.le_of_ble_eq_true rfl) (fun _ _ => by rw [hq]; rfl) k
theorem g_X2_joins (hR : Rl wC n own cc nL ret ad J P) (hlink : Cond.fieldLink own idx "JoinWays$Judge" "joins" "I" ∈ TT) (hdg : decode cc pc = .ok (.getfield idx, 3)) (k : J lv (.int (fi q 12) :: st) q (pc + 3)) : J lv (.ref (ad 4) :: st) q pc := r_get hR (q0 := 4) (ci := 2) (C := RX2) (T := TX2) (N := 11) hdg (fun _ _ => rfl) rfl fl_X2 9 (by decide) hlink rfl k
theorem p_X2_joins {x : Int32} (hR : Rl wC n own cc nL ret ad J P) (hlink : Cond.fieldLink own idx "JoinWays$Judge" "joins" "I" ∈ TT) (hdg : decode cc pc = .ok (.putfield idx, 3)) (hq : q1 = sf q 12 x) (k : J lv st q1 (pc + 3)) : J lv (.int x :: .ref (ad 4) :: st) q pc := r_put hR (q0 := 4) (ci := 2) (C := RX2) (T := TX2) (N := 11) (ty := .int) hdg (fun _ _ => rfl) rfl fl_X2 tyX2 tyX2_ok nmX2 9 (by decide) hlink rfl (by decide +kernel) rfl rfl (Nat.le_of_ble_eq_true rfl) (fun _ _ => by rw [hq]; rfl) k
theorem g_X2_doable (hR : Rl wC n own cc nL ret ad J P) (hlink : Cond.fieldLink own idx "JoinWays$Judge" "doable" "Z" ∈ TT) (hdg : decode cc pc = .ok (.getfield idx, 3)) (k : J lv (.int (fi q 13) :: st) q (pc + 3)) : J lv (.ref (ad 4) :: st) q pc := r_get hR (q0 := 4) (ci := 2) (C := RX2) (T := TX2) (N := 11) hdg (fun _ _ => rfl) rfl fl_X2 10 (by decide) hlink rfl k
theorem p_X2_doable {x : Int32} (hR : Rl wC n own cc nL ret ad J P) (hlink : Cond.fieldLink own idx "JoinWays$Judge" "doable" "Z" ∈ TT) (hdg : decode cc pc = .ok (.putfield idx, 3)) (hz : x = 0 ∨ x = 1) (hq : q1 = sf q 13 x) (k : J lv st q1 (pc + 3)) : J lv (.int x :: .ref (ad 4) :: st) q pc := r_put hR (q0 := 4) (ci := 2) (C := RX2) (T := TX2) (N := 11) (ty := .boolean) hdg (fun _ _ => rfl) rfl fl_X2 tyX2 tyX2_ok nmX2 10 (by decide) hlink rfl (by decide +kernel) (by rcases hz with rfl | rfl <;> rfl) (by rcases hz with rfl | rfl <;> rfl) (Nat.le_of_ble_eq_true rfl) (fun _ _ => by rw [hq]; rfl) k
theorem rc_X0 (ad : Nat → Nat) (q : SS) : ∀ cI cJ, ∃ fs, (wC ad cI cJ q)[5]? = some (ad 5, .inr (0, fs)) := fun _ _ => ⟨_, rfl⟩
theorem g_X0_shelf (hR : Rl wC n own cc nL ret ad J P) (hlink : Cond.fieldLink own idx "JoinWays$Chooser" "shelf" "LJoinWays$Shelf;" ∈ TT) (hdg : decode cc pc = .ok (.getfield idx, 3)) (k : J lv (.ref (ad 1) :: st) q (pc + 3)) : J lv (.ref (ad 5) :: st) q pc := r_get hR (q0 := 5) (ci := 0) (C := RX0) (T := TX0) (N := 8) hdg (fun _ _ => rfl) rfl fl_X0 0 (by decide) hlink rfl k
theorem g_X0_matches (hR : Rl wC n own cc nL ret ad J P) (hlink : Cond.fieldLink own idx "JoinWays$Chooser" "matches" "LJoinWays$Matches;" ∈ TT) (hdg : decode cc pc = .ok (.getfield idx, 3)) (k : J lv (.ref (ad 2) :: st) q (pc + 3)) : J lv (.ref (ad 5) :: st) q pc := r_get hR (q0 := 5) (ci := 0) (C := RX0) (T := TX0) (N := 8) hdg (fun _ _ => rfl) rfl fl_X0 1 (by decide) hlink rfl k
theorem g_X0_costs (hR : Rl wC n own cc nL ret ad J P) (hlink : Cond.fieldLink own idx "JoinWays$Chooser" "costs" "[I" ∈ TT) (hdg : decode cc pc = .ok (.getfield idx, 3)) (k : J lv (.ref (ad 22) :: st) q (pc + 3)) : J lv (.ref (ad 5) :: st) q pc := r_get hR (q0 := 5) (ci := 0) (C := RX0) (T := TX0) (N := 8) hdg (fun _ _ => rfl) rfl fl_X0 2 (by decide) hlink rfl k
theorem g_X0_keys (hR : Rl wC n own cc nL ret ad J P) (hlink : Cond.fieldLink own idx "JoinWays$Chooser" "keys" "[J" ∈ TT) (hdg : decode cc pc = .ok (.getfield idx, 3)) (k : J lv (.ref (ad 23) :: st) q (pc + 3)) : J lv (.ref (ad 5) :: st) q pc := r_get hR (q0 := 5) (ci := 0) (C := RX0) (T := TX0) (N := 8) hdg (fun _ _ => rfl) rfl fl_X0 3 (by decide) hlink rfl k
theorem g_X0_pageCounts (hR : Rl wC n own cc nL ret ad J P) (hlink : Cond.fieldLink own idx "JoinWays$Chooser" "pageCounts" "[I" ∈ TT) (hdg : decode cc pc = .ok (.getfield idx, 3)) (k : J lv (.ref (ad 24) :: st) q (pc + 3)) : J lv (.ref (ad 5) :: st) q pc := r_get hR (q0 := 5) (ci := 0) (C := RX0) (T := TX0) (N := 8) hdg (fun _ _ => rfl) rfl fl_X0 4 (by decide) hlink rfl k
theorem g_X0_sortings (hR : Rl wC n own cc nL ret ad J P) (hlink : Cond.fieldLink own idx "JoinWays$Chooser" "sortings" "[I" ∈ TT) (hdg : decode cc pc = .ok (.getfield idx, 3)) (k : J lv (.ref (ad 25) :: st) q (pc + 3)) : J lv (.ref (ad 5) :: st) q pc := r_get hR (q0 := 5) (ci := 0) (C := RX0) (T := TX0) (N := 8) hdg (fun _ _ => rfl) rfl fl_X0 5 (by decide) hlink rfl k
theorem g_X0_text (hR : Rl wC n own cc nL ret ad J P) (hlink : Cond.fieldLink own idx "JoinWays$Chooser" "text" "[I" ∈ TT) (hdg : decode cc pc = .ok (.getfield idx, 3)) (k : J lv (.ref (ad 26) :: st) q (pc + 3)) : J lv (.ref (ad 5) :: st) q pc := r_get hR (q0 := 5) (ci := 0) (C := RX0) (T := TX0) (N := 8) hdg (fun _ _ => rfl) rfl fl_X0 6 (by decide) hlink rfl k
theorem g_X0_length (hR : Rl wC n own cc nL ret ad J P) (hlink : Cond.fieldLink own idx "JoinWays$Chooser" "length" "I" ∈ TT) (hdg : decode cc pc = .ok (.getfield idx, 3)) (k : J lv (.int (fi q 14) :: st) q (pc + 3)) : J lv (.ref (ad 5) :: st) q pc := r_get hR (q0 := 5) (ci := 0) (C := RX0) (T := TX0) (N := 8) hdg (fun _ _ => rfl) rfl fl_X0 7 (by decide) hlink rfl k
theorem p_X0_length {x : Int32} (hR : Rl wC n own cc nL ret ad J P) (hlink : Cond.fieldLink own idx "JoinWays$Chooser" "length" "I" ∈ TT) (hdg : decode cc pc = .ok (.putfield idx, 3)) (hq : q1 = sf q 14 x) (k : J lv st q1 (pc + 3)) : J lv (.int x :: .ref (ad 5) :: st) q pc := r_put hR (q0 := 5) (ci := 0) (C := RX0) (T := TX0) (N := 8) (ty := .int) hdg (fun _ _ => rfl) rfl fl_X0 tyX0 tyX0_ok nmX0 7 (by decide) hlink rfl (by decide +kernel) rfl rfl (Nat.le_of_ble_eq_true rfl) (fun _ _ => by rw [hq]; rfl) k
theorem rc_X1 (ad : Nat → Nat) (q : SS) : ∀ cI cJ, ∃ fs, (wC ad cI cJ q)[6]? = some (ad 6, .inr (1, fs)) := fun _ _ => ⟨_, rfl⟩
theorem g_X1_shelf (hR : Rl wC n own cc nL ret ad J P) (hlink : Cond.fieldLink own idx "JoinWays$Hanging" "shelf" "LJoinWays$Shelf;" ∈ TT) (hdg : decode cc pc = .ok (.getfield idx, 3)) (k : J lv (.ref (ad 1) :: st) q (pc + 3)) : J lv (.ref (ad 6) :: st) q pc := r_get hR (q0 := 6) (ci := 1) (C := RX1) (T := TX1) (N := 6) hdg (fun _ _ => rfl) rfl fl_X1 0 (by decide) hlink rfl k
theorem g_X1_order (hR : Rl wC n own cc nL ret ad J P) (hlink : Cond.fieldLink own idx "JoinWays$Hanging" "order" "[I" ∈ TT) (hdg : decode cc pc = .ok (.getfield idx, 3)) (k : J lv (.ref (ad 27) :: st) q (pc + 3)) : J lv (.ref (ad 6) :: st) q pc := r_get hR (q0 := 6) (ci := 1) (C := RX1) (T := TX1) (N := 6) hdg (fun _ _ => rfl) rfl fl_X1 1 (by decide) hlink rfl k
theorem g_X1_hooks (hR : Rl wC n own cc nL ret ad J P) (hlink : Cond.fieldLink own idx "JoinWays$Hanging" "hooks" "[I" ∈ TT) (hdg : decode cc pc = .ok (.getfield idx, 3)) (k : J lv (.ref (ad 28) :: st) q (pc + 3)) : J lv (.ref (ad 6) :: st) q pc := r_get hR (q0 := 6) (ci := 1) (C := RX1) (T := TX1) (N := 6) hdg (fun _ _ => rfl) rfl fl_X1 2 (by decide) hlink rfl k
theorem g_X1_rowBits (hR : Rl wC n own cc nL ret ad J P) (hlink : Cond.fieldLink own idx "JoinWays$Hanging" "rowBits" "[I" ∈ TT) (hdg : decode cc pc = .ok (.getfield idx, 3)) (k : J lv (.ref (ad 29) :: st) q (pc + 3)) : J lv (.ref (ad 6) :: st) q pc := r_get hR (q0 := 6) (ci := 1) (C := RX1) (T := TX1) (N := 6) hdg (fun _ _ => rfl) rfl fl_X1 3 (by decide) hlink rfl k
theorem g_X1_gone (hR : Rl wC n own cc nL ret ad J P) (hlink : Cond.fieldLink own idx "JoinWays$Hanging" "gone" "I" ∈ TT) (hdg : decode cc pc = .ok (.getfield idx, 3)) (k : J lv (.int (fi q 15) :: st) q (pc + 3)) : J lv (.ref (ad 6) :: st) q pc := r_get hR (q0 := 6) (ci := 1) (C := RX1) (T := TX1) (N := 6) hdg (fun _ _ => rfl) rfl fl_X1 4 (by decide) hlink rfl k
theorem p_X1_gone {x : Int32} (hR : Rl wC n own cc nL ret ad J P) (hlink : Cond.fieldLink own idx "JoinWays$Hanging" "gone" "I" ∈ TT) (hdg : decode cc pc = .ok (.putfield idx, 3)) (hq : q1 = sf q 15 x) (k : J lv st q1 (pc + 3)) : J lv (.int x :: .ref (ad 6) :: st) q pc := r_put hR (q0 := 6) (ci := 1) (C := RX1) (T := TX1) (N := 6) (ty := .int) hdg (fun _ _ => rfl) rfl fl_X1 tyX1 tyX1_ok nmX1 4 (by decide) hlink rfl (by decide +kernel) rfl rfl (Nat.le_of_ble_eq_true rfl) (fun _ _ => by rw [hq]; rfl) k
theorem g_X1_cutRows (hR : Rl wC n own cc nL ret ad J P) (hlink : Cond.fieldLink own idx "JoinWays$Hanging" "cutRows" "I" ∈ TT) (hdg : decode cc pc = .ok (.getfield idx, 3)) (k : J lv (.int (fi q 16) :: st) q (pc + 3)) : J lv (.ref (ad 6) :: st) q pc := r_get hR (q0 := 6) (ci := 1) (C := RX1) (T := TX1) (N := 6) hdg (fun _ _ => rfl) rfl fl_X1 5 (by decide) hlink rfl k
theorem p_X1_cutRows {x : Int32} (hR : Rl wC n own cc nL ret ad J P) (hlink : Cond.fieldLink own idx "JoinWays$Hanging" "cutRows" "I" ∈ TT) (hdg : decode cc pc = .ok (.putfield idx, 3)) (hq : q1 = sf q 16 x) (k : J lv st q1 (pc + 3)) : J lv (.int x :: .ref (ad 6) :: st) q pc := r_put hR (q0 := 6) (ci := 1) (C := RX1) (T := TX1) (N := 6) (ty := .int) hdg (fun _ _ => rfl) rfl fl_X1 tyX1 tyX1_ok nmX1 5 (by decide) hlink rfl (by decide +kernel) rfl rfl (Nat.le_of_ble_eq_true rfl) (fun _ _ => by rw [hq]; rfl) k
theorem ld_X7_letterBits {i : Int32} (hR : Rl wC n own cc nL ret ad J P) (hdg : decode cc pc = .ok (.iaload, 1)) (hin : vp_in i 6) (k : J lv (.int (ar q 7 (ix i)) :: st) q (pc + 1)) : J lv (.int i :: .ref (ad 7) :: st) q pc := r_iald hR (q0 := 7) hdg (fun _ _ => rfl) hin k
theorem sv_X7_letterBits {i x : Int32} (hR : Rl wC n own cc nL ret ad J P) (hdg : decode cc pc = .ok (.iastore, 1)) (hin : vp_in i 6) (hq : q1 = sa q 7 (ix i) x) (k : J lv st q1 (pc + 1)) : J lv (.int x :: .int i :: .ref (ad 7) :: st) q pc := r_iast hR (q0 := 7) hdg (fun _ _ => rfl) (fun _ _ => by rw [hq]; rfl) hin k
theorem al_X7_letterBits (hR : Rl wC n own cc nL ret ad J P) (hdg : decode cc pc = .ok (.arraylength, 1)) (k : J lv (.int 6 :: st) q (pc + 1)) : J lv (.ref (ad 7) :: st) q pc := r_alen hR (q0 := 7) (x := fun cI _ => (cI, 6, .inl (ar q 7))) hdg (fun _ _ => rfl) 0 (fun _ _ => rfl) (fun _ _ => rfl) k
theorem ld_X7_perPage {i : Int32} (hR : Rl wC n own cc nL ret ad J P) (hdg : decode cc pc = .ok (.iaload, 1)) (hin : vp_in i 6) (k : J lv (.int (ar q 8 (ix i)) :: st) q (pc + 1)) : J lv (.int i :: .ref (ad 8) :: st) q pc := r_iald hR (q0 := 8) hdg (fun _ _ => rfl) hin k
theorem sv_X7_perPage {i x : Int32} (hR : Rl wC n own cc nL ret ad J P) (hdg : decode cc pc = .ok (.iastore, 1)) (hin : vp_in i 6) (hq : q1 = sa q 8 (ix i) x) (k : J lv st q1 (pc + 1)) : J lv (.int x :: .int i :: .ref (ad 8) :: st) q pc := r_iast hR (q0 := 8) hdg (fun _ _ => rfl) (fun _ _ => by rw [hq]; rfl) hin k
theorem al_X7_perPage (hR : Rl wC n own cc nL ret ad J P) (hdg : decode cc pc = .ok (.arraylength, 1)) (k : J lv (.int 6 :: st) q (pc + 1)) : J lv (.ref (ad 8) :: st) q pc := r_alen hR (q0 := 8) (x := fun cI _ => (cI, 6, .inl (ar q 8))) hdg (fun _ _ => rfl) 0 (fun _ _ => rfl) (fun _ _ => rfl) k
theorem ld_X7_rowCount {i : Int32} (hR : Rl wC n own cc nL ret ad J P) (hdg : decode cc pc = .ok (.iaload, 1)) (hin : vp_in i 6) (k : J lv (.int (ar q 9 (ix i)) :: st) q (pc + 1)) : J lv (.int i :: .ref (ad 9) :: st) q pc := r_iald hR (q0 := 9) hdg (fun _ _ => rfl) hin k
theorem sv_X7_rowCount {i x : Int32} (hR : Rl wC n own cc nL ret ad J P) (hdg : decode cc pc = .ok (.iastore, 1)) (hin : vp_in i 6) (hq : q1 = sa q 9 (ix i) x) (k : J lv st q1 (pc + 1)) : J lv (.int x :: .int i :: .ref (ad 9) :: st) q pc := r_iast hR (q0 := 9) hdg (fun _ _ => rfl) (fun _ _ => by rw [hq]; rfl) hin k
theorem al_X7_rowCount (hR : Rl wC n own cc nL ret ad J P) (hdg : decode cc pc = .ok (.arraylength, 1)) (k : J lv (.int 6 :: st) q (pc + 1)) : J lv (.ref (ad 9) :: st) q pc := r_alen hR (q0 := 9) (x := fun cI _ => (cI, 6, .inl (ar q 9))) hdg (fun _ _ => rfl) 0 (fun _ _ => rfl) (fun _ _ => rfl) k
theorem ld_X7_codes {i : Int32} (hR : Rl wC n own cc nL ret ad J P) (hdg : decode cc pc = .ok (.iaload, 1)) (hin : vp_in i 48) (k : J lv (.int (ar q 10 (ix i)) :: st) q (pc + 1)) : J lv (.int i :: .ref (ad 10) :: st) q pc := r_iald hR (q0 := 10) hdg (fun _ _ => rfl) hin k
theorem sv_X7_codes {i x : Int32} (hR : Rl wC n own cc nL ret ad J P) (hdg : decode cc pc = .ok (.iastore, 1)) (hin : vp_in i 48) (hq : q1 = sa q 10 (ix i) x) (k : J lv st q1 (pc + 1)) : J lv (.int x :: .int i :: .ref (ad 10) :: st) q pc := r_iast hR (q0 := 10) hdg (fun _ _ => rfl) (fun _ _ => by rw [hq]; rfl) hin k
theorem al_X7_codes (hR : Rl wC n own cc nL ret ad J P) (hdg : decode cc pc = .ok (.arraylength, 1)) (k : J lv (.int 48 :: st) q (pc + 1)) : J lv (.ref (ad 10) :: st) q pc := r_alen hR (q0 := 10) (x := fun cI _ => (cI, 48, .inl (ar q 10))) hdg (fun _ _ => rfl) 0 (fun _ _ => rfl) (fun _ _ => rfl) k
theorem ld_X7_sorted {i : Int32} (hR : Rl wC n own cc nL ret ad J P) (hdg : decode cc pc = .ok (.iaload, 1)) (hin : vp_in i 8) (k : J lv (.int (ar q 11 (ix i)) :: st) q (pc + 1)) : J lv (.int i :: .ref (ad 11) :: st) q pc := r_iald hR (q0 := 11) hdg (fun _ _ => rfl) hin k
theorem sv_X7_sorted {i x : Int32} (hR : Rl wC n own cc nL ret ad J P) (hdg : decode cc pc = .ok (.iastore, 1)) (hin : vp_in i 8) (hq : q1 = sa q 11 (ix i) x) (k : J lv st q1 (pc + 1)) : J lv (.int x :: .int i :: .ref (ad 11) :: st) q pc := r_iast hR (q0 := 11) hdg (fun _ _ => rfl) (fun _ _ => by rw [hq]; rfl) hin k
theorem al_X7_sorted (hR : Rl wC n own cc nL ret ad J P) (hdg : decode cc pc = .ok (.arraylength, 1)) (k : J lv (.int 8 :: st) q (pc + 1)) : J lv (.ref (ad 11) :: st) q pc := r_alen hR (q0 := 11) (x := fun cI _ => (cI, 8, .inl (ar q 11))) hdg (fun _ _ => rfl) 0 (fun _ _ => rfl) (fun _ _ => rfl) k
theorem ld_X3_allowed {i : Int32} (hR : Rl wC n own cc nL ret ad J P) (hdg : decode cc pc = .ok (.iaload, 1)) (hin : vp_in i 6) (k : J lv (.int (ar q 12 (ix i)) :: st) q (pc + 1)) : J lv (.int i :: .ref (ad 12) :: st) q pc := r_iald hR (q0 := 12) hdg (fun _ _ => rfl) hin k
theorem sv_X3_allowed {i x : Int32} (hR : Rl wC n own cc nL ret ad J P) (hdg : decode cc pc = .ok (.iastore, 1)) (hin : vp_in i 6) (hq : q1 = sa q 12 (ix i) x) (k : J lv st q1 (pc + 1)) : J lv (.int x :: .int i :: .ref (ad 12) :: st) q pc := r_iast hR (q0 := 12) hdg (fun _ _ => rfl) (fun _ _ => by rw [hq]; rfl) hin k
theorem al_X3_allowed (hR : Rl wC n own cc nL ret ad J P) (hdg : decode cc pc = .ok (.arraylength, 1)) (k : J lv (.int 6 :: st) q (pc + 1)) : J lv (.ref (ad 12) :: st) q pc := r_alen hR (q0 := 12) (x := fun cI _ => (cI, 6, .inl (ar q 12))) hdg (fun _ _ => rfl) 0 (fun _ _ => rfl) (fun _ _ => rfl) k
theorem ld_X3_weight {i : Int32} (hR : Rl wC n own cc nL ret ad J P) (hdg : decode cc pc = .ok (.iaload, 1)) (hin : vp_in i 48) (k : J lv (.int (ar q 13 (ix i)) :: st) q (pc + 1)) : J lv (.int i :: .ref (ad 13) :: st) q pc := r_iald hR (q0 := 13) hdg (fun _ _ => rfl) hin k
theorem sv_X3_weight {i x : Int32} (hR : Rl wC n own cc nL ret ad J P) (hdg : decode cc pc = .ok (.iastore, 1)) (hin : vp_in i 48) (hq : q1 = sa q 13 (ix i) x) (k : J lv st q1 (pc + 1)) : J lv (.int x :: .int i :: .ref (ad 13) :: st) q pc := r_iast hR (q0 := 13) hdg (fun _ _ => rfl) (fun _ _ => by rw [hq]; rfl) hin k
theorem al_X3_weight (hR : Rl wC n own cc nL ret ad J P) (hdg : decode cc pc = .ok (.arraylength, 1)) (k : J lv (.int 48 :: st) q (pc + 1)) : J lv (.ref (ad 13) :: st) q pc := r_alen hR (q0 := 13) (x := fun cI _ => (cI, 48, .inl (ar q 13))) hdg (fun _ _ => rfl) 0 (fun _ _ => rfl) (fun _ _ => rfl) k
theorem ld_X3_boundMask {i : Int32} (hR : Rl wC n own cc nL ret ad J P) (hdg : decode cc pc = .ok (.iaload, 1)) (hin : vp_in i 6) (k : J lv (.int (ar q 14 (ix i)) :: st) q (pc + 1)) : J lv (.int i :: .ref (ad 14) :: st) q pc := r_iald hR (q0 := 14) hdg (fun _ _ => rfl) hin k
theorem sv_X3_boundMask {i x : Int32} (hR : Rl wC n own cc nL ret ad J P) (hdg : decode cc pc = .ok (.iastore, 1)) (hin : vp_in i 6) (hq : q1 = sa q 14 (ix i) x) (k : J lv st q1 (pc + 1)) : J lv (.int x :: .int i :: .ref (ad 14) :: st) q pc := r_iast hR (q0 := 14) hdg (fun _ _ => rfl) (fun _ _ => by rw [hq]; rfl) hin k
theorem al_X3_boundMask (hR : Rl wC n own cc nL ret ad J P) (hdg : decode cc pc = .ok (.arraylength, 1)) (k : J lv (.int 6 :: st) q (pc + 1)) : J lv (.ref (ad 14) :: st) q pc := r_alen hR (q0 := 14) (x := fun cI _ => (cI, 6, .inl (ar q 14))) hdg (fun _ _ => rfl) 0 (fun _ _ => rfl) (fun _ _ => rfl) k
theorem ld_X3_found {i : Int32} (hR : Rl wC n own cc nL ret ad J P) (hdg : decode cc pc = .ok (.iaload, 1)) (hin : vp_in i 6) (k : J lv (.int (ar q 15 (ix i)) :: st) q (pc + 1)) : J lv (.int i :: .ref (ad 15) :: st) q pc := r_iald hR (q0 := 15) hdg (fun _ _ => rfl) hin k
theorem sv_X3_found {i x : Int32} (hR : Rl wC n own cc nL ret ad J P) (hdg : decode cc pc = .ok (.iastore, 1)) (hin : vp_in i 6) (hq : q1 = sa q 15 (ix i) x) (k : J lv st q1 (pc + 1)) : J lv (.int x :: .int i :: .ref (ad 15) :: st) q pc := r_iast hR (q0 := 15) hdg (fun _ _ => rfl) (fun _ _ => by rw [hq]; rfl) hin k
theorem al_X3_found (hR : Rl wC n own cc nL ret ad J P) (hdg : decode cc pc = .ok (.arraylength, 1)) (k : J lv (.int 6 :: st) q (pc + 1)) : J lv (.ref (ad 15) :: st) q pc := r_alen hR (q0 := 15) (x := fun cI _ => (cI, 6, .inl (ar q 15))) hdg (fun _ _ => rfl) 0 (fun _ _ => rfl) (fun _ _ => rfl) k
theorem ld_X6_signs {i : Int32} (hR : Rl wC n own cc nL ret ad J P) (hdg : decode cc pc = .ok (.iaload, 1)) (hin : vp_in i 40) (k : J lv (.int (ar q 16 (ix i)) :: st) q (pc + 1)) : J lv (.int i :: .ref (ad 16) :: st) q pc := r_iald hR (q0 := 16) hdg (fun _ _ => rfl) hin k
theorem sv_X6_signs {i x : Int32} (hR : Rl wC n own cc nL ret ad J P) (hdg : decode cc pc = .ok (.iastore, 1)) (hin : vp_in i 40) (hq : q1 = sa q 16 (ix i) x) (k : J lv st q1 (pc + 1)) : J lv (.int x :: .int i :: .ref (ad 16) :: st) q pc := r_iast hR (q0 := 16) hdg (fun _ _ => rfl) (fun _ _ => by rw [hq]; rfl) hin k
theorem al_X6_signs (hR : Rl wC n own cc nL ret ad J P) (hdg : decode cc pc = .ok (.arraylength, 1)) (k : J lv (.int 40 :: st) q (pc + 1)) : J lv (.ref (ad 16) :: st) q pc := r_alen hR (q0 := 16) (x := fun cI _ => (cI, 40, .inl (ar q 16))) hdg (fun _ _ => rfl) 0 (fun _ _ => rfl) (fun _ _ => rfl) k
theorem ld_X2_sets {i : Int32} (hR : Rl wC n own cc nL ret ad J P) (hdg : decode cc pc = .ok (.iaload, 1)) (hin : vp_in i 6) (k : J lv (.int (ar q 17 (ix i)) :: st) q (pc + 1)) : J lv (.int i :: .ref (ad 17) :: st) q pc := r_iald hR (q0 := 17) hdg (fun _ _ => rfl) hin k
theorem sv_X2_sets {i x : Int32} (hR : Rl wC n own cc nL ret ad J P) (hdg : decode cc pc = .ok (.iastore, 1)) (hin : vp_in i 6) (hq : q1 = sa q 17 (ix i) x) (k : J lv st q1 (pc + 1)) : J lv (.int x :: .int i :: .ref (ad 17) :: st) q pc := r_iast hR (q0 := 17) hdg (fun _ _ => rfl) (fun _ _ => by rw [hq]; rfl) hin k
theorem al_X2_sets (hR : Rl wC n own cc nL ret ad J P) (hdg : decode cc pc = .ok (.arraylength, 1)) (k : J lv (.int 6 :: st) q (pc + 1)) : J lv (.ref (ad 17) :: st) q pc := r_alen hR (q0 := 17) (x := fun cI _ => (cI, 6, .inl (ar q 17))) hdg (fun _ _ => rfl) 0 (fun _ _ => rfl) (fun _ _ => rfl) k
theorem ld_X2_costs {i : Int32} (hR : Rl wC n own cc nL ret ad J P) (hdg : decode cc pc = .ok (.iaload, 1)) (hin : vp_in i 6) (k : J lv (.int (ar q 18 (ix i)) :: st) q (pc + 1)) : J lv (.int i :: .ref (ad 18) :: st) q pc := r_iald hR (q0 := 18) hdg (fun _ _ => rfl) hin k
theorem sv_X2_costs {i x : Int32} (hR : Rl wC n own cc nL ret ad J P) (hdg : decode cc pc = .ok (.iastore, 1)) (hin : vp_in i 6) (hq : q1 = sa q 18 (ix i) x) (k : J lv st q1 (pc + 1)) : J lv (.int x :: .int i :: .ref (ad 18) :: st) q pc := r_iast hR (q0 := 18) hdg (fun _ _ => rfl) (fun _ _ => by rw [hq]; rfl) hin k
theorem al_X2_costs (hR : Rl wC n own cc nL ret ad J P) (hdg : decode cc pc = .ok (.arraylength, 1)) (k : J lv (.int 6 :: st) q (pc + 1)) : J lv (.ref (ad 18) :: st) q pc := r_alen hR (q0 := 18) (x := fun cI _ => (cI, 6, .inl (ar q 18))) hdg (fun _ _ => rfl) 0 (fun _ _ => rfl) (fun _ _ => rfl) k
theorem ld_X2_orders {i : Int32} (hR : Rl wC n own cc nL ret ad J P) (hdg : decode cc pc = .ok (.iaload, 1)) (hin : vp_in i 6) (k : J lv (.int (ar q 19 (ix i)) :: st) q (pc + 1)) : J lv (.int i :: .ref (ad 19) :: st) q pc := r_iald hR (q0 := 19) hdg (fun _ _ => rfl) hin k
theorem sv_X2_orders {i x : Int32} (hR : Rl wC n own cc nL ret ad J P) (hdg : decode cc pc = .ok (.iastore, 1)) (hin : vp_in i 6) (hq : q1 = sa q 19 (ix i) x) (k : J lv st q1 (pc + 1)) : J lv (.int x :: .int i :: .ref (ad 19) :: st) q pc := r_iast hR (q0 := 19) hdg (fun _ _ => rfl) (fun _ _ => by rw [hq]; rfl) hin k
theorem al_X2_orders (hR : Rl wC n own cc nL ret ad J P) (hdg : decode cc pc = .ok (.arraylength, 1)) (k : J lv (.int 6 :: st) q (pc + 1)) : J lv (.ref (ad 19) :: st) q pc := r_alen hR (q0 := 19) (x := fun cI _ => (cI, 6, .inl (ar q 19))) hdg (fun _ _ => rfl) 0 (fun _ _ => rfl) (fun _ _ => rfl) k
theorem ld_X2_pageCounts {i : Int32} (hR : Rl wC n own cc nL ret ad J P) (hdg : decode cc pc = .ok (.iaload, 1)) (hin : vp_in i 6) (k : J lv (.int (ar q 20 (ix i)) :: st) q (pc + 1)) : J lv (.int i :: .ref (ad 20) :: st) q pc := r_iald hR (q0 := 20) hdg (fun _ _ => rfl) hin k
theorem sv_X2_pageCounts {i x : Int32} (hR : Rl wC n own cc nL ret ad J P) (hdg : decode cc pc = .ok (.iastore, 1)) (hin : vp_in i 6) (hq : q1 = sa q 20 (ix i) x) (k : J lv st q1 (pc + 1)) : J lv (.int x :: .int i :: .ref (ad 20) :: st) q pc := r_iast hR (q0 := 20) hdg (fun _ _ => rfl) (fun _ _ => by rw [hq]; rfl) hin k
theorem al_X2_pageCounts (hR : Rl wC n own cc nL ret ad J P) (hdg : decode cc pc = .ok (.arraylength, 1)) (k : J lv (.int 6 :: st) q (pc + 1)) : J lv (.ref (ad 20) :: st) q pc := r_alen hR (q0 := 20) (x := fun cI _ => (cI, 6, .inl (ar q 20))) hdg (fun _ _ => rfl) 0 (fun _ _ => rfl) (fun _ _ => rfl) k
theorem ld_X2_ways {i : Int32} (hR : Rl wC n own cc nL ret ad J P) (hdg : decode cc pc = .ok (.iaload, 1)) (hin : vp_in i 6) (k : J lv (.int (ar q 21 (ix i)) :: st) q (pc + 1)) : J lv (.int i :: .ref (ad 21) :: st) q pc := r_iald hR (q0 := 21) hdg (fun _ _ => rfl) hin k
theorem sv_X2_ways {i x : Int32} (hR : Rl wC n own cc nL ret ad J P) (hdg : decode cc pc = .ok (.iastore, 1)) (hin : vp_in i 6) (hq : q1 = sa q 21 (ix i) x) (k : J lv st q1 (pc + 1)) : J lv (.int x :: .int i :: .ref (ad 21) :: st) q pc := r_iast hR (q0 := 21) hdg (fun _ _ => rfl) (fun _ _ => by rw [hq]; rfl) hin k
theorem al_X2_ways (hR : Rl wC n own cc nL ret ad J P) (hdg : decode cc pc = .ok (.arraylength, 1)) (k : J lv (.int 6 :: st) q (pc + 1)) : J lv (.ref (ad 21) :: st) q pc := r_alen hR (q0 := 21) (x := fun cI _ => (cI, 6, .inl (ar q 21))) hdg (fun _ _ => rfl) 0 (fun _ _ => rfl) (fun _ _ => rfl) k
theorem ld_X0_costs {i : Int32} (hR : Rl wC n own cc nL ret ad J P) (hdg : decode cc pc = .ok (.iaload, 1)) (hin : vp_in i 576) (k : J lv (.int (ar q 22 (ix i)) :: st) q (pc + 1)) : J lv (.int i :: .ref (ad 22) :: st) q pc := r_iald hR (q0 := 22) hdg (fun _ _ => rfl) hin k
theorem sv_X0_costs {i x : Int32} (hR : Rl wC n own cc nL ret ad J P) (hdg : decode cc pc = .ok (.iastore, 1)) (hin : vp_in i 576) (hq : q1 = sa q 22 (ix i) x) (k : J lv st q1 (pc + 1)) : J lv (.int x :: .int i :: .ref (ad 22) :: st) q pc := r_iast hR (q0 := 22) hdg (fun _ _ => rfl) (fun _ _ => by rw [hq]; rfl) hin k
theorem al_X0_costs (hR : Rl wC n own cc nL ret ad J P) (hdg : decode cc pc = .ok (.arraylength, 1)) (k : J lv (.int 576 :: st) q (pc + 1)) : J lv (.ref (ad 22) :: st) q pc := r_alen hR (q0 := 22) (x := fun cI _ => (cI, 576, .inl (ar q 22))) hdg (fun _ _ => rfl) 0 (fun _ _ => rfl) (fun _ _ => rfl) k
theorem ld_X0_keys {i : Int32} (hR : Rl wC n own cc nL ret ad J P) (hdg : decode cc pc = .ok (.laload, 1)) (hin : vp_in i 576) (k : J lv (.long (lo q (ix i)) :: st) q (pc + 1)) : J lv (.int i :: .ref (ad 23) :: st) q pc := r_lald hR (q0 := 23) hdg (fun _ _ => rfl) hin k
theorem sv_X0_keys {i : Int32} {x : Int64} (hR : Rl wC n own cc nL ret ad J P) (hdg : decode cc pc = .ok (.lastore, 1)) (hin : vp_in i 576) (hq : q1 = sl q (ix i) x) (k : J lv st q1 (pc + 1)) : J lv (.long x :: .int i :: .ref (ad 23) :: st) q pc := r_last hR (q0 := 23) hdg (fun _ _ => rfl) (fun _ _ => by rw [hq]; rfl) hin k
theorem ld_X0_pageCounts {i : Int32} (hR : Rl wC n own cc nL ret ad J P) (hdg : decode cc pc = .ok (.iaload, 1)) (hin : vp_in i 64) (k : J lv (.int (ar q 24 (ix i)) :: st) q (pc + 1)) : J lv (.int i :: .ref (ad 24) :: st) q pc := r_iald hR (q0 := 24) hdg (fun _ _ => rfl) hin k
theorem sv_X0_pageCounts {i x : Int32} (hR : Rl wC n own cc nL ret ad J P) (hdg : decode cc pc = .ok (.iastore, 1)) (hin : vp_in i 64) (hq : q1 = sa q 24 (ix i) x) (k : J lv st q1 (pc + 1)) : J lv (.int x :: .int i :: .ref (ad 24) :: st) q pc := r_iast hR (q0 := 24) hdg (fun _ _ => rfl) (fun _ _ => by rw [hq]; rfl) hin k
theorem al_X0_pageCounts (hR : Rl wC n own cc nL ret ad J P) (hdg : decode cc pc = .ok (.arraylength, 1)) (k : J lv (.int 64 :: st) q (pc + 1)) : J lv (.ref (ad 24) :: st) q pc := r_alen hR (q0 := 24) (x := fun cI _ => (cI, 64, .inl (ar q 24))) hdg (fun _ _ => rfl) 0 (fun _ _ => rfl) (fun _ _ => rfl) k
theorem ld_X0_sortings {i : Int32} (hR : Rl wC n own cc nL ret ad J P) (hdg : decode cc pc = .ok (.iaload, 1)) (hin : vp_in i 64) (k : J lv (.int (ar q 25 (ix i)) :: st) q (pc + 1)) : J lv (.int i :: .ref (ad 25) :: st) q pc := r_iald hR (q0 := 25) hdg (fun _ _ => rfl) hin k
theorem sv_X0_sortings {i x : Int32} (hR : Rl wC n own cc nL ret ad J P) (hdg : decode cc pc = .ok (.iastore, 1)) (hin : vp_in i 64) (hq : q1 = sa q 25 (ix i) x) (k : J lv st q1 (pc + 1)) : J lv (.int x :: .int i :: .ref (ad 25) :: st) q pc := r_iast hR (q0 := 25) hdg (fun _ _ => rfl) (fun _ _ => by rw [hq]; rfl) hin k
theorem al_X0_sortings (hR : Rl wC n own cc nL ret ad J P) (hdg : decode cc pc = .ok (.arraylength, 1)) (k : J lv (.int 64 :: st) q (pc + 1)) : J lv (.ref (ad 25) :: st) q pc := r_alen hR (q0 := 25) (x := fun cI _ => (cI, 64, .inl (ar q 25))) hdg (fun _ _ => rfl) 0 (fun _ _ => rfl) (fun _ _ => rfl) k
theorem ld_X0_text {i : Int32} (hR : Rl wC n own cc nL ret ad J P) (hdg : decode cc pc = .ok (.iaload, 1)) (hin : vp_in i 21) (k : J lv (.int (ar q 26 (ix i)) :: st) q (pc + 1)) : J lv (.int i :: .ref (ad 26) :: st) q pc := r_iald hR (q0 := 26) hdg (fun _ _ => rfl) hin k
theorem sv_X0_text {i x : Int32} (hR : Rl wC n own cc nL ret ad J P) (hdg : decode cc pc = .ok (.iastore, 1)) (hin : vp_in i 21) (hq : q1 = sa q 26 (ix i) x) (k : J lv st q1 (pc + 1)) : J lv (.int x :: .int i :: .ref (ad 26) :: st) q pc := r_iast hR (q0 := 26) hdg (fun _ _ => rfl) (fun _ _ => by rw [hq]; rfl) hin k
theorem al_X0_text (hR : Rl wC n own cc nL ret ad J P) (hdg : decode cc pc = .ok (.arraylength, 1)) (k : J lv (.int 21 :: st) q (pc + 1)) : J lv (.ref (ad 26) :: st) q pc := r_alen hR (q0 := 26) (x := fun cI _ => (cI, 21, .inl (ar q 26))) hdg (fun _ _ => rfl) 0 (fun _ _ => rfl) (fun _ _ => rfl) k
theorem ld_X1_order {i : Int32} (hR : Rl wC n own cc nL ret ad J P) (hdg : decode cc pc = .ok (.iaload, 1)) (hin : vp_in i 6) (k : J lv (.int (ar q 27 (ix i)) :: st) q (pc + 1)) : J lv (.int i :: .ref (ad 27) :: st) q pc := r_iald hR (q0 := 27) hdg (fun _ _ => rfl) hin k
theorem sv_X1_order {i x : Int32} (hR : Rl wC n own cc nL ret ad J P) (hdg : decode cc pc = .ok (.iastore, 1)) (hin : vp_in i 6) (hq : q1 = sa q 27 (ix i) x) (k : J lv st q1 (pc + 1)) : J lv (.int x :: .int i :: .ref (ad 27) :: st) q pc := r_iast hR (q0 := 27) hdg (fun _ _ => rfl) (fun _ _ => by rw [hq]; rfl) hin k
theorem al_X1_order (hR : Rl wC n own cc nL ret ad J P) (hdg : decode cc pc = .ok (.arraylength, 1)) (k : J lv (.int 6 :: st) q (pc + 1)) : J lv (.ref (ad 27) :: st) q pc := r_alen hR (q0 := 27) (x := fun cI _ => (cI, 6, .inl (ar q 27))) hdg (fun _ _ => rfl) 0 (fun _ _ => rfl) (fun _ _ => rfl) k
theorem ld_X1_hooks {i : Int32} (hR : Rl wC n own cc nL ret ad J P) (hdg : decode cc pc = .ok (.iaload, 1)) (hin : vp_in i 6) (k : J lv (.int (ar q 28 (ix i)) :: st) q (pc + 1)) : J lv (.int i :: .ref (ad 28) :: st) q pc := r_iald hR (q0 := 28) hdg (fun _ _ => rfl) hin k
theorem sv_X1_hooks {i x : Int32} (hR : Rl wC n own cc nL ret ad J P) (hdg : decode cc pc = .ok (.iastore, 1)) (hin : vp_in i 6) (hq : q1 = sa q 28 (ix i) x) (k : J lv st q1 (pc + 1)) : J lv (.int x :: .int i :: .ref (ad 28) :: st) q pc := r_iast hR (q0 := 28) hdg (fun _ _ => rfl) (fun _ _ => by rw [hq]; rfl) hin k
theorem al_X1_hooks (hR : Rl wC n own cc nL ret ad J P) (hdg : decode cc pc = .ok (.arraylength, 1)) (k : J lv (.int 6 :: st) q (pc + 1)) : J lv (.ref (ad 28) :: st) q pc := r_alen hR (q0 := 28) (x := fun cI _ => (cI, 6, .inl (ar q 28))) hdg (fun _ _ => rfl) 0 (fun _ _ => rfl) (fun _ _ => rfl) k
theorem ld_X1_rowBits {i : Int32} (hR : Rl wC n own cc nL ret ad J P) (hdg : decode cc pc = .ok (.iaload, 1)) (hin : vp_in i 6) (k : J lv (.int (ar q 29 (ix i)) :: st) q (pc + 1)) : J lv (.int i :: .ref (ad 29) :: st) q pc := r_iald hR (q0 := 29) hdg (fun _ _ => rfl) hin k
theorem sv_X1_rowBits {i x : Int32} (hR : Rl wC n own cc nL ret ad J P) (hdg : decode cc pc = .ok (.iastore, 1)) (hin : vp_in i 6) (hq : q1 = sa q 29 (ix i) x) (k : J lv st q1 (pc + 1)) : J lv (.int x :: .int i :: .ref (ad 29) :: st) q pc := r_iast hR (q0 := 29) hdg (fun _ _ => rfl) (fun _ _ => by rw [hq]; rfl) hin k
theorem al_X1_rowBits (hR : Rl wC n own cc nL ret ad J P) (hdg : decode cc pc = .ok (.arraylength, 1)) (k : J lv (.int 6 :: st) q (pc + 1)) : J lv (.ref (ad 29) :: st) q pc := r_alen hR (q0 := 29) (x := fun cI _ => (cI, 6, .inl (ar q 29))) hdg (fun _ _ => rfl) 0 (fun _ _ => rfl) (fun _ _ => rfl) k
theorem rc_X9 (ad : Nat → Nat) (q : SS) : ∀ cI cJ, ∃ fs, (wM ad cI cJ q)[0]? = some (ad 0, .inr (7, fs)) := fun _ _ => ⟨_, rfl⟩
theorem g_X9_tables (hR : Rl wM n own cc nL ret ad J P) (hlink : Cond.fieldLink own idx "JoinWaysModel" "tables" "I" ∈ TT) (hdg : decode cc pc = .ok (.getfield idx, 3)) (k : J lv (.int (fi q 0) :: st) q (pc + 3)) : J lv (.ref (ad 0) :: st) q pc := r_get hR (q0 := 0) (ci := 7) (C := RX9) (T := TX9) (N := 40) hdg (fun _ _ => rfl) rfl fl_X9 0 (by decide) hlink rfl k
theorem p_X9_tables {x : Int32} (hR : Rl wM n own cc nL ret ad J P) (hlink : Cond.fieldLink own idx "JoinWaysModel" "tables" "I" ∈ TT) (hdg : decode cc pc = .ok (.putfield idx, 3)) (hq : q1 = sf q 0 x) (k : J lv st q1 (pc + 3)) : J lv (.int x :: .ref (ad 0) :: st) q pc := r_put hR (q0 := 0) (ci := 7) (C := RX9) (T := TX9) (N := 40) (ty := .int) hdg (fun _ _ => rfl) rfl fl_X9 tyX9 tyX9_ok nmX9 0 (by decide) hlink rfl (by decide +kernel) rfl rfl (Nat.le_of_ble_eq_true rfl) (fun _ _ => by rw [hq]; rfl) k
theorem g_X9_lettersOf (hR : Rl wM n own cc nL ret ad J P) (hlink : Cond.fieldLink own idx "JoinWaysModel" "lettersOf" "[I" ∈ TT) (hdg : decode cc pc = .ok (.getfield idx, 3)) (k : J lv (.ref (ad 1) :: st) q (pc + 3)) : J lv (.ref (ad 0) :: st) q pc := r_get hR (q0 := 0) (ci := 7) (C := RX9) (T := TX9) (N := 40) hdg (fun _ _ => rfl) rfl fl_X9 1 (by decide) hlink rfl k
theorem g_X9_pers (hR : Rl wM n own cc nL ret ad J P) (hlink : Cond.fieldLink own idx "JoinWaysModel" "pers" "[I" ∈ TT) (hdg : decode cc pc = .ok (.getfield idx, 3)) (k : J lv (.ref (ad 2) :: st) q (pc + 3)) : J lv (.ref (ad 0) :: st) q pc := r_get hR (q0 := 0) (ci := 7) (C := RX9) (T := TX9) (N := 40) hdg (fun _ _ => rfl) rfl fl_X9 2 (by decide) hlink rfl k
theorem g_X9_rows (hR : Rl wM n own cc nL ret ad J P) (hlink : Cond.fieldLink own idx "JoinWaysModel" "rows" "[I" ∈ TT) (hdg : decode cc pc = .ok (.getfield idx, 3)) (k : J lv (.ref (ad 3) :: st) q (pc + 3)) : J lv (.ref (ad 0) :: st) q pc := r_get hR (q0 := 0) (ci := 7) (C := RX9) (T := TX9) (N := 40) hdg (fun _ _ => rfl) rfl fl_X9 3 (by decide) hlink rfl k
theorem g_X9_numbers (hR : Rl wM n own cc nL ret ad J P) (hlink : Cond.fieldLink own idx "JoinWaysModel" "numbers" "[I" ∈ TT) (hdg : decode cc pc = .ok (.getfield idx, 3)) (k : J lv (.ref (ad 4) :: st) q (pc + 3)) : J lv (.ref (ad 0) :: st) q pc := r_get hR (q0 := 0) (ci := 7) (C := RX9) (T := TX9) (N := 40) hdg (fun _ _ => rfl) rfl fl_X9 4 (by decide) hlink rfl k
theorem g_X9_wide (hR : Rl wM n own cc nL ret ad J P) (hlink : Cond.fieldLink own idx "JoinWaysModel" "wide" "I" ∈ TT) (hdg : decode cc pc = .ok (.getfield idx, 3)) (k : J lv (.int (fi q 1) :: st) q (pc + 3)) : J lv (.ref (ad 0) :: st) q pc := r_get hR (q0 := 0) (ci := 7) (C := RX9) (T := TX9) (N := 40) hdg (fun _ _ => rfl) rfl fl_X9 5 (by decide) hlink rfl k
theorem p_X9_wide {x : Int32} (hR : Rl wM n own cc nL ret ad J P) (hlink : Cond.fieldLink own idx "JoinWaysModel" "wide" "I" ∈ TT) (hdg : decode cc pc = .ok (.putfield idx, 3)) (hq : q1 = sf q 1 x) (k : J lv st q1 (pc + 3)) : J lv (.int x :: .ref (ad 0) :: st) q pc := r_put hR (q0 := 0) (ci := 7) (C := RX9) (T := TX9) (N := 40) (ty := .int) hdg (fun _ _ => rfl) rfl fl_X9 tyX9 tyX9_ok nmX9 5 (by decide) hlink rfl (by decide +kernel) rfl rfl (Nat.le_of_ble_eq_true rfl) (fun _ _ => by rw [hq]; rfl) k
theorem g_X9_memory (hR : Rl wM n own cc nL ret ad J P) (hlink : Cond.fieldLink own idx "JoinWaysModel" "memory" "I" ∈ TT) (hdg : decode cc pc = .ok (.getfield idx, 3)) (k : J lv (.int (fi q 2) :: st) q (pc + 3)) : J lv (.ref (ad 0) :: st) q pc := r_get hR (q0 := 0) (ci := 7) (C := RX9) (T := TX9) (N := 40) hdg (fun _ _ => rfl) rfl fl_X9 6 (by decide) hlink rfl k
theorem p_X9_memory {x : Int32} (hR : Rl wM n own cc nL ret ad J P) (hlink : Cond.fieldLink own idx "JoinWaysModel" "memory" "I" ∈ TT) (hdg : decode cc pc = .ok (.putfield idx, 3)) (hq : q1 = sf q 2 x) (k : J lv st q1 (pc + 3)) : J lv (.int x :: .ref (ad 0) :: st) q pc := r_put hR (q0 := 0) (ci := 7) (C := RX9) (T := TX9) (N := 40) (ty := .int) hdg (fun _ _ => rfl) rfl fl_X9 tyX9 tyX9_ok nmX9 6 (by decide) hlink rfl (by decide +kernel) rfl rfl (Nat.le_of_ble_eq_true rfl) (fun _ _ => by rw [hq]; rfl) k
theorem g_X9_drawn (hR : Rl wM n own cc nL ret ad J P) (hlink : Cond.fieldLink own idx "JoinWaysModel" "drawn" "[I" ∈ TT) (hdg : decode cc pc = .ok (.getfield idx, 3)) (k : J lv (.ref (ad 5) :: st) q (pc + 3)) : J lv (.ref (ad 0) :: st) q pc := r_get hR (q0 := 0) (ci := 7) (C := RX9) (T := TX9) (N := 40) hdg (fun _ _ => rfl) rfl fl_X9 7 (by decide) hlink rfl k
theorem g_X9_order (hR : Rl wM n own cc nL ret ad J P) (hlink : Cond.fieldLink own idx "JoinWaysModel" "order" "[I" ∈ TT) (hdg : decode cc pc = .ok (.getfield idx, 3)) (k : J lv (.ref (ad 6) :: st) q (pc + 3)) : J lv (.ref (ad 0) :: st) q pc := r_get hR (q0 := 0) (ci := 7) (C := RX9) (T := TX9) (N := 40) hdg (fun _ _ => rfl) rfl fl_X9 8 (by decide) hlink rfl k
theorem g_X9_held (hR : Rl wM n own cc nL ret ad J P) (hlink : Cond.fieldLink own idx "JoinWaysModel" "held" "[I" ∈ TT) (hdg : decode cc pc = .ok (.getfield idx, 3)) (k : J lv (.ref (ad 7) :: st) q (pc + 3)) : J lv (.ref (ad 0) :: st) q pc := r_get hR (q0 := 0) (ci := 7) (C := RX9) (T := TX9) (N := 40) hdg (fun _ _ => rfl) rfl fl_X9 9 (by decide) hlink rfl k
theorem g_X9_isCounted (hR : Rl wM n own cc nL ret ad J P) (hlink : Cond.fieldLink own idx "JoinWaysModel" "isCounted" "Z" ∈ TT) (hdg : decode cc pc = .ok (.getfield idx, 3)) (k : J lv (.int (fi q 3) :: st) q (pc + 3)) : J lv (.ref (ad 0) :: st) q pc := r_get hR (q0 := 0) (ci := 7) (C := RX9) (T := TX9) (N := 40) hdg (fun _ _ => rfl) rfl fl_X9 10 (by decide) hlink rfl k
theorem p_X9_isCounted {x : Int32} (hR : Rl wM n own cc nL ret ad J P) (hlink : Cond.fieldLink own idx "JoinWaysModel" "isCounted" "Z" ∈ TT) (hdg : decode cc pc = .ok (.putfield idx, 3)) (hz : x = 0 ∨ x = 1) (hq : q1 = sf q 3 x) (k : J lv st q1 (pc + 3)) : J lv (.int x :: .ref (ad 0) :: st) q pc := r_put hR (q0 := 0) (ci := 7) (C := RX9) (T := TX9) (N := 40) (ty := .boolean) hdg (fun _ _ => rfl) rfl fl_X9 tyX9 tyX9_ok nmX9 10 (by decide) hlink rfl (by decide +kernel) (by rcases hz with rfl | rfl <;> rfl) (by rcases hz with rfl | rfl <;> rfl) (Nat.le_of_ble_eq_true rfl) (fun _ _ => by rw [hq]; rfl) k
theorem g_X9_trueSizes (hR : Rl wM n own cc nL ret ad J P) (hlink : Cond.fieldLink own idx "JoinWaysModel" "trueSizes" "[I" ∈ TT) (hdg : decode cc pc = .ok (.getfield idx, 3)) (k : J lv (.ref (ad 8) :: st) q (pc + 3)) : J lv (.ref (ad 0) :: st) q pc := r_get hR (q0 := 0) (ci := 7) (C := RX9) (T := TX9) (N := 40) hdg (fun _ _ => rfl) rfl fl_X9 11 (by decide) hlink rfl k
theorem g_X9_members (hR : Rl wM n own cc nL ret ad J P) (hlink : Cond.fieldLink own idx "JoinWaysModel" "members" "[I" ∈ TT) (hdg : decode cc pc = .ok (.getfield idx, 3)) (k : J lv (.ref (ad 9) :: st) q (pc + 3)) : J lv (.ref (ad 0) :: st) q pc := r_get hR (q0 := 0) (ci := 7) (C := RX9) (T := TX9) (N := 40) hdg (fun _ _ => rfl) rfl fl_X9 12 (by decide) hlink rfl k
theorem g_X9_memberMany (hR : Rl wM n own cc nL ret ad J P) (hlink : Cond.fieldLink own idx "JoinWaysModel" "memberMany" "I" ∈ TT) (hdg : decode cc pc = .ok (.getfield idx, 3)) (k : J lv (.int (fi q 4) :: st) q (pc + 3)) : J lv (.ref (ad 0) :: st) q pc := r_get hR (q0 := 0) (ci := 7) (C := RX9) (T := TX9) (N := 40) hdg (fun _ _ => rfl) rfl fl_X9 13 (by decide) hlink rfl k
theorem p_X9_memberMany {x : Int32} (hR : Rl wM n own cc nL ret ad J P) (hlink : Cond.fieldLink own idx "JoinWaysModel" "memberMany" "I" ∈ TT) (hdg : decode cc pc = .ok (.putfield idx, 3)) (hq : q1 = sf q 4 x) (k : J lv st q1 (pc + 3)) : J lv (.int x :: .ref (ad 0) :: st) q pc := r_put hR (q0 := 0) (ci := 7) (C := RX9) (T := TX9) (N := 40) (ty := .int) hdg (fun _ _ => rfl) rfl fl_X9 tyX9 tyX9_ok nmX9 13 (by decide) hlink rfl (by decide +kernel) rfl rfl (Nat.le_of_ble_eq_true rfl) (fun _ _ => by rw [hq]; rfl) k
theorem g_X9_chosen (hR : Rl wM n own cc nL ret ad J P) (hlink : Cond.fieldLink own idx "JoinWaysModel" "chosen" "[I" ∈ TT) (hdg : decode cc pc = .ok (.getfield idx, 3)) (k : J lv (.ref (ad 10) :: st) q (pc + 3)) : J lv (.ref (ad 0) :: st) q pc := r_get hR (q0 := 0) (ci := 7) (C := RX9) (T := TX9) (N := 40) hdg (fun _ _ => rfl) rfl fl_X9 14 (by decide) hlink rfl k
theorem g_X9_page (hR : Rl wM n own cc nL ret ad J P) (hlink : Cond.fieldLink own idx "JoinWaysModel" "page" "[I" ∈ TT) (hdg : decode cc pc = .ok (.getfield idx, 3)) (k : J lv (.ref (ad 11) :: st) q (pc + 3)) : J lv (.ref (ad 0) :: st) q pc := r_get hR (q0 := 0) (ci := 7) (C := RX9) (T := TX9) (N := 40) hdg (fun _ _ => rfl) rfl fl_X9 15 (by decide) hlink rfl k
theorem g_X9_pageMany (hR : Rl wM n own cc nL ret ad J P) (hlink : Cond.fieldLink own idx "JoinWaysModel" "pageMany" "I" ∈ TT) (hdg : decode cc pc = .ok (.getfield idx, 3)) (k : J lv (.int (fi q 5) :: st) q (pc + 3)) : J lv (.ref (ad 0) :: st) q pc := r_get hR (q0 := 0) (ci := 7) (C := RX9) (T := TX9) (N := 40) hdg (fun _ _ => rfl) rfl fl_X9 16 (by decide) hlink rfl k
theorem p_X9_pageMany {x : Int32} (hR : Rl wM n own cc nL ret ad J P) (hlink : Cond.fieldLink own idx "JoinWaysModel" "pageMany" "I" ∈ TT) (hdg : decode cc pc = .ok (.putfield idx, 3)) (hq : q1 = sf q 5 x) (k : J lv st q1 (pc + 3)) : J lv (.int x :: .ref (ad 0) :: st) q pc := r_put hR (q0 := 0) (ci := 7) (C := RX9) (T := TX9) (N := 40) (ty := .int) hdg (fun _ _ => rfl) rfl fl_X9 tyX9 tyX9_ok nmX9 16 (by decide) hlink rfl (by decide +kernel) rfl rfl (Nat.le_of_ble_eq_true rfl) (fun _ _ => by rw [hq]; rfl) k
theorem g_X9_open (hR : Rl wM n own cc nL ret ad J P) (hlink : Cond.fieldLink own idx "JoinWaysModel" "open" "[I" ∈ TT) (hdg : decode cc pc = .ok (.getfield idx, 3)) (k : J lv (.ref (ad 12) :: st) q (pc + 3)) : J lv (.ref (ad 0) :: st) q pc := r_get hR (q0 := 0) (ci := 7) (C := RX9) (T := TX9) (N := 40) hdg (fun _ _ => rfl) rfl fl_X9 17 (by decide) hlink rfl k
theorem g_X9_depth (hR : Rl wM n own cc nL ret ad J P) (hlink : Cond.fieldLink own idx "JoinWaysModel" "depth" "I" ∈ TT) (hdg : decode cc pc = .ok (.getfield idx, 3)) (k : J lv (.int (fi q 6) :: st) q (pc + 3)) : J lv (.ref (ad 0) :: st) q pc := r_get hR (q0 := 0) (ci := 7) (C := RX9) (T := TX9) (N := 40) hdg (fun _ _ => rfl) rfl fl_X9 18 (by decide) hlink rfl k
theorem p_X9_depth {x : Int32} (hR : Rl wM n own cc nL ret ad J P) (hlink : Cond.fieldLink own idx "JoinWaysModel" "depth" "I" ∈ TT) (hdg : decode cc pc = .ok (.putfield idx, 3)) (hq : q1 = sf q 6 x) (k : J lv st q1 (pc + 3)) : J lv (.int x :: .ref (ad 0) :: st) q pc := r_put hR (q0 := 0) (ci := 7) (C := RX9) (T := TX9) (N := 40) (ty := .int) hdg (fun _ _ => rfl) rfl fl_X9 tyX9 tyX9_ok nmX9 18 (by decide) hlink rfl (by decide +kernel) rfl rfl (Nat.le_of_ble_eq_true rfl) (fun _ _ => by rw [hq]; rfl) k
theorem g_X9_used (hR : Rl wM n own cc nL ret ad J P) (hlink : Cond.fieldLink own idx "JoinWaysModel" "used" "I" ∈ TT) (hdg : decode cc pc = .ok (.getfield idx, 3)) (k : J lv (.int (fi q 7) :: st) q (pc + 3)) : J lv (.ref (ad 0) :: st) q pc := r_get hR (q0 := 0) (ci := 7) (C := RX9) (T := TX9) (N := 40) hdg (fun _ _ => rfl) rfl fl_X9 19 (by decide) hlink rfl k
theorem p_X9_used {x : Int32} (hR : Rl wM n own cc nL ret ad J P) (hlink : Cond.fieldLink own idx "JoinWaysModel" "used" "I" ∈ TT) (hdg : decode cc pc = .ok (.putfield idx, 3)) (hq : q1 = sf q 7 x) (k : J lv st q1 (pc + 3)) : J lv (.int x :: .ref (ad 0) :: st) q pc := r_put hR (q0 := 0) (ci := 7) (C := RX9) (T := TX9) (N := 40) (ty := .int) hdg (fun _ _ => rfl) rfl fl_X9 tyX9 tyX9_ok nmX9 19 (by decide) hlink rfl (by decide +kernel) rfl rfl (Nat.le_of_ble_eq_true rfl) (fun _ _ => by rw [hq]; rfl) k
theorem g_X9_dueMany (hR : Rl wM n own cc nL ret ad J P) (hlink : Cond.fieldLink own idx "JoinWaysModel" "dueMany" "I" ∈ TT) (hdg : decode cc pc = .ok (.getfield idx, 3)) (k : J lv (.int (fi q 8) :: st) q (pc + 3)) : J lv (.ref (ad 0) :: st) q pc := r_get hR (q0 := 0) (ci := 7) (C := RX9) (T := TX9) (N := 40) hdg (fun _ _ => rfl) rfl fl_X9 20 (by decide) hlink rfl k
theorem p_X9_dueMany {x : Int32} (hR : Rl wM n own cc nL ret ad J P) (hlink : Cond.fieldLink own idx "JoinWaysModel" "dueMany" "I" ∈ TT) (hdg : decode cc pc = .ok (.putfield idx, 3)) (hq : q1 = sf q 8 x) (k : J lv st q1 (pc + 3)) : J lv (.int x :: .ref (ad 0) :: st) q pc := r_put hR (q0 := 0) (ci := 7) (C := RX9) (T := TX9) (N := 40) (ty := .int) hdg (fun _ _ => rfl) rfl fl_X9 tyX9 tyX9_ok nmX9 20 (by decide) hlink rfl (by decide +kernel) rfl rfl (Nat.le_of_ble_eq_true rfl) (fun _ _ => by rw [hq]; rfl) k
theorem g_X9_isDone (hR : Rl wM n own cc nL ret ad J P) (hlink : Cond.fieldLink own idx "JoinWaysModel" "isDone" "Z" ∈ TT) (hdg : decode cc pc = .ok (.getfield idx, 3)) (k : J lv (.int (fi q 9) :: st) q (pc + 3)) : J lv (.ref (ad 0) :: st) q pc := r_get hR (q0 := 0) (ci := 7) (C := RX9) (T := TX9) (N := 40) hdg (fun _ _ => rfl) rfl fl_X9 21 (by decide) hlink rfl k
theorem p_X9_isDone {x : Int32} (hR : Rl wM n own cc nL ret ad J P) (hlink : Cond.fieldLink own idx "JoinWaysModel" "isDone" "Z" ∈ TT) (hdg : decode cc pc = .ok (.putfield idx, 3)) (hz : x = 0 ∨ x = 1) (hq : q1 = sf q 9 x) (k : J lv st q1 (pc + 3)) : J lv (.int x :: .ref (ad 0) :: st) q pc := r_put hR (q0 := 0) (ci := 7) (C := RX9) (T := TX9) (N := 40) (ty := .boolean) hdg (fun _ _ => rfl) rfl fl_X9 tyX9 tyX9_ok nmX9 21 (by decide) hlink rfl (by decide +kernel) (by rcases hz with rfl | rfl <;> rfl) (by rcases hz with rfl | rfl <;> rfl) (Nat.le_of_ble_eq_true rfl) (fun _ _ => by rw [hq]; rfl) k
theorem g_X9_pagesNow (hR : Rl wM n own cc nL ret ad J P) (hlink : Cond.fieldLink own idx "JoinWaysModel" "pagesNow" "[I" ∈ TT) (hdg : decode cc pc = .ok (.getfield idx, 3)) (k : J lv (.ref (ad 13) :: st) q (pc + 3)) : J lv (.ref (ad 0) :: st) q pc := r_get hR (q0 := 0) (ci := 7) (C := RX9) (T := TX9) (N := 40) hdg (fun _ _ => rfl) rfl fl_X9 22 (by decide) hlink rfl k
theorem g_X9_readySets (hR : Rl wM n own cc nL ret ad J P) (hlink : Cond.fieldLink own idx "JoinWaysModel" "readySets" "[I" ∈ TT) (hdg : decode cc pc = .ok (.getfield idx, 3)) (k : J lv (.ref (ad 14) :: st) q (pc + 3)) : J lv (.ref (ad 0) :: st) q pc := r_get hR (q0 := 0) (ci := 7) (C := RX9) (T := TX9) (N := 40) hdg (fun _ _ => rfl) rfl fl_X9 23 (by decide) hlink rfl k
theorem g_X9_readyCosts (hR : Rl wM n own cc nL ret ad J P) (hlink : Cond.fieldLink own idx "JoinWaysModel" "readyCosts" "[I" ∈ TT) (hdg : decode cc pc = .ok (.getfield idx, 3)) (k : J lv (.ref (ad 15) :: st) q (pc + 3)) : J lv (.ref (ad 0) :: st) q pc := r_get hR (q0 := 0) (ci := 7) (C := RX9) (T := TX9) (N := 40) hdg (fun _ _ => rfl) rfl fl_X9 24 (by decide) hlink rfl k
theorem g_X9_readyOrders (hR : Rl wM n own cc nL ret ad J P) (hlink : Cond.fieldLink own idx "JoinWaysModel" "readyOrders" "[I" ∈ TT) (hdg : decode cc pc = .ok (.getfield idx, 3)) (k : J lv (.ref (ad 16) :: st) q (pc + 3)) : J lv (.ref (ad 0) :: st) q pc := r_get hR (q0 := 0) (ci := 7) (C := RX9) (T := TX9) (N := 40) hdg (fun _ _ => rfl) rfl fl_X9 25 (by decide) hlink rfl k
theorem g_X9_ways (hR : Rl wM n own cc nL ret ad J P) (hlink : Cond.fieldLink own idx "JoinWaysModel" "ways" "[I" ∈ TT) (hdg : decode cc pc = .ok (.getfield idx, 3)) (k : J lv (.ref (ad 17) :: st) q (pc + 3)) : J lv (.ref (ad 0) :: st) q pc := r_get hR (q0 := 0) (ci := 7) (C := RX9) (T := TX9) (N := 40) hdg (fun _ _ => rfl) rfl fl_X9 26 (by decide) hlink rfl k
theorem g_X9_canBeDone (hR : Rl wM n own cc nL ret ad J P) (hlink : Cond.fieldLink own idx "JoinWaysModel" "canBeDone" "Z" ∈ TT) (hdg : decode cc pc = .ok (.getfield idx, 3)) (k : J lv (.int (fi q 10) :: st) q (pc + 3)) : J lv (.ref (ad 0) :: st) q pc := r_get hR (q0 := 0) (ci := 7) (C := RX9) (T := TX9) (N := 40) hdg (fun _ _ => rfl) rfl fl_X9 27 (by decide) hlink rfl k
theorem p_X9_canBeDone {x : Int32} (hR : Rl wM n own cc nL ret ad J P) (hlink : Cond.fieldLink own idx "JoinWaysModel" "canBeDone" "Z" ∈ TT) (hdg : decode cc pc = .ok (.putfield idx, 3)) (hz : x = 0 ∨ x = 1) (hq : q1 = sf q 10 x) (k : J lv st q1 (pc + 3)) : J lv (.int x :: .ref (ad 0) :: st) q pc := r_put hR (q0 := 0) (ci := 7) (C := RX9) (T := TX9) (N := 40) (ty := .boolean) hdg (fun _ _ => rfl) rfl fl_X9 tyX9 tyX9_ok nmX9 27 (by decide) hlink rfl (by decide +kernel) (by rcases hz with rfl | rfl <;> rfl) (by rcases hz with rfl | rfl <;> rfl) (Nat.le_of_ble_eq_true rfl) (fun _ _ => by rw [hq]; rfl) k
theorem g_X9_stepMany (hR : Rl wM n own cc nL ret ad J P) (hlink : Cond.fieldLink own idx "JoinWaysModel" "stepMany" "I" ∈ TT) (hdg : decode cc pc = .ok (.getfield idx, 3)) (k : J lv (.int (fi q 11) :: st) q (pc + 3)) : J lv (.ref (ad 0) :: st) q pc := r_get hR (q0 := 0) (ci := 7) (C := RX9) (T := TX9) (N := 40) hdg (fun _ _ => rfl) rfl fl_X9 28 (by decide) hlink rfl k
theorem p_X9_stepMany {x : Int32} (hR : Rl wM n own cc nL ret ad J P) (hlink : Cond.fieldLink own idx "JoinWaysModel" "stepMany" "I" ∈ TT) (hdg : decode cc pc = .ok (.putfield idx, 3)) (hq : q1 = sf q 11 x) (k : J lv st q1 (pc + 3)) : J lv (.int x :: .ref (ad 0) :: st) q pc := r_put hR (q0 := 0) (ci := 7) (C := RX9) (T := TX9) (N := 40) (ty := .int) hdg (fun _ _ => rfl) rfl fl_X9 tyX9 tyX9_ok nmX9 28 (by decide) hlink rfl (by decide +kernel) rfl rfl (Nat.le_of_ble_eq_true rfl) (fun _ _ => by rw [hq]; rfl) k
theorem g_X9_doneMany (hR : Rl wM n own cc nL ret ad J P) (hlink : Cond.fieldLink own idx "JoinWaysModel" "doneMany" "I" ∈ TT) (hdg : decode cc pc = .ok (.getfield idx, 3)) (k : J lv (.int (fi q 12) :: st) q (pc + 3)) : J lv (.ref (ad 0) :: st) q pc := r_get hR (q0 := 0) (ci := 7) (C := RX9) (T := TX9) (N := 40) hdg (fun _ _ => rfl) rfl fl_X9 29 (by decide) hlink rfl k
theorem p_X9_doneMany {x : Int32} (hR : Rl wM n own cc nL ret ad J P) (hlink : Cond.fieldLink own idx "JoinWaysModel" "doneMany" "I" ∈ TT) (hdg : decode cc pc = .ok (.putfield idx, 3)) (hq : q1 = sf q 12 x) (k : J lv st q1 (pc + 3)) : J lv (.int x :: .ref (ad 0) :: st) q pc := r_put hR (q0 := 0) (ci := 7) (C := RX9) (T := TX9) (N := 40) (ty := .int) hdg (fun _ _ => rfl) rfl fl_X9 tyX9 tyX9_ok nmX9 29 (by decide) hlink rfl (by decide +kernel) rfl rfl (Nat.le_of_ble_eq_true rfl) (fun _ _ => by rw [hq]; rfl) k
theorem g_X9_bestCosts (hR : Rl wM n own cc nL ret ad J P) (hlink : Cond.fieldLink own idx "JoinWaysModel" "bestCosts" "[I" ∈ TT) (hdg : decode cc pc = .ok (.getfield idx, 3)) (k : J lv (.ref (ad 18) :: st) q (pc + 3)) : J lv (.ref (ad 0) :: st) q pc := r_get hR (q0 := 0) (ci := 7) (C := RX9) (T := TX9) (N := 40) hdg (fun _ _ => rfl) rfl fl_X9 30 (by decide) hlink rfl k
theorem g_X9_bestTexts (hR : Rl wM n own cc nL ret ad J P) (hlink : Cond.fieldLink own idx "JoinWaysModel" "bestTexts" "[I" ∈ TT) (hdg : decode cc pc = .ok (.getfield idx, 3)) (k : J lv (.ref (ad 19) :: st) q (pc + 3)) : J lv (.ref (ad 0) :: st) q pc := r_get hR (q0 := 0) (ci := 7) (C := RX9) (T := TX9) (N := 40) hdg (fun _ _ => rfl) rfl fl_X9 31 (by decide) hlink rfl k
theorem g_X9_trial (hR : Rl wM n own cc nL ret ad J P) (hlink : Cond.fieldLink own idx "JoinWaysModel" "trial" "[I" ∈ TT) (hdg : decode cc pc = .ok (.getfield idx, 3)) (k : J lv (.ref (ad 20) :: st) q (pc + 3)) : J lv (.ref (ad 0) :: st) q pc := r_get hR (q0 := 0) (ci := 7) (C := RX9) (T := TX9) (N := 40) hdg (fun _ _ => rfl) rfl fl_X9 32 (by decide) hlink rfl k
theorem g_X9_trialMany (hR : Rl wM n own cc nL ret ad J P) (hlink : Cond.fieldLink own idx "JoinWaysModel" "trialMany" "I" ∈ TT) (hdg : decode cc pc = .ok (.getfield idx, 3)) (k : J lv (.int (fi q 13) :: st) q (pc + 3)) : J lv (.ref (ad 0) :: st) q pc := r_get hR (q0 := 0) (ci := 7) (C := RX9) (T := TX9) (N := 40) hdg (fun _ _ => rfl) rfl fl_X9 33 (by decide) hlink rfl k
theorem p_X9_trialMany {x : Int32} (hR : Rl wM n own cc nL ret ad J P) (hlink : Cond.fieldLink own idx "JoinWaysModel" "trialMany" "I" ∈ TT) (hdg : decode cc pc = .ok (.putfield idx, 3)) (hq : q1 = sf q 13 x) (k : J lv st q1 (pc + 3)) : J lv (.int x :: .ref (ad 0) :: st) q pc := r_put hR (q0 := 0) (ci := 7) (C := RX9) (T := TX9) (N := 40) (ty := .int) hdg (fun _ _ => rfl) rfl fl_X9 tyX9 tyX9_ok nmX9 33 (by decide) hlink rfl (by decide +kernel) rfl rfl (Nat.le_of_ble_eq_true rfl) (fun _ _ => by rw [hq]; rfl) k
theorem g_X9_wishedCost (hR : Rl wM n own cc nL ret ad J P) (hlink : Cond.fieldLink own idx "JoinWaysModel" "wishedCost" "I" ∈ TT) (hdg : decode cc pc = .ok (.getfield idx, 3)) (k : J lv (.int (fi q 14) :: st) q (pc + 3)) : J lv (.ref (ad 0) :: st) q pc := r_get hR (q0 := 0) (ci := 7) (C := RX9) (T := TX9) (N := 40) hdg (fun _ _ => rfl) rfl fl_X9 34 (by decide) hlink rfl k
theorem p_X9_wishedCost {x : Int32} (hR : Rl wM n own cc nL ret ad J P) (hlink : Cond.fieldLink own idx "JoinWaysModel" "wishedCost" "I" ∈ TT) (hdg : decode cc pc = .ok (.putfield idx, 3)) (hq : q1 = sf q 14 x) (k : J lv st q1 (pc + 3)) : J lv (.int x :: .ref (ad 0) :: st) q pc := r_put hR (q0 := 0) (ci := 7) (C := RX9) (T := TX9) (N := 40) (ty := .int) hdg (fun _ _ => rfl) rfl fl_X9 tyX9 tyX9_ok nmX9 34 (by decide) hlink rfl (by decide +kernel) rfl rfl (Nat.le_of_ble_eq_true rfl) (fun _ _ => by rw [hq]; rfl) k
theorem g_X9_foretoldText (hR : Rl wM n own cc nL ret ad J P) (hlink : Cond.fieldLink own idx "JoinWaysModel" "foretoldText" "[I" ∈ TT) (hdg : decode cc pc = .ok (.getfield idx, 3)) (k : J lv (.ref (ad 21) :: st) q (pc + 3)) : J lv (.ref (ad 0) :: st) q pc := r_get hR (q0 := 0) (ci := 7) (C := RX9) (T := TX9) (N := 40) hdg (fun _ _ => rfl) rfl fl_X9 35 (by decide) hlink rfl k
theorem g_X9_gone (hR : Rl wM n own cc nL ret ad J P) (hlink : Cond.fieldLink own idx "JoinWaysModel" "gone" "[I" ∈ TT) (hdg : decode cc pc = .ok (.getfield idx, 3)) (k : J lv (.ref (ad 22) :: st) q (pc + 3)) : J lv (.ref (ad 0) :: st) q pc := r_get hR (q0 := 0) (ci := 7) (C := RX9) (T := TX9) (N := 40) hdg (fun _ _ => rfl) rfl fl_X9 36 (by decide) hlink rfl k
theorem g_X9_goneMany (hR : Rl wM n own cc nL ret ad J P) (hlink : Cond.fieldLink own idx "JoinWaysModel" "goneMany" "I" ∈ TT) (hdg : decode cc pc = .ok (.getfield idx, 3)) (k : J lv (.int (fi q 15) :: st) q (pc + 3)) : J lv (.ref (ad 0) :: st) q pc := r_get hR (q0 := 0) (ci := 7) (C := RX9) (T := TX9) (N := 40) hdg (fun _ _ => rfl) rfl fl_X9 37 (by decide) hlink rfl k
theorem p_X9_goneMany {x : Int32} (hR : Rl wM n own cc nL ret ad J P) (hlink : Cond.fieldLink own idx "JoinWaysModel" "goneMany" "I" ∈ TT) (hdg : decode cc pc = .ok (.putfield idx, 3)) (hq : q1 = sf q 15 x) (k : J lv st q1 (pc + 3)) : J lv (.int x :: .ref (ad 0) :: st) q pc := r_put hR (q0 := 0) (ci := 7) (C := RX9) (T := TX9) (N := 40) (ty := .int) hdg (fun _ _ => rfl) rfl fl_X9 tyX9 tyX9_ok nmX9 37 (by decide) hlink rfl (by decide +kernel) rfl rfl (Nat.le_of_ble_eq_true rfl) (fun _ _ => by rw [hq]; rfl) k
theorem g_X9_hangsOn (hR : Rl wM n own cc nL ret ad J P) (hlink : Cond.fieldLink own idx "JoinWaysModel" "hangsOn" "[I" ∈ TT) (hdg : decode cc pc = .ok (.getfield idx, 3)) (k : J lv (.ref (ad 23) :: st) q (pc + 3)) : J lv (.ref (ad 0) :: st) q pc := r_get hR (q0 := 0) (ci := 7) (C := RX9) (T := TX9) (N := 40) hdg (fun _ _ => rfl) rfl fl_X9 38 (by decide) hlink rfl k
theorem g_X9_leftRows (hR : Rl wM n own cc nL ret ad J P) (hlink : Cond.fieldLink own idx "JoinWaysModel" "leftRows" "[I" ∈ TT) (hdg : decode cc pc = .ok (.getfield idx, 3)) (k : J lv (.ref (ad 24) :: st) q (pc + 3)) : J lv (.ref (ad 0) :: st) q pc := r_get hR (q0 := 0) (ci := 7) (C := RX9) (T := TX9) (N := 40) hdg (fun _ _ => rfl) rfl fl_X9 39 (by decide) hlink rfl k
theorem ld_X9_lettersOf {i : Int32} (hR : Rl wM n own cc nL ret ad J P) (hdg : decode cc pc = .ok (.iaload, 1)) (hin : vp_in i 6) (k : J lv (.int (ar q 1 (ix i)) :: st) q (pc + 1)) : J lv (.int i :: .ref (ad 1) :: st) q pc := r_iald hR (q0 := 1) hdg (fun _ _ => rfl) hin k
theorem sv_X9_lettersOf {i x : Int32} (hR : Rl wM n own cc nL ret ad J P) (hdg : decode cc pc = .ok (.iastore, 1)) (hin : vp_in i 6) (hq : q1 = sa q 1 (ix i) x) (k : J lv st q1 (pc + 1)) : J lv (.int x :: .int i :: .ref (ad 1) :: st) q pc := r_iast hR (q0 := 1) hdg (fun _ _ => rfl) (fun _ _ => by rw [hq]; rfl) hin k
theorem al_X9_lettersOf (hR : Rl wM n own cc nL ret ad J P) (hdg : decode cc pc = .ok (.arraylength, 1)) (k : J lv (.int 6 :: st) q (pc + 1)) : J lv (.ref (ad 1) :: st) q pc := r_alen hR (q0 := 1) (x := fun cI _ => (cI, 6, .inl (ar q 1))) hdg (fun _ _ => rfl) 0 (fun _ _ => rfl) (fun _ _ => rfl) k
theorem ld_X9_pers {i : Int32} (hR : Rl wM n own cc nL ret ad J P) (hdg : decode cc pc = .ok (.iaload, 1)) (hin : vp_in i 6) (k : J lv (.int (ar q 2 (ix i)) :: st) q (pc + 1)) : J lv (.int i :: .ref (ad 2) :: st) q pc := r_iald hR (q0 := 2) hdg (fun _ _ => rfl) hin k
theorem sv_X9_pers {i x : Int32} (hR : Rl wM n own cc nL ret ad J P) (hdg : decode cc pc = .ok (.iastore, 1)) (hin : vp_in i 6) (hq : q1 = sa q 2 (ix i) x) (k : J lv st q1 (pc + 1)) : J lv (.int x :: .int i :: .ref (ad 2) :: st) q pc := r_iast hR (q0 := 2) hdg (fun _ _ => rfl) (fun _ _ => by rw [hq]; rfl) hin k
theorem al_X9_pers (hR : Rl wM n own cc nL ret ad J P) (hdg : decode cc pc = .ok (.arraylength, 1)) (k : J lv (.int 6 :: st) q (pc + 1)) : J lv (.ref (ad 2) :: st) q pc := r_alen hR (q0 := 2) (x := fun cI _ => (cI, 6, .inl (ar q 2))) hdg (fun _ _ => rfl) 0 (fun _ _ => rfl) (fun _ _ => rfl) k
theorem ld_X9_rows {i : Int32} (hR : Rl wM n own cc nL ret ad J P) (hdg : decode cc pc = .ok (.iaload, 1)) (hin : vp_in i 6) (k : J lv (.int (ar q 3 (ix i)) :: st) q (pc + 1)) : J lv (.int i :: .ref (ad 3) :: st) q pc := r_iald hR (q0 := 3) hdg (fun _ _ => rfl) hin k
theorem sv_X9_rows {i x : Int32} (hR : Rl wM n own cc nL ret ad J P) (hdg : decode cc pc = .ok (.iastore, 1)) (hin : vp_in i 6) (hq : q1 = sa q 3 (ix i) x) (k : J lv st q1 (pc + 1)) : J lv (.int x :: .int i :: .ref (ad 3) :: st) q pc := r_iast hR (q0 := 3) hdg (fun _ _ => rfl) (fun _ _ => by rw [hq]; rfl) hin k
theorem al_X9_rows (hR : Rl wM n own cc nL ret ad J P) (hdg : decode cc pc = .ok (.arraylength, 1)) (k : J lv (.int 6 :: st) q (pc + 1)) : J lv (.ref (ad 3) :: st) q pc := r_alen hR (q0 := 3) (x := fun cI _ => (cI, 6, .inl (ar q 3))) hdg (fun _ _ => rfl) 0 (fun _ _ => rfl) (fun _ _ => rfl) k
theorem ld_X9_numbers {i : Int32} (hR : Rl wM n own cc nL ret ad J P) (hdg : decode cc pc = .ok (.iaload, 1)) (hin : vp_in i 384) (k : J lv (.int (ar q 4 (ix i)) :: st) q (pc + 1)) : J lv (.int i :: .ref (ad 4) :: st) q pc := r_iald hR (q0 := 4) hdg (fun _ _ => rfl) hin k
theorem sv_X9_numbers {i x : Int32} (hR : Rl wM n own cc nL ret ad J P) (hdg : decode cc pc = .ok (.iastore, 1)) (hin : vp_in i 384) (hq : q1 = sa q 4 (ix i) x) (k : J lv st q1 (pc + 1)) : J lv (.int x :: .int i :: .ref (ad 4) :: st) q pc := r_iast hR (q0 := 4) hdg (fun _ _ => rfl) (fun _ _ => by rw [hq]; rfl) hin k
theorem al_X9_numbers (hR : Rl wM n own cc nL ret ad J P) (hdg : decode cc pc = .ok (.arraylength, 1)) (k : J lv (.int 384 :: st) q (pc + 1)) : J lv (.ref (ad 4) :: st) q pc := r_alen hR (q0 := 4) (x := fun cI _ => (cI, 384, .inl (ar q 4))) hdg (fun _ _ => rfl) 0 (fun _ _ => rfl) (fun _ _ => rfl) k
theorem ld_X9_drawn {i : Int32} (hR : Rl wM n own cc nL ret ad J P) (hdg : decode cc pc = .ok (.iaload, 1)) (hin : vp_in i 3) (k : J lv (.int (ar q 5 (ix i)) :: st) q (pc + 1)) : J lv (.int i :: .ref (ad 5) :: st) q pc := r_iald hR (q0 := 5) hdg (fun _ _ => rfl) hin k
theorem sv_X9_drawn {i x : Int32} (hR : Rl wM n own cc nL ret ad J P) (hdg : decode cc pc = .ok (.iastore, 1)) (hin : vp_in i 3) (hq : q1 = sa q 5 (ix i) x) (k : J lv st q1 (pc + 1)) : J lv (.int x :: .int i :: .ref (ad 5) :: st) q pc := r_iast hR (q0 := 5) hdg (fun _ _ => rfl) (fun _ _ => by rw [hq]; rfl) hin k
theorem al_X9_drawn (hR : Rl wM n own cc nL ret ad J P) (hdg : decode cc pc = .ok (.arraylength, 1)) (k : J lv (.int 3 :: st) q (pc + 1)) : J lv (.ref (ad 5) :: st) q pc := r_alen hR (q0 := 5) (x := fun cI _ => (cI, 3, .inl (ar q 5))) hdg (fun _ _ => rfl) 0 (fun _ _ => rfl) (fun _ _ => rfl) k
theorem ld_X9_order {i : Int32} (hR : Rl wM n own cc nL ret ad J P) (hdg : decode cc pc = .ok (.iaload, 1)) (hin : vp_in i 8) (k : J lv (.int (ar q 6 (ix i)) :: st) q (pc + 1)) : J lv (.int i :: .ref (ad 6) :: st) q pc := r_iald hR (q0 := 6) hdg (fun _ _ => rfl) hin k
theorem sv_X9_order {i x : Int32} (hR : Rl wM n own cc nL ret ad J P) (hdg : decode cc pc = .ok (.iastore, 1)) (hin : vp_in i 8) (hq : q1 = sa q 6 (ix i) x) (k : J lv st q1 (pc + 1)) : J lv (.int x :: .int i :: .ref (ad 6) :: st) q pc := r_iast hR (q0 := 6) hdg (fun _ _ => rfl) (fun _ _ => by rw [hq]; rfl) hin k
theorem al_X9_order (hR : Rl wM n own cc nL ret ad J P) (hdg : decode cc pc = .ok (.arraylength, 1)) (k : J lv (.int 8 :: st) q (pc + 1)) : J lv (.ref (ad 6) :: st) q pc := r_alen hR (q0 := 6) (x := fun cI _ => (cI, 8, .inl (ar q 6))) hdg (fun _ _ => rfl) 0 (fun _ _ => rfl) (fun _ _ => rfl) k
theorem ld_X9_held {i : Int32} (hR : Rl wM n own cc nL ret ad J P) (hdg : decode cc pc = .ok (.iaload, 1)) (hin : vp_in i 64) (k : J lv (.int (ar q 7 (ix i)) :: st) q (pc + 1)) : J lv (.int i :: .ref (ad 7) :: st) q pc := r_iald hR (q0 := 7) hdg (fun _ _ => rfl) hin k
theorem sv_X9_held {i x : Int32} (hR : Rl wM n own cc nL ret ad J P) (hdg : decode cc pc = .ok (.iastore, 1)) (hin : vp_in i 64) (hq : q1 = sa q 7 (ix i) x) (k : J lv st q1 (pc + 1)) : J lv (.int x :: .int i :: .ref (ad 7) :: st) q pc := r_iast hR (q0 := 7) hdg (fun _ _ => rfl) (fun _ _ => by rw [hq]; rfl) hin k
theorem al_X9_held (hR : Rl wM n own cc nL ret ad J P) (hdg : decode cc pc = .ok (.arraylength, 1)) (k : J lv (.int 64 :: st) q (pc + 1)) : J lv (.ref (ad 7) :: st) q pc := r_alen hR (q0 := 7) (x := fun cI _ => (cI, 64, .inl (ar q 7))) hdg (fun _ _ => rfl) 0 (fun _ _ => rfl) (fun _ _ => rfl) k
theorem ld_X9_trueSizes {i : Int32} (hR : Rl wM n own cc nL ret ad J P) (hdg : decode cc pc = .ok (.iaload, 1)) (hin : vp_in i 64) (k : J lv (.int (ar q 8 (ix i)) :: st) q (pc + 1)) : J lv (.int i :: .ref (ad 8) :: st) q pc := r_iald hR (q0 := 8) hdg (fun _ _ => rfl) hin k
theorem sv_X9_trueSizes {i x : Int32} (hR : Rl wM n own cc nL ret ad J P) (hdg : decode cc pc = .ok (.iastore, 1)) (hin : vp_in i 64) (hq : q1 = sa q 8 (ix i) x) (k : J lv st q1 (pc + 1)) : J lv (.int x :: .int i :: .ref (ad 8) :: st) q pc := r_iast hR (q0 := 8) hdg (fun _ _ => rfl) (fun _ _ => by rw [hq]; rfl) hin k
theorem al_X9_trueSizes (hR : Rl wM n own cc nL ret ad J P) (hdg : decode cc pc = .ok (.arraylength, 1)) (k : J lv (.int 64 :: st) q (pc + 1)) : J lv (.ref (ad 8) :: st) q pc := r_alen hR (q0 := 8) (x := fun cI _ => (cI, 64, .inl (ar q 8))) hdg (fun _ _ => rfl) 0 (fun _ _ => rfl) (fun _ _ => rfl) k
theorem ld_X9_members {i : Int32} (hR : Rl wM n own cc nL ret ad J P) (hdg : decode cc pc = .ok (.iaload, 1)) (hin : vp_in i 6) (k : J lv (.int (ar q 9 (ix i)) :: st) q (pc + 1)) : J lv (.int i :: .ref (ad 9) :: st) q pc := r_iald hR (q0 := 9) hdg (fun _ _ => rfl) hin k
theorem sv_X9_members {i x : Int32} (hR : Rl wM n own cc nL ret ad J P) (hdg : decode cc pc = .ok (.iastore, 1)) (hin : vp_in i 6) (hq : q1 = sa q 9 (ix i) x) (k : J lv st q1 (pc + 1)) : J lv (.int x :: .int i :: .ref (ad 9) :: st) q pc := r_iast hR (q0 := 9) hdg (fun _ _ => rfl) (fun _ _ => by rw [hq]; rfl) hin k
theorem al_X9_members (hR : Rl wM n own cc nL ret ad J P) (hdg : decode cc pc = .ok (.arraylength, 1)) (k : J lv (.int 6 :: st) q (pc + 1)) : J lv (.ref (ad 9) :: st) q pc := r_alen hR (q0 := 9) (x := fun cI _ => (cI, 6, .inl (ar q 9))) hdg (fun _ _ => rfl) 0 (fun _ _ => rfl) (fun _ _ => rfl) k
theorem ld_X9_chosen {i : Int32} (hR : Rl wM n own cc nL ret ad J P) (hdg : decode cc pc = .ok (.iaload, 1)) (hin : vp_in i 6) (k : J lv (.int (ar q 10 (ix i)) :: st) q (pc + 1)) : J lv (.int i :: .ref (ad 10) :: st) q pc := r_iald hR (q0 := 10) hdg (fun _ _ => rfl) hin k
theorem sv_X9_chosen {i x : Int32} (hR : Rl wM n own cc nL ret ad J P) (hdg : decode cc pc = .ok (.iastore, 1)) (hin : vp_in i 6) (hq : q1 = sa q 10 (ix i) x) (k : J lv st q1 (pc + 1)) : J lv (.int x :: .int i :: .ref (ad 10) :: st) q pc := r_iast hR (q0 := 10) hdg (fun _ _ => rfl) (fun _ _ => by rw [hq]; rfl) hin k
theorem al_X9_chosen (hR : Rl wM n own cc nL ret ad J P) (hdg : decode cc pc = .ok (.arraylength, 1)) (k : J lv (.int 6 :: st) q (pc + 1)) : J lv (.ref (ad 10) :: st) q pc := r_alen hR (q0 := 10) (x := fun cI _ => (cI, 6, .inl (ar q 10))) hdg (fun _ _ => rfl) 0 (fun _ _ => rfl) (fun _ _ => rfl) k
theorem ld_X9_page {i : Int32} (hR : Rl wM n own cc nL ret ad J P) (hdg : decode cc pc = .ok (.iaload, 1)) (hin : vp_in i 40) (k : J lv (.int (ar q 11 (ix i)) :: st) q (pc + 1)) : J lv (.int i :: .ref (ad 11) :: st) q pc := r_iald hR (q0 := 11) hdg (fun _ _ => rfl) hin k
theorem sv_X9_page {i x : Int32} (hR : Rl wM n own cc nL ret ad J P) (hdg : decode cc pc = .ok (.iastore, 1)) (hin : vp_in i 40) (hq : q1 = sa q 11 (ix i) x) (k : J lv st q1 (pc + 1)) : J lv (.int x :: .int i :: .ref (ad 11) :: st) q pc := r_iast hR (q0 := 11) hdg (fun _ _ => rfl) (fun _ _ => by rw [hq]; rfl) hin k
theorem al_X9_page (hR : Rl wM n own cc nL ret ad J P) (hdg : decode cc pc = .ok (.arraylength, 1)) (k : J lv (.int 40 :: st) q (pc + 1)) : J lv (.ref (ad 11) :: st) q pc := r_alen hR (q0 := 11) (x := fun cI _ => (cI, 40, .inl (ar q 11))) hdg (fun _ _ => rfl) 0 (fun _ _ => rfl) (fun _ _ => rfl) k
theorem ld_X9_open {i : Int32} (hR : Rl wM n own cc nL ret ad J P) (hdg : decode cc pc = .ok (.iaload, 1)) (hin : vp_in i 41) (k : J lv (.int (ar q 12 (ix i)) :: st) q (pc + 1)) : J lv (.int i :: .ref (ad 12) :: st) q pc := r_iald hR (q0 := 12) hdg (fun _ _ => rfl) hin k
theorem sv_X9_open {i x : Int32} (hR : Rl wM n own cc nL ret ad J P) (hdg : decode cc pc = .ok (.iastore, 1)) (hin : vp_in i 41) (hq : q1 = sa q 12 (ix i) x) (k : J lv st q1 (pc + 1)) : J lv (.int x :: .int i :: .ref (ad 12) :: st) q pc := r_iast hR (q0 := 12) hdg (fun _ _ => rfl) (fun _ _ => by rw [hq]; rfl) hin k
theorem al_X9_open (hR : Rl wM n own cc nL ret ad J P) (hdg : decode cc pc = .ok (.arraylength, 1)) (k : J lv (.int 41 :: st) q (pc + 1)) : J lv (.ref (ad 12) :: st) q pc := r_alen hR (q0 := 12) (x := fun cI _ => (cI, 41, .inl (ar q 12))) hdg (fun _ _ => rfl) 0 (fun _ _ => rfl) (fun _ _ => rfl) k
theorem ld_X9_pagesNow {i : Int32} (hR : Rl wM n own cc nL ret ad J P) (hdg : decode cc pc = .ok (.iaload, 1)) (hin : vp_in i 64) (k : J lv (.int (ar q 13 (ix i)) :: st) q (pc + 1)) : J lv (.int i :: .ref (ad 13) :: st) q pc := r_iald hR (q0 := 13) hdg (fun _ _ => rfl) hin k
theorem sv_X9_pagesNow {i x : Int32} (hR : Rl wM n own cc nL ret ad J P) (hdg : decode cc pc = .ok (.iastore, 1)) (hin : vp_in i 64) (hq : q1 = sa q 13 (ix i) x) (k : J lv st q1 (pc + 1)) : J lv (.int x :: .int i :: .ref (ad 13) :: st) q pc := r_iast hR (q0 := 13) hdg (fun _ _ => rfl) (fun _ _ => by rw [hq]; rfl) hin k
theorem al_X9_pagesNow (hR : Rl wM n own cc nL ret ad J P) (hdg : decode cc pc = .ok (.arraylength, 1)) (k : J lv (.int 64 :: st) q (pc + 1)) : J lv (.ref (ad 13) :: st) q pc := r_alen hR (q0 := 13) (x := fun cI _ => (cI, 64, .inl (ar q 13))) hdg (fun _ _ => rfl) 0 (fun _ _ => rfl) (fun _ _ => rfl) k
theorem ld_X9_readySets {i : Int32} (hR : Rl wM n own cc nL ret ad J P) (hdg : decode cc pc = .ok (.iaload, 1)) (hin : vp_in i 41) (k : J lv (.int (ar q 14 (ix i)) :: st) q (pc + 1)) : J lv (.int i :: .ref (ad 14) :: st) q pc := r_iald hR (q0 := 14) hdg (fun _ _ => rfl) hin k
theorem sv_X9_readySets {i x : Int32} (hR : Rl wM n own cc nL ret ad J P) (hdg : decode cc pc = .ok (.iastore, 1)) (hin : vp_in i 41) (hq : q1 = sa q 14 (ix i) x) (k : J lv st q1 (pc + 1)) : J lv (.int x :: .int i :: .ref (ad 14) :: st) q pc := r_iast hR (q0 := 14) hdg (fun _ _ => rfl) (fun _ _ => by rw [hq]; rfl) hin k
theorem al_X9_readySets (hR : Rl wM n own cc nL ret ad J P) (hdg : decode cc pc = .ok (.arraylength, 1)) (k : J lv (.int 41 :: st) q (pc + 1)) : J lv (.ref (ad 14) :: st) q pc := r_alen hR (q0 := 14) (x := fun cI _ => (cI, 41, .inl (ar q 14))) hdg (fun _ _ => rfl) 0 (fun _ _ => rfl) (fun _ _ => rfl) k
theorem ld_X9_readyCosts {i : Int32} (hR : Rl wM n own cc nL ret ad J P) (hdg : decode cc pc = .ok (.iaload, 1)) (hin : vp_in i 41) (k : J lv (.int (ar q 15 (ix i)) :: st) q (pc + 1)) : J lv (.int i :: .ref (ad 15) :: st) q pc := r_iald hR (q0 := 15) hdg (fun _ _ => rfl) hin k
theorem sv_X9_readyCosts {i x : Int32} (hR : Rl wM n own cc nL ret ad J P) (hdg : decode cc pc = .ok (.iastore, 1)) (hin : vp_in i 41) (hq : q1 = sa q 15 (ix i) x) (k : J lv st q1 (pc + 1)) : J lv (.int x :: .int i :: .ref (ad 15) :: st) q pc := r_iast hR (q0 := 15) hdg (fun _ _ => rfl) (fun _ _ => by rw [hq]; rfl) hin k
theorem al_X9_readyCosts (hR : Rl wM n own cc nL ret ad J P) (hdg : decode cc pc = .ok (.arraylength, 1)) (k : J lv (.int 41 :: st) q (pc + 1)) : J lv (.ref (ad 15) :: st) q pc := r_alen hR (q0 := 15) (x := fun cI _ => (cI, 41, .inl (ar q 15))) hdg (fun _ _ => rfl) 0 (fun _ _ => rfl) (fun _ _ => rfl) k
theorem ld_X9_readyOrders {i : Int32} (hR : Rl wM n own cc nL ret ad J P) (hdg : decode cc pc = .ok (.iaload, 1)) (hin : vp_in i 41) (k : J lv (.int (ar q 16 (ix i)) :: st) q (pc + 1)) : J lv (.int i :: .ref (ad 16) :: st) q pc := r_iald hR (q0 := 16) hdg (fun _ _ => rfl) hin k
theorem sv_X9_readyOrders {i x : Int32} (hR : Rl wM n own cc nL ret ad J P) (hdg : decode cc pc = .ok (.iastore, 1)) (hin : vp_in i 41) (hq : q1 = sa q 16 (ix i) x) (k : J lv st q1 (pc + 1)) : J lv (.int x :: .int i :: .ref (ad 16) :: st) q pc := r_iast hR (q0 := 16) hdg (fun _ _ => rfl) (fun _ _ => by rw [hq]; rfl) hin k
theorem al_X9_readyOrders (hR : Rl wM n own cc nL ret ad J P) (hdg : decode cc pc = .ok (.arraylength, 1)) (k : J lv (.int 41 :: st) q (pc + 1)) : J lv (.ref (ad 16) :: st) q pc := r_alen hR (q0 := 16) (x := fun cI _ => (cI, 41, .inl (ar q 16))) hdg (fun _ _ => rfl) 0 (fun _ _ => rfl) (fun _ _ => rfl) k
theorem ld_X9_ways {i : Int32} (hR : Rl wM n own cc nL ret ad J P) (hdg : decode cc pc = .ok (.iaload, 1)) (hin : vp_in i 41) (k : J lv (.int (ar q 17 (ix i)) :: st) q (pc + 1)) : J lv (.int i :: .ref (ad 17) :: st) q pc := r_iald hR (q0 := 17) hdg (fun _ _ => rfl) hin k
theorem sv_X9_ways {i x : Int32} (hR : Rl wM n own cc nL ret ad J P) (hdg : decode cc pc = .ok (.iastore, 1)) (hin : vp_in i 41) (hq : q1 = sa q 17 (ix i) x) (k : J lv st q1 (pc + 1)) : J lv (.int x :: .int i :: .ref (ad 17) :: st) q pc := r_iast hR (q0 := 17) hdg (fun _ _ => rfl) (fun _ _ => by rw [hq]; rfl) hin k
theorem al_X9_ways (hR : Rl wM n own cc nL ret ad J P) (hdg : decode cc pc = .ok (.arraylength, 1)) (k : J lv (.int 41 :: st) q (pc + 1)) : J lv (.ref (ad 17) :: st) q pc := r_alen hR (q0 := 17) (x := fun cI _ => (cI, 41, .inl (ar q 17))) hdg (fun _ _ => rfl) 0 (fun _ _ => rfl) (fun _ _ => rfl) k
theorem ld_X9_bestCosts {i : Int32} (hR : Rl wM n own cc nL ret ad J P) (hdg : decode cc pc = .ok (.iaload, 1)) (hin : vp_in i 576) (k : J lv (.int (ar q 18 (ix i)) :: st) q (pc + 1)) : J lv (.int i :: .ref (ad 18) :: st) q pc := r_iald hR (q0 := 18) hdg (fun _ _ => rfl) hin k
theorem sv_X9_bestCosts {i x : Int32} (hR : Rl wM n own cc nL ret ad J P) (hdg : decode cc pc = .ok (.iastore, 1)) (hin : vp_in i 576) (hq : q1 = sa q 18 (ix i) x) (k : J lv st q1 (pc + 1)) : J lv (.int x :: .int i :: .ref (ad 18) :: st) q pc := r_iast hR (q0 := 18) hdg (fun _ _ => rfl) (fun _ _ => by rw [hq]; rfl) hin k
theorem al_X9_bestCosts (hR : Rl wM n own cc nL ret ad J P) (hdg : decode cc pc = .ok (.arraylength, 1)) (k : J lv (.int 576 :: st) q (pc + 1)) : J lv (.ref (ad 18) :: st) q pc := r_alen hR (q0 := 18) (x := fun cI _ => (cI, 576, .inl (ar q 18))) hdg (fun _ _ => rfl) 0 (fun _ _ => rfl) (fun _ _ => rfl) k
theorem ld_X9_bestTexts {i : Int32} (hR : Rl wM n own cc nL ret ad J P) (hdg : decode cc pc = .ok (.iaload, 1)) (hin : vp_in i 12096) (k : J lv (.int (ar q 19 (ix i)) :: st) q (pc + 1)) : J lv (.int i :: .ref (ad 19) :: st) q pc := r_iald hR (q0 := 19) hdg (fun _ _ => rfl) hin k
theorem sv_X9_bestTexts {i x : Int32} (hR : Rl wM n own cc nL ret ad J P) (hdg : decode cc pc = .ok (.iastore, 1)) (hin : vp_in i 12096) (hq : q1 = sa q 19 (ix i) x) (k : J lv st q1 (pc + 1)) : J lv (.int x :: .int i :: .ref (ad 19) :: st) q pc := r_iast hR (q0 := 19) hdg (fun _ _ => rfl) (fun _ _ => by rw [hq]; rfl) hin k
theorem al_X9_bestTexts (hR : Rl wM n own cc nL ret ad J P) (hdg : decode cc pc = .ok (.arraylength, 1)) (k : J lv (.int 12096 :: st) q (pc + 1)) : J lv (.ref (ad 19) :: st) q pc := r_alen hR (q0 := 19) (x := fun cI _ => (cI, 12096, .inl (ar q 19))) hdg (fun _ _ => rfl) 0 (fun _ _ => rfl) (fun _ _ => rfl) k
theorem ld_X9_trial {i : Int32} (hR : Rl wM n own cc nL ret ad J P) (hdg : decode cc pc = .ok (.iaload, 1)) (hin : vp_in i 21) (k : J lv (.int (ar q 20 (ix i)) :: st) q (pc + 1)) : J lv (.int i :: .ref (ad 20) :: st) q pc := r_iald hR (q0 := 20) hdg (fun _ _ => rfl) hin k
theorem sv_X9_trial {i x : Int32} (hR : Rl wM n own cc nL ret ad J P) (hdg : decode cc pc = .ok (.iastore, 1)) (hin : vp_in i 21) (hq : q1 = sa q 20 (ix i) x) (k : J lv st q1 (pc + 1)) : J lv (.int x :: .int i :: .ref (ad 20) :: st) q pc := r_iast hR (q0 := 20) hdg (fun _ _ => rfl) (fun _ _ => by rw [hq]; rfl) hin k
theorem al_X9_trial (hR : Rl wM n own cc nL ret ad J P) (hdg : decode cc pc = .ok (.arraylength, 1)) (k : J lv (.int 21 :: st) q (pc + 1)) : J lv (.ref (ad 20) :: st) q pc := r_alen hR (q0 := 20) (x := fun cI _ => (cI, 21, .inl (ar q 20))) hdg (fun _ _ => rfl) 0 (fun _ _ => rfl) (fun _ _ => rfl) k
theorem ld_X9_foretoldText {i : Int32} (hR : Rl wM n own cc nL ret ad J P) (hdg : decode cc pc = .ok (.iaload, 1)) (hin : vp_in i 21) (k : J lv (.int (ar q 21 (ix i)) :: st) q (pc + 1)) : J lv (.int i :: .ref (ad 21) :: st) q pc := r_iald hR (q0 := 21) hdg (fun _ _ => rfl) hin k
theorem sv_X9_foretoldText {i x : Int32} (hR : Rl wM n own cc nL ret ad J P) (hdg : decode cc pc = .ok (.iastore, 1)) (hin : vp_in i 21) (hq : q1 = sa q 21 (ix i) x) (k : J lv st q1 (pc + 1)) : J lv (.int x :: .int i :: .ref (ad 21) :: st) q pc := r_iast hR (q0 := 21) hdg (fun _ _ => rfl) (fun _ _ => by rw [hq]; rfl) hin k
theorem al_X9_foretoldText (hR : Rl wM n own cc nL ret ad J P) (hdg : decode cc pc = .ok (.arraylength, 1)) (k : J lv (.int 21 :: st) q (pc + 1)) : J lv (.ref (ad 21) :: st) q pc := r_alen hR (q0 := 21) (x := fun cI _ => (cI, 21, .inl (ar q 21))) hdg (fun _ _ => rfl) 0 (fun _ _ => rfl) (fun _ _ => rfl) k
theorem ld_X9_gone {i : Int32} (hR : Rl wM n own cc nL ret ad J P) (hdg : decode cc pc = .ok (.iaload, 1)) (hin : vp_in i 6) (k : J lv (.int (ar q 22 (ix i)) :: st) q (pc + 1)) : J lv (.int i :: .ref (ad 22) :: st) q pc := r_iald hR (q0 := 22) hdg (fun _ _ => rfl) hin k
theorem sv_X9_gone {i x : Int32} (hR : Rl wM n own cc nL ret ad J P) (hdg : decode cc pc = .ok (.iastore, 1)) (hin : vp_in i 6) (hq : q1 = sa q 22 (ix i) x) (k : J lv st q1 (pc + 1)) : J lv (.int x :: .int i :: .ref (ad 22) :: st) q pc := r_iast hR (q0 := 22) hdg (fun _ _ => rfl) (fun _ _ => by rw [hq]; rfl) hin k
theorem al_X9_gone (hR : Rl wM n own cc nL ret ad J P) (hdg : decode cc pc = .ok (.arraylength, 1)) (k : J lv (.int 6 :: st) q (pc + 1)) : J lv (.ref (ad 22) :: st) q pc := r_alen hR (q0 := 22) (x := fun cI _ => (cI, 6, .inl (ar q 22))) hdg (fun _ _ => rfl) 0 (fun _ _ => rfl) (fun _ _ => rfl) k
theorem ld_X9_hangsOn {i : Int32} (hR : Rl wM n own cc nL ret ad J P) (hdg : decode cc pc = .ok (.iaload, 1)) (hin : vp_in i 6) (k : J lv (.int (ar q 23 (ix i)) :: st) q (pc + 1)) : J lv (.int i :: .ref (ad 23) :: st) q pc := r_iald hR (q0 := 23) hdg (fun _ _ => rfl) hin k
theorem sv_X9_hangsOn {i x : Int32} (hR : Rl wM n own cc nL ret ad J P) (hdg : decode cc pc = .ok (.iastore, 1)) (hin : vp_in i 6) (hq : q1 = sa q 23 (ix i) x) (k : J lv st q1 (pc + 1)) : J lv (.int x :: .int i :: .ref (ad 23) :: st) q pc := r_iast hR (q0 := 23) hdg (fun _ _ => rfl) (fun _ _ => by rw [hq]; rfl) hin k
theorem al_X9_hangsOn (hR : Rl wM n own cc nL ret ad J P) (hdg : decode cc pc = .ok (.arraylength, 1)) (k : J lv (.int 6 :: st) q (pc + 1)) : J lv (.ref (ad 23) :: st) q pc := r_alen hR (q0 := 23) (x := fun cI _ => (cI, 6, .inl (ar q 23))) hdg (fun _ _ => rfl) 0 (fun _ _ => rfl) (fun _ _ => rfl) k
theorem ld_X9_leftRows {i : Int32} (hR : Rl wM n own cc nL ret ad J P) (hdg : decode cc pc = .ok (.iaload, 1)) (hin : vp_in i 6) (k : J lv (.int (ar q 24 (ix i)) :: st) q (pc + 1)) : J lv (.int i :: .ref (ad 24) :: st) q pc := r_iald hR (q0 := 24) hdg (fun _ _ => rfl) hin k
theorem sv_X9_leftRows {i x : Int32} (hR : Rl wM n own cc nL ret ad J P) (hdg : decode cc pc = .ok (.iastore, 1)) (hin : vp_in i 6) (hq : q1 = sa q 24 (ix i) x) (k : J lv st q1 (pc + 1)) : J lv (.int x :: .int i :: .ref (ad 24) :: st) q pc := r_iast hR (q0 := 24) hdg (fun _ _ => rfl) (fun _ _ => by rw [hq]; rfl) hin k
theorem al_X9_leftRows (hR : Rl wM n own cc nL ret ad J P) (hdg : decode cc pc = .ok (.arraylength, 1)) (k : J lv (.int 6 :: st) q (pc + 1)) : J lv (.ref (ad 24) :: st) q pc := r_alen hR (q0 := 24) (x := fun cI _ => (cI, 6, .inl (ar q 24))) hdg (fun _ _ => rfl) 0 (fun _ _ => rfl) (fun _ _ => rfl) k
end WorldRows
end
