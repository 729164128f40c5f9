section
-- ===== PART A: goes FIRST, ahead of the names: the tables' words, and 'selects' of the private methods out of them =====
/-- a private method of a class that the tables say can be made, by its rows of tables_1 -/
def lw_okq (q : MethodName × Nat) : Prop := (q.1.cls ≠ "java/lang/invoke/MethodHandle" ∧ q.1.cls ≠ "java/lang/invoke/VarHandle") ∧ Cond.instantiable q.1.cls q.2 ∈ tables_1 ∧ Cond.privateMethod q.1 ∈ tables_1 ∧ Cond.instanceMethod q.1 ∈ tables_1
theorem lw_p0 : lw_okq (⟨"PinBoards", "finding", "(I)I"⟩, 8) := ⟨⟨by decide +kernel, by decide +kernel⟩, List.mem_of_getElem? (i := 13) (by decide +kernel), List.mem_of_getElem? (i := 239) (by decide +kernel), List.mem_of_getElem? (i := 240) (by decide +kernel)⟩
theorem lw_p1 : lw_okq (⟨"PinBoards", "foundNothing", "(I)I"⟩, 8) := ⟨⟨by decide +kernel, by decide +kernel⟩, List.mem_of_getElem? (i := 13) (by decide +kernel), List.mem_of_getElem? (i := 248) (by decide +kernel), List.mem_of_getElem? (i := 249) (by decide +kernel)⟩
theorem lw_p2 : lw_okq (⟨"PinBoards$Reader", "readLaw", "(LPinBoards$Board;)Z"⟩, 6) := ⟨⟨by decide +kernel, by decide +kernel⟩, List.mem_of_getElem? (i := 42) (by decide +kernel), List.mem_of_getElem? (i := 304) (by decide +kernel), List.mem_of_getElem? (i := 305) (by decide +kernel)⟩
theorem lw_p3 : lw_okq (⟨"PinBoards$Reader", "takes", "(I)Z"⟩, 6) := ⟨⟨by decide +kernel, by decide +kernel⟩, List.mem_of_getElem? (i := 42) (by decide +kernel), List.mem_of_getElem? (i := 308) (by decide +kernel), List.mem_of_getElem? (i := 309) (by decide +kernel)⟩
theorem lw_p4 : lw_okq (⟨"PinBoards$Reader", "isNext", "(I)Z"⟩, 6) := ⟨⟨by decide +kernel, by decide +kernel⟩, List.mem_of_getElem? (i := 42) (by decide +kernel), List.mem_of_getElem? (i := 312) (by decide +kernel), List.mem_of_getElem? (i := 313) (by decide +kernel)⟩
theorem lw_p5 : lw_okq (⟨"PinBoards$Reader", "faultAt", "(II)Z"⟩, 6) := ⟨⟨by decide +kernel, by decide +kernel⟩, List.mem_of_getElem? (i := 42) (by decide +kernel), List.mem_of_getElem? (i := 316) (by decide +kernel), List.mem_of_getElem? (i := 317) (by decide +kernel)⟩
theorem lw_p6 : lw_okq (⟨"PinBoards$Reader", "takesNumber", "(II)Z"⟩, 6) := ⟨⟨by decide +kernel, by decide +kernel⟩, List.mem_of_getElem? (i := 42) (by decide +kernel), List.mem_of_getElem? (i := 320) (by decide +kernel), List.mem_of_getElem? (i := 321) (by decide +kernel)⟩
theorem lw_p7 : lw_okq (⟨"PinBoards$Reader", "readCells", "(LPinBoards$Board;)Z"⟩, 6) := ⟨⟨by decide +kernel, by decide +kernel⟩, List.mem_of_getElem? (i := 42) (by decide +kernel), List.mem_of_getElem? (i := 325) (by decide +kernel), List.mem_of_getElem? (i := 326) (by decide +kernel)⟩
theorem lw_p8 : lw_okq (⟨"PinBoards$Reader", "readCell", "(LPinBoards$Board;)Z"⟩, 6) := ⟨⟨by decide +kernel, by decide +kernel⟩, List.mem_of_getElem? (i := 42) (by decide +kernel), List.mem_of_getElem? (i := 329) (by decide +kernel), List.mem_of_getElem? (i := 330) (by decide +kernel)⟩
theorem lw_p9 : lw_okq (⟨"PinBoards$Reader", "readPins", "(LPinBoards$Board;)Z"⟩, 6) := ⟨⟨by decide +kernel, by decide +kernel⟩, List.mem_of_getElem? (i := 42) (by decide +kernel), List.mem_of_getElem? (i := 333) (by decide +kernel), List.mem_of_getElem? (i := 334) (by decide +kernel)⟩
theorem lw_p10 : lw_okq (⟨"PinBoards$Reader", "readPin", "(LPinBoards$Board;)Z"⟩, 6) := ⟨⟨by decide +kernel, by decide +kernel⟩, List.mem_of_getElem? (i := 42) (by decide +kernel), List.mem_of_getElem? (i := 337) (by decide +kernel), List.mem_of_getElem? (i := 338) (by decide +kernel)⟩
theorem lw_p11 : lw_okq (⟨"PinBoards$Reader", "readHome", "(LPinBoards$Board;)Z"⟩, 6) := ⟨⟨by decide +kernel, by decide +kernel⟩, List.mem_of_getElem? (i := 42) (by decide +kernel), List.mem_of_getElem? (i := 344) (by decide +kernel), List.mem_of_getElem? (i := 345) (by decide +kernel)⟩
theorem lw_p12 : lw_okq (⟨"PinBoards$Board", "mix", "(I)V"⟩, 12) := ⟨⟨by decide +kernel, by decide +kernel⟩, List.mem_of_getElem? (i := 70) (by decide +kernel), List.mem_of_getElem? (i := 401) (by decide +kernel), List.mem_of_getElem? (i := 402) (by decide +kernel)⟩
theorem lw_p13 : lw_okq (⟨"PinBoards$Board", "yieldOfAll", "()I"⟩, 12) := ⟨⟨by decide +kernel, by decide +kernel⟩, List.mem_of_getElem? (i := 70) (by decide +kernel), List.mem_of_getElem? (i := 410) (by decide +kernel), List.mem_of_getElem? (i := 411) (by decide +kernel)⟩
theorem lw_p14 : lw_okq (⟨"PinBoards$Foresight", "isSamePlaces", "()Z"⟩, 2) := ⟨⟨by decide +kernel, by decide +kernel⟩, List.mem_of_getElem? (i := 147) (by decide +kernel), List.mem_of_getElem? (i := 512) (by decide +kernel), List.mem_of_getElem? (i := 513) (by decide +kernel)⟩
theorem lw_p15 : lw_okq (⟨"PinBoards$Board", "fillsHomes", "()Z"⟩, 12) := ⟨⟨by decide +kernel, by decide +kernel⟩, List.mem_of_getElem? (i := 70) (by decide +kernel), List.mem_of_getElem? (i := 528) (by decide +kernel), List.mem_of_getElem? (i := 529) (by decide +kernel)⟩
def lw_privs_1 : List (MethodName × Nat) := [(⟨"PinBoards", "finding", "(I)I"⟩, 8), (⟨"PinBoards", "foundNothing", "(I)I"⟩, 8), (⟨"PinBoards$Reader", "readLaw", "(LPinBoards$Board;)Z"⟩, 6), (⟨"PinBoards$Reader", "takes", "(I)Z"⟩, 6), (⟨"PinBoards$Reader", "isNext", "(I)Z"⟩, 6), (⟨"PinBoards$Reader", "faultAt", "(II)Z"⟩, 6), (⟨"PinBoards$Reader", "takesNumber", "(II)Z"⟩, 6), (⟨"PinBoards$Reader", "readCells", "(LPinBoards$Board;)Z"⟩, 6), (⟨"PinBoards$Reader", "readCell", "(LPinBoards$Board;)Z"⟩, 6), (⟨"PinBoards$Reader", "readPins", "(LPinBoards$Board;)Z"⟩, 6), (⟨"PinBoards$Reader", "readPin", "(LPinBoards$Board;)Z"⟩, 6), (⟨"PinBoards$Reader", "readHome", "(LPinBoards$Board;)Z"⟩, 6), (⟨"PinBoards$Board", "mix", "(I)V"⟩, 12), (⟨"PinBoards$Board", "yieldOfAll", "()I"⟩, 12), (⟨"PinBoards$Foresight", "isSamePlaces", "()Z"⟩, 2), (⟨"PinBoards$Board", "fillsHomes", "()Z"⟩, 12)]
theorem lw_r1 : ∀ q ∈ lw_privs_1, lw_okq q := List.forall_mem_cons.mpr ⟨lw_p0, List.forall_mem_cons.mpr ⟨lw_p1, List.forall_mem_cons.mpr ⟨lw_p2, List.forall_mem_cons.mpr ⟨lw_p3, List.forall_mem_cons.mpr ⟨lw_p4, List.forall_mem_cons.mpr ⟨lw_p5, List.forall_mem_cons.mpr ⟨lw_p6, List.forall_mem_cons.mpr ⟨lw_p7, List.forall_mem_cons.mpr ⟨lw_p8, List.forall_mem_cons.mpr ⟨lw_p9, List.forall_mem_cons.mpr ⟨lw_p10, List.forall_mem_cons.mpr ⟨lw_p11, List.forall_mem_cons.mpr ⟨lw_p12, List.forall_mem_cons.mpr ⟨lw_p13, List.forall_mem_cons.mpr ⟨lw_p14, List.forall_mem_cons.mpr ⟨lw_p15, fun _ h => absurd h List.not_mem_nil⟩⟩⟩⟩⟩⟩⟩⟩⟩⟩⟩⟩⟩⟩⟩⟩
theorem lw_p16 : lw_okq (⟨"PinBoards$Board", "ringOf", "(I)I"⟩, 12) := ⟨⟨by decide +kernel, by decide +kernel⟩, List.mem_of_getElem? (i := 70) (by decide +kernel), List.mem_of_getElem? (i := 532) (by decide +kernel), List.mem_of_getElem? (i := 533) (by decide +kernel)⟩
theorem lw_p17 : lw_okq (⟨"PinBoards$Foresight", "strongest", "(I)I"⟩, 2) := ⟨⟨by decide +kernel, by decide +kernel⟩, List.mem_of_getElem? (i := 147) (by decide +kernel), List.mem_of_getElem? (i := 547) (by decide +kernel), List.mem_of_getElem? (i := 548) (by decide +kernel)⟩
theorem lw_p18 : lw_okq (⟨"PinBoards$Foresight", "busiest", "(I)I"⟩, 2) := ⟨⟨by decide +kernel, by decide +kernel⟩, List.mem_of_getElem? (i := 147) (by decide +kernel), List.mem_of_getElem? (i := 552) (by decide +kernel), List.mem_of_getElem? (i := 553) (by decide +kernel)⟩
theorem lw_p19 : lw_okq (⟨"PinBoards$Foresight", "leastCell", "(III)I"⟩, 2) := ⟨⟨by decide +kernel, by decide +kernel⟩, List.mem_of_getElem? (i := 147) (by decide +kernel), List.mem_of_getElem? (i := 562) (by decide +kernel), List.mem_of_getElem? (i := 563) (by decide +kernel)⟩
theorem lw_p20 : lw_okq (⟨"PinBoards$Foresight", "mostSupposed", "(I)I"⟩, 2) := ⟨⟨by decide +kernel, by decide +kernel⟩, List.mem_of_getElem? (i := 147) (by decide +kernel), List.mem_of_getElem? (i := 574) (by decide +kernel), List.mem_of_getElem? (i := 575) (by decide +kernel)⟩
theorem lw_p21 : lw_okq (⟨"PinBoards$Foresight", "suppose", "(III)V"⟩, 2) := ⟨⟨by decide +kernel, by decide +kernel⟩, List.mem_of_getElem? (i := 147) (by decide +kernel), List.mem_of_getElem? (i := 578) (by decide +kernel), List.mem_of_getElem? (i := 579) (by decide +kernel)⟩
theorem lw_p22 : lw_okq (⟨"PinBoards$Foresight", "tells", "([IIII)Z"⟩, 2) := ⟨⟨by decide +kernel, by decide +kernel⟩, List.mem_of_getElem? (i := 147) (by decide +kernel), List.mem_of_getElem? (i := 582) (by decide +kernel), List.mem_of_getElem? (i := 583) (by decide +kernel)⟩
theorem lw_p23 : lw_okq (⟨"PinBoards$Foresight", "isHeld", "(II)Z"⟩, 2) := ⟨⟨by decide +kernel, by decide +kernel⟩, List.mem_of_getElem? (i := 147) (by decide +kernel), List.mem_of_getElem? (i := 599) (by decide +kernel), List.mem_of_getElem? (i := 600) (by decide +kernel)⟩
theorem lw_p24 : lw_okq (⟨"PinBoards$Asks", "sizeOfOldOne", "(I)I"⟩, 3) := ⟨⟨by decide +kernel, by decide +kernel⟩, List.mem_of_getElem? (i := 183) (by decide +kernel), List.mem_of_getElem? (i := 657) (by decide +kernel), List.mem_of_getElem? (i := 658) (by decide +kernel)⟩
theorem lw_p25 : lw_okq (⟨"PinBoards$Asks", "body13", "(I)I"⟩, 3) := ⟨⟨by decide +kernel, by decide +kernel⟩, List.mem_of_getElem? (i := 183) (by decide +kernel), List.mem_of_getElem? (i := 661) (by decide +kernel), List.mem_of_getElem? (i := 662) (by decide +kernel)⟩
theorem lw_p26 : lw_okq (⟨"PinBoards$Asks", "leave", "(I)V"⟩, 3) := ⟨⟨by decide +kernel, by decide +kernel⟩, List.mem_of_getElem? (i := 183) (by decide +kernel), List.mem_of_getElem? (i := 665) (by decide +kernel), List.mem_of_getElem? (i := 666) (by decide +kernel)⟩
theorem lw_p27 : lw_okq (⟨"PinBoards$Asks", "body10", "(I)I"⟩, 3) := ⟨⟨by decide +kernel, by decide +kernel⟩, List.mem_of_getElem? (i := 183) (by decide +kernel), List.mem_of_getElem? (i := 669) (by decide +kernel), List.mem_of_getElem? (i := 670) (by decide +kernel)⟩
theorem lw_p28 : lw_okq (⟨"PinBoards$Asks", "body11", "(I)I"⟩, 3) := ⟨⟨by decide +kernel, by decide +kernel⟩, List.mem_of_getElem? (i := 183) (by decide +kernel), List.mem_of_getElem? (i := 673) (by decide +kernel), List.mem_of_getElem? (i := 674) (by decide +kernel)⟩
theorem lw_p29 : lw_okq (⟨"PinBoards$Asks", "markOfAgent", "(I)I"⟩, 3) := ⟨⟨by decide +kernel, by decide +kernel⟩, List.mem_of_getElem? (i := 183) (by decide +kernel), List.mem_of_getElem? (i := 677) (by decide +kernel), List.mem_of_getElem? (i := 678) (by decide +kernel)⟩
theorem lw_p30 : lw_okq (⟨"PinBoards$Asks", "body21", "(I)I"⟩, 3) := ⟨⟨by decide +kernel, by decide +kernel⟩, List.mem_of_getElem? (i := 183) (by decide +kernel), List.mem_of_getElem? (i := 681) (by decide +kernel), List.mem_of_getElem? (i := 682) (by decide +kernel)⟩
theorem lw_p31 : lw_okq (⟨"PinBoards$Asks", "body20", "(I)I"⟩, 3) := ⟨⟨by decide +kernel, by decide +kernel⟩, List.mem_of_getElem? (i := 183) (by decide +kernel), List.mem_of_getElem? (i := 685) (by decide +kernel), List.mem_of_getElem? (i := 686) (by decide +kernel)⟩
def lw_privs_2 : List (MethodName × Nat) := [(⟨"PinBoards$Board", "ringOf", "(I)I"⟩, 12), (⟨"PinBoards$Foresight", "strongest", "(I)I"⟩, 2), (⟨"PinBoards$Foresight", "busiest", "(I)I"⟩, 2), (⟨"PinBoards$Foresight", "leastCell", "(III)I"⟩, 2), (⟨"PinBoards$Foresight", "mostSupposed", "(I)I"⟩, 2), (⟨"PinBoards$Foresight", "suppose", "(III)V"⟩, 2), (⟨"PinBoards$Foresight", "tells", "([IIII)Z"⟩, 2), (⟨"PinBoards$Foresight", "isHeld", "(II)Z"⟩, 2), (⟨"PinBoards$Asks", "sizeOfOldOne", "(I)I"⟩, 3), (⟨"PinBoards$Asks", "body13", "(I)I"⟩, 3), (⟨"PinBoards$Asks", "leave", "(I)V"⟩, 3), (⟨"PinBoards$Asks", "body10", "(I)I"⟩, 3), (⟨"PinBoards$Asks", "body11", "(I)I"⟩, 3), (⟨"PinBoards$Asks", "markOfAgent", "(I)I"⟩, 3), (⟨"PinBoards$Asks", "body21", "(I)I"⟩, 3), (⟨"PinBoards$Asks", "body20", "(I)I"⟩, 3)]
theorem lw_r2 : ∀ q ∈ lw_privs_2, lw_okq q := List.forall_mem_cons.mpr ⟨lw_p16, List.forall_mem_cons.mpr ⟨lw_p17, List.forall_mem_cons.mpr ⟨lw_p18, List.forall_mem_cons.mpr ⟨lw_p19, List.forall_mem_cons.mpr ⟨lw_p20, List.forall_mem_cons.mpr ⟨lw_p21, List.forall_mem_cons.mpr ⟨lw_p22, List.forall_mem_cons.mpr ⟨lw_p23, List.forall_mem_cons.mpr ⟨lw_p24, List.forall_mem_cons.mpr ⟨lw_p25, List.forall_mem_cons.mpr ⟨lw_p26, List.forall_mem_cons.mpr ⟨lw_p27, List.forall_mem_cons.mpr ⟨lw_p28, List.forall_mem_cons.mpr ⟨lw_p29, List.forall_mem_cons.mpr ⟨lw_p30, List.forall_mem_cons.mpr ⟨lw_p31, fun _ h => absurd h List.not_mem_nil⟩⟩⟩⟩⟩⟩⟩⟩⟩⟩⟩⟩⟩⟩⟩⟩
theorem lw_p32 : lw_okq (⟨"PinBoards$Asks", "body23", "(I)I"⟩, 3) := ⟨⟨by decide +kernel, by decide +kernel⟩, List.mem_of_getElem? (i := 183) (by decide +kernel), List.mem_of_getElem? (i := 693) (by decide +kernel), List.mem_of_getElem? (i := 694) (by decide +kernel)⟩
theorem lw_p33 : lw_okq (⟨"PinBoardsModel", "found", "(I)I"⟩, 25) := ⟨⟨by decide +kernel, by decide +kernel⟩, List.mem_of_getElem? (i := 715) (by decide +kernel), List.mem_of_getElem? (i := 810) (by decide +kernel), List.mem_of_getElem? (i := 811) (by decide +kernel)⟩
theorem lw_p34 : lw_okq (⟨"PinBoardsModel", "well", "(I)I"⟩, 25) := ⟨⟨by decide +kernel, by decide +kernel⟩, List.mem_of_getElem? (i := 715) (by decide +kernel), List.mem_of_getElem? (i := 815) (by decide +kernel), List.mem_of_getElem? (i := 816) (by decide +kernel)⟩
theorem lw_p35 : lw_okq (⟨"PinBoardsModel", "isMissing", "(I)Z"⟩, 25) := ⟨⟨by decide +kernel, by decide +kernel⟩, List.mem_of_getElem? (i := 715) (by decide +kernel), List.mem_of_getElem? (i := 823) (by decide +kernel), List.mem_of_getElem? (i := 824) (by decide +kernel)⟩
theorem lw_p36 : lw_okq (⟨"PinBoardsModel", "isPart", "(III)Z"⟩, 25) := ⟨⟨by decide +kernel, by decide +kernel⟩, List.mem_of_getElem? (i := 715) (by decide +kernel), List.mem_of_getElem? (i := 834) (by decide +kernel), List.mem_of_getElem? (i := 835) (by decide +kernel)⟩
theorem lw_p37 : lw_okq (⟨"PinBoardsModel", "advances", "()V"⟩, 25) := ⟨⟨by decide +kernel, by decide +kernel⟩, List.mem_of_getElem? (i := 715) (by decide +kernel), List.mem_of_getElem? (i := 851) (by decide +kernel), List.mem_of_getElem? (i := 852) (by decide +kernel)⟩
theorem lw_p38 : lw_okq (⟨"PinBoardsModel", "byteAt", "(I)I"⟩, 25) := ⟨⟨by decide +kernel, by decide +kernel⟩, List.mem_of_getElem? (i := 715) (by decide +kernel), List.mem_of_getElem? (i := 855) (by decide +kernel), List.mem_of_getElem? (i := 856) (by decide +kernel)⟩
theorem lw_p39 : lw_okq (⟨"PinBoardsModel", "takes", "(ZI)I"⟩, 25) := ⟨⟨by decide +kernel, by decide +kernel⟩, List.mem_of_getElem? (i := 715) (by decide +kernel), List.mem_of_getElem? (i := 859) (by decide +kernel), List.mem_of_getElem? (i := 860) (by decide +kernel)⟩
theorem lw_p40 : lw_okq (⟨"PinBoardsModel", "isWell", "()Z"⟩, 25) := ⟨⟨by decide +kernel, by decide +kernel⟩, List.mem_of_getElem? (i := 715) (by decide +kernel), List.mem_of_getElem? (i := 863) (by decide +kernel), List.mem_of_getElem? (i := 864) (by decide +kernel)⟩
theorem lw_p41 : lw_okq (⟨"PinBoardsModel", "figure", "(II)I"⟩, 25) := ⟨⟨by decide +kernel, by decide +kernel⟩, List.mem_of_getElem? (i := 715) (by decide +kernel), List.mem_of_getElem? (i := 867) (by decide +kernel), List.mem_of_getElem? (i := 868) (by decide +kernel)⟩
theorem lw_p42 : lw_okq (⟨"PinBoardsModel", "readsCell", "()V"⟩, 25) := ⟨⟨by decide +kernel, by decide +kernel⟩, List.mem_of_getElem? (i := 715) (by decide +kernel), List.mem_of_getElem? (i := 871) (by decide +kernel), List.mem_of_getElem? (i := 872) (by decide +kernel)⟩
theorem lw_p43 : lw_okq (⟨"PinBoardsModel", "must", "(Z)V"⟩, 25) := ⟨⟨by decide +kernel, by decide +kernel⟩, List.mem_of_getElem? (i := 715) (by decide +kernel), List.mem_of_getElem? (i := 875) (by decide +kernel), List.mem_of_getElem? (i := 876) (by decide +kernel)⟩
theorem lw_p44 : lw_okq (⟨"PinBoardsModel", "readsPin", "()V"⟩, 25) := ⟨⟨by decide +kernel, by decide +kernel⟩, List.mem_of_getElem? (i := 715) (by decide +kernel), List.mem_of_getElem? (i := 882) (by decide +kernel), List.mem_of_getElem? (i := 883) (by decide +kernel)⟩
theorem lw_p45 : lw_okq (⟨"PinBoardsModel", "takes2", "(Z)V"⟩, 25) := ⟨⟨by decide +kernel, by decide +kernel⟩, List.mem_of_getElem? (i := 715) (by decide +kernel), List.mem_of_getElem? (i := 889) (by decide +kernel), List.mem_of_getElem? (i := 890) (by decide +kernel)⟩
theorem lw_p46 : lw_okq (⟨"PinBoardsModel", "follows", "(II)I"⟩, 25) := ⟨⟨by decide +kernel, by decide +kernel⟩, List.mem_of_getElem? (i := 715) (by decide +kernel), List.mem_of_getElem? (i := 893) (by decide +kernel), List.mem_of_getElem? (i := 894) (by decide +kernel)⟩
theorem lw_p47 : lw_okq (⟨"PinBoardsModel", "isMap", "()Z"⟩, 25) := ⟨⟨by decide +kernel, by decide +kernel⟩, List.mem_of_getElem? (i := 715) (by decide +kernel), List.mem_of_getElem? (i := 909) (by decide +kernel), List.mem_of_getElem? (i := 910) (by decide +kernel)⟩
def lw_privs_3 : List (MethodName × Nat) := [(⟨"PinBoards$Asks", "body23", "(I)I"⟩, 3), (⟨"PinBoardsModel", "found", "(I)I"⟩, 25), (⟨"PinBoardsModel", "well", "(I)I"⟩, 25), (⟨"PinBoardsModel", "isMissing", "(I)Z"⟩, 25), (⟨"PinBoardsModel", "isPart", "(III)Z"⟩, 25), (⟨"PinBoardsModel", "advances", "()V"⟩, 25), (⟨"PinBoardsModel", "byteAt", "(I)I"⟩, 25), (⟨"PinBoardsModel", "takes", "(ZI)I"⟩, 25), (⟨"PinBoardsModel", "isWell", "()Z"⟩, 25), (⟨"PinBoardsModel", "figure", "(II)I"⟩, 25), (⟨"PinBoardsModel", "readsCell", "()V"⟩, 25), (⟨"PinBoardsModel", "must", "(Z)V"⟩, 25), (⟨"PinBoardsModel", "readsPin", "()V"⟩, 25), (⟨"PinBoardsModel", "takes2", "(Z)V"⟩, 25), (⟨"PinBoardsModel", "follows", "(II)I"⟩, 25), (⟨"PinBoardsModel", "isMap", "()Z"⟩, 25)]
theorem lw_r3 : ∀ q ∈ lw_privs_3, lw_okq q := List.forall_mem_cons.mpr ⟨lw_p32, List.forall_mem_cons.mpr ⟨lw_p33, List.forall_mem_cons.mpr ⟨lw_p34, List.forall_mem_cons.mpr ⟨lw_p35, List.forall_mem_cons.mpr ⟨lw_p36, List.forall_mem_cons.mpr ⟨lw_p37, List.forall_mem_cons.mpr ⟨lw_p38, List.forall_mem_cons.mpr ⟨lw_p39, List.forall_mem_cons.mpr ⟨lw_p40, List.forall_mem_cons.mpr ⟨lw_p41, List.forall_mem_cons.mpr ⟨lw_p42, List.forall_mem_cons.mpr ⟨lw_p43, List.forall_mem_cons.mpr ⟨lw_p44, List.forall_mem_cons.mpr ⟨lw_p45, List.forall_mem_cons.mpr ⟨lw_p46, List.forall_mem_cons.mpr ⟨lw_p47, fun _ h => absurd h List.not_mem_nil⟩⟩⟩⟩⟩⟩⟩⟩⟩⟩⟩⟩⟩⟩⟩⟩
theorem lw_p48 : lw_okq (⟨"PinBoardsModel", "notes", "()V"⟩, 25) := ⟨⟨by decide +kernel, by decide +kernel⟩, List.mem_of_getElem? (i := 715) (by decide +kernel), List.mem_of_getElem? (i := 914) (by decide +kernel), List.mem_of_getElem? (i := 915) (by decide +kernel)⟩
theorem lw_p49 : lw_okq (⟨"PinBoardsModel", "isPin", "(I)Z"⟩, 25) := ⟨⟨by decide +kernel, by decide +kernel⟩, List.mem_of_getElem? (i := 715) (by decide +kernel), List.mem_of_getElem? (i := 947) (by decide +kernel), List.mem_of_getElem? (i := 948) (by decide +kernel)⟩
theorem lw_p50 : lw_okq (⟨"PinBoardsModel", "isCell", "(I)Z"⟩, 25) := ⟨⟨by decide +kernel, by decide +kernel⟩, List.mem_of_getElem? (i := 715) (by decide +kernel), List.mem_of_getElem? (i := 951) (by decide +kernel), List.mem_of_getElem? (i := 952) (by decide +kernel)⟩
theorem lw_p51 : lw_okq (⟨"PinBoardsModel", "goesOn", "(I)V"⟩, 25) := ⟨⟨by decide +kernel, by decide +kernel⟩, List.mem_of_getElem? (i := 715) (by decide +kernel), List.mem_of_getElem? (i := 986) (by decide +kernel), List.mem_of_getElem? (i := 987) (by decide +kernel)⟩
theorem lw_p52 : lw_okq (⟨"PinBoardsModel", "changes", "()I"⟩, 25) := ⟨⟨by decide +kernel, by decide +kernel⟩, List.mem_of_getElem? (i := 715) (by decide +kernel), List.mem_of_getElem? (i := 1009) (by decide +kernel), List.mem_of_getElem? (i := 1010) (by decide +kernel)⟩
theorem lw_p53 : lw_okq (⟨"PinBoardsModel", "mostOf", "(II)I"⟩, 25) := ⟨⟨by decide +kernel, by decide +kernel⟩, List.mem_of_getElem? (i := 715) (by decide +kernel), List.mem_of_getElem? (i := 1017) (by decide +kernel), List.mem_of_getElem? (i := 1018) (by decide +kernel)⟩
theorem lw_p54 : lw_okq (⟨"PinBoardsModel", "triesBy", "(III)V"⟩, 25) := ⟨⟨by decide +kernel, by decide +kernel⟩, List.mem_of_getElem? (i := 715) (by decide +kernel), List.mem_of_getElem? (i := 1028) (by decide +kernel), List.mem_of_getElem? (i := 1029) (by decide +kernel)⟩
theorem lw_p55 : lw_okq (⟨"PinBoardsModel", "isSeen", "(III)Z"⟩, 25) := ⟨⟨by decide +kernel, by decide +kernel⟩, List.mem_of_getElem? (i := 715) (by decide +kernel), List.mem_of_getElem? (i := 1032) (by decide +kernel), List.mem_of_getElem? (i := 1033) (by decide +kernel)⟩
theorem lw_p56 : lw_okq (⟨"PinBoardsModel", "toOpening", "()V"⟩, 25) := ⟨⟨by decide +kernel, by decide +kernel⟩, List.mem_of_getElem? (i := 715) (by decide +kernel), List.mem_of_getElem? (i := 1036) (by decide +kernel), List.mem_of_getElem? (i := 1037) (by decide +kernel)⟩
theorem lw_p57 : lw_okq (⟨"PinBoardsModel", "kindIn", "(I)I"⟩, 25) := ⟨⟨by decide +kernel, by decide +kernel⟩, List.mem_of_getElem? (i := 715) (by decide +kernel), List.mem_of_getElem? (i := 1066) (by decide +kernel), List.mem_of_getElem? (i := 1067) (by decide +kernel)⟩
theorem lw_p58 : lw_okq (⟨"PinBoardsModel", "oldSize", "(I)I"⟩, 25) := ⟨⟨by decide +kernel, by decide +kernel⟩, List.mem_of_getElem? (i := 715) (by decide +kernel), List.mem_of_getElem? (i := 1078) (by decide +kernel), List.mem_of_getElem? (i := 1079) (by decide +kernel)⟩
theorem lw_p59 : lw_okq (⟨"PinBoardsModel", "begins", "(I)V"⟩, 25) := ⟨⟨by decide +kernel, by decide +kernel⟩, List.mem_of_getElem? (i := 715) (by decide +kernel), List.mem_of_getElem? (i := 1082) (by decide +kernel), List.mem_of_getElem? (i := 1083) (by decide +kernel)⟩
theorem lw_p60 : lw_okq (⟨"PinBoardsModel", "agentSize", "(I)I"⟩, 25) := ⟨⟨by decide +kernel, by decide +kernel⟩, List.mem_of_getElem? (i := 715) (by decide +kernel), List.mem_of_getElem? (i := 1086) (by decide +kernel), List.mem_of_getElem? (i := 1087) (by decide +kernel)⟩
theorem lw_p61 : lw_okq (⟨"PinBoardsModel", "agentMark", "(I)I"⟩, 25) := ⟨⟨by decide +kernel, by decide +kernel⟩, List.mem_of_getElem? (i := 715) (by decide +kernel), List.mem_of_getElem? (i := 1090) (by decide +kernel), List.mem_of_getElem? (i := 1091) (by decide +kernel)⟩
theorem lw_p62 : lw_okq (⟨"PinBoardsModel", "oldMark", "(I)I"⟩, 25) := ⟨⟨by decide +kernel, by decide +kernel⟩, List.mem_of_getElem? (i := 715) (by decide +kernel), List.mem_of_getElem? (i := 1094) (by decide +kernel), List.mem_of_getElem? (i := 1095) (by decide +kernel)⟩
def lw_privs_4 : List (MethodName × Nat) := [(⟨"PinBoardsModel", "notes", "()V"⟩, 25), (⟨"PinBoardsModel", "isPin", "(I)Z"⟩, 25), (⟨"PinBoardsModel", "isCell", "(I)Z"⟩, 25), (⟨"PinBoardsModel", "goesOn", "(I)V"⟩, 25), (⟨"PinBoardsModel", "changes", "()I"⟩, 25), (⟨"PinBoardsModel", "mostOf", "(II)I"⟩, 25), (⟨"PinBoardsModel", "triesBy", "(III)V"⟩, 25), (⟨"PinBoardsModel", "isSeen", "(III)Z"⟩, 25), (⟨"PinBoardsModel", "toOpening", "()V"⟩, 25), (⟨"PinBoardsModel", "kindIn", "(I)I"⟩, 25), (⟨"PinBoardsModel", "oldSize", "(I)I"⟩, 25), (⟨"PinBoardsModel", "begins", "(I)V"⟩, 25), (⟨"PinBoardsModel", "agentSize", "(I)I"⟩, 25), (⟨"PinBoardsModel", "agentMark", "(I)I"⟩, 25), (⟨"PinBoardsModel", "oldMark", "(I)I"⟩, 25)]
theorem lw_r4 : ∀ q ∈ lw_privs_4, lw_okq q := List.forall_mem_cons.mpr ⟨lw_p48, List.forall_mem_cons.mpr ⟨lw_p49, List.forall_mem_cons.mpr ⟨lw_p50, List.forall_mem_cons.mpr ⟨lw_p51, List.forall_mem_cons.mpr ⟨lw_p52, List.forall_mem_cons.mpr ⟨lw_p53, List.forall_mem_cons.mpr ⟨lw_p54, List.forall_mem_cons.mpr ⟨lw_p55, List.forall_mem_cons.mpr ⟨lw_p56, List.forall_mem_cons.mpr ⟨lw_p57, List.forall_mem_cons.mpr ⟨lw_p58, List.forall_mem_cons.mpr ⟨lw_p59, List.forall_mem_cons.mpr ⟨lw_p60, List.forall_mem_cons.mpr ⟨lw_p61, List.forall_mem_cons.mpr ⟨lw_p62, fun _ h => absurd h List.not_mem_nil⟩⟩⟩⟩⟩⟩⟩⟩⟩⟩⟩⟩⟩⟩⟩
def lw_privs : List (MethodName × Nat) := lw_privs_1 ++ (lw_privs_2 ++ (lw_privs_3 ++ (lw_privs_4)))
def lw_tbl : List Cond := k2_sels lw_privs ++ tables_1
theorem lw_privs_ok : ∀ q ∈ lw_privs, lw_okq q := by
  show ∀ q ∈ lw_privs_1 ++ (lw_privs_2 ++ (lw_privs_3 ++ (lw_privs_4))), lw_okq q
  exact List.forall_mem_append.mpr ⟨lw_r1, List.forall_mem_append.mpr ⟨lw_r2, List.forall_mem_append.mpr ⟨lw_r3, lw_r4⟩⟩⟩
end
section
def RX0 : String := "PinBoards$Asks"
def TX0 : u_T := fun k => match k with
  | 0 => ("PinBoards$Asks", "numbers", "[I", true)
  | 1 => ("PinBoards$Asks", "traced", "I", false)
  | _ => ("PinBoards$Asks", "board", "LPinBoards$Board;", true)
def tyX0 : Nat → FieldType := fun k => match k with
  | 0 => .array .int
  | 1 => .int
  | _ => .object "PinBoards$Board"
abbrev wsX00 : List Cond := u_ws RX0 TX0 3
theorem nmX0 : ∀ a, a < 3 → ∀ b, b < 3 → a ≠ b → (TX0 a).2.1 ≠ (TX0 b).2.1 := by decide +kernel
theorem tyX0_ok : ∀ k, k < 3 → parseFieldDescriptor (TX0 k).2.2.1 = some (tyX0 k) := by decide +kernel
abbrev cX0_init : ByteArray := prog_2_method_1_code
def yX0_init : MethodName := ⟨RX0, "<init>", "(LPinBoards$Board;)V"⟩
abbrev cX0_begin : ByteArray := prog_2_method_2_code
def yX0_begin : MethodName := ⟨RX0, "begin", "()V"⟩
abbrev cX0_sizeOf : ByteArray := prog_2_method_3_code
def yX0_sizeOf : MethodName := ⟨RX0, "sizeOf", "(I)I"⟩
abbrev cX0_sizeOfOldOne : ByteArray := prog_2_method_4_code
def yX0_sizeOfOldOne : MethodName := ⟨RX0, "sizeOfOldOne", "(I)I"⟩
abbrev cX0_markOf : ByteArray := prog_2_method_5_code
def yX0_markOf : MethodName := ⟨RX0, "markOf", "(I)I"⟩
abbrev cX0_markOfAgent : ByteArray := prog_2_method_6_code
def yX0_markOfAgent : MethodName := ⟨RX0, "markOfAgent", "(I)I"⟩
abbrev cX0_body10 : ByteArray := prog_2_method_7_code
def yX0_body10 : MethodName := ⟨RX0, "body10", "(I)I"⟩
abbrev cX0_body11 : ByteArray := prog_2_method_8_code
def yX0_body11 : MethodName := ⟨RX0, "body11", "(I)I"⟩
abbrev cX0_body13 : ByteArray := prog_2_method_9_code
def yX0_body13 : MethodName := ⟨RX0, "body13", "(I)I"⟩
abbrev cX0_body20 : ByteArray := prog_2_method_10_code
def yX0_body20 : MethodName := ⟨RX0, "body20", "(I)I"⟩
abbrev cX0_body21 : ByteArray := prog_2_method_11_code
def yX0_body21 : MethodName := ⟨RX0, "body21", "(I)I"⟩
abbrev cX0_body23 : ByteArray := prog_2_method_12_code
def yX0_body23 : MethodName := ⟨RX0, "body23", "(I)I"⟩
abbrev cX0_leave : ByteArray := prog_2_method_13_code
def yX0_leave : MethodName := ⟨RX0, "leave", "(I)V"⟩
def RX1 : String := "PinBoards$Board"
def TX1 : u_T := fun k => match k with
  | 0 => ("PinBoards$Board", "cells", "I", false)
  | 1 => ("PinBoards$Board", "pins", "I", false)
  | 2 => ("PinBoards$Board", "slip", "I", false)
  | 3 => ("PinBoards$Board", "time", "I", false)
  | 4 => ("PinBoards$Board", "earned", "I", false)
  | 5 => ("PinBoards$Board", "day", "Z", false)
  | 6 => ("PinBoards$Board", "work", "[I", true)
  | 7 => ("PinBoards$Board", "home", "[I", true)
  | 8 => ("PinBoards$Board", "skill", "[I", true)
  | 9 => ("PinBoards$Board", "colour", "[I", true)
  | 10 => ("PinBoards$Board", "kind", "[I", true)
  | _ => ("PinBoards$Board", "last", "[I", true)
def tyX1 : Nat → FieldType := fun k => match k with
  | 0 => .int
  | 1 => .int
  | 2 => .int
  | 3 => .int
  | 4 => .int
  | 5 => .boolean
  | 6 => .array .int
  | 7 => .array .int
  | 8 => .array .int
  | 9 => .array .int
  | 10 => .array .int
  | _ => .array .int
abbrev wsX10 : List Cond := u_ws RX1 TX1 12
theorem nmX1 : ∀ a, a < 12 → ∀ b, b < 12 → a ≠ b → (TX1 a).2.1 ≠ (TX1 b).2.1 := by decide +kernel
theorem tyX1_ok : ∀ k, k < 12 → parseFieldDescriptor (TX1 k).2.2.1 = some (tyX1 k) := by decide +kernel
abbrev cX1_init : ByteArray := prog_3_method_1_code
def yX1_init : MethodName := ⟨RX1, "<init>", "()V"⟩
abbrev cX1_stands : ByteArray := prog_3_method_2_code
def yX1_stands : MethodName := ⟨RX1, "stands", "()Z"⟩
abbrev cX1_hasPin : ByteArray := prog_3_method_3_code
def yX1_hasPin : MethodName := ⟨RX1, "hasPin", "(I)Z"⟩
abbrev cX1_hasCell : ByteArray := prog_3_method_4_code
def yX1_hasCell : MethodName := ⟨RX1, "hasCell", "(I)Z"⟩
abbrev cX1_makeEmpty : ByteArray := prog_3_method_5_code
def yX1_makeEmpty : MethodName := ⟨RX1, "makeEmpty", "()V"⟩
abbrev cX1_takeFrom : ByteArray := prog_3_method_6_code
def yX1_takeFrom : MethodName := ⟨RX1, "takeFrom", "(LPinBoards$Board;)V"⟩
abbrev cX1_turn : ByteArray := prog_3_method_7_code
def yX1_turn : MethodName := ⟨RX1, "turn", "()V"⟩
abbrev cX1_openAndWork : ByteArray := prog_3_method_8_code
def yX1_openAndWork : MethodName := ⟨RX1, "openAndWork", "()V"⟩
abbrev cX1_open : ByteArray := prog_3_method_9_code
def yX1_open : MethodName := ⟨RX1, "open", "(I)V"⟩
abbrev cX1_mix : ByteArray := prog_3_method_10_code
def yX1_mix : MethodName := ⟨RX1, "mix", "(I)V"⟩
abbrev cX1_change : ByteArray := prog_3_method_11_code
def yX1_change : MethodName := ⟨RX1, "change", "(II)V"⟩
abbrev cX1_yieldOfAll : ByteArray := prog_3_method_12_code
def yX1_yieldOfAll : MethodName := ⟨RX1, "yieldOfAll", "()I"⟩
abbrev cX1_worth : ByteArray := prog_3_method_13_code
def yX1_worth : MethodName := ⟨RX1, "worth", "(II)I"⟩
abbrev cX1_place : ByteArray := prog_3_method_14_code
def yX1_place : MethodName := ⟨RX1, "place", "(I)I"⟩
abbrev cX1_pinsInTray : ByteArray := prog_3_method_15_code
def yX1_pinsInTray : MethodName := ⟨RX1, "pinsInTray", "()I"⟩
abbrev cX1_pinsIn : ByteArray := prog_3_method_16_code
def yX1_pinsIn : MethodName := ⟨RX1, "pinsIn", "(I)I"⟩
abbrev cX1_owner : ByteArray := prog_3_method_17_code
def yX1_owner : MethodName := ⟨RX1, "owner", "(I)I"⟩
abbrev cX1_pinsAtHome : ByteArray := prog_3_method_18_code
def yX1_pinsAtHome : MethodName := ⟨RX1, "pinsAtHome", "()I"⟩
abbrev cX1_fewestChanges : ByteArray := prog_3_method_19_code
def yX1_fewestChanges : MethodName := ⟨RX1, "fewestChanges", "()I"⟩
abbrev cX1_fillsHomes : ByteArray := prog_3_method_20_code
def yX1_fillsHomes : MethodName := ⟨RX1, "fillsHomes", "()Z"⟩
abbrev cX1_ringOf : ByteArray := prog_3_method_21_code
def yX1_ringOf : MethodName := ⟨RX1, "ringOf", "(I)I"⟩
def RX2 : String := "PinBoards$Foresight"
def TX2 : u_T := fun k => match k with
  | 0 => ("PinBoards$Foresight", "trial", "LPinBoards$Board;", true)
  | _ => ("PinBoards$Foresight", "board", "LPinBoards$Board;", true)
def tyX2 : Nat → FieldType := fun k => match k with
  | 0 => .object "PinBoards$Board"
  | _ => .object "PinBoards$Board"
abbrev wsX20 : List Cond := u_ws RX2 TX2 2
theorem nmX2 : ∀ a, a < 2 → ∀ b, b < 2 → a ≠ b → (TX2 a).2.1 ≠ (TX2 b).2.1 := by decide +kernel
theorem tyX2_ok : ∀ k, k < 2 → parseFieldDescriptor (TX2 k).2.2.1 = some (tyX2 k) := by decide +kernel
abbrev cX2_init : ByteArray := prog_4_method_1_code
def yX2_init : MethodName := ⟨RX2, "<init>", "(LPinBoards$Board;)V"⟩
abbrev cX2_goOn : ByteArray := prog_4_method_2_code
def yX2_goOn : MethodName := ⟨RX2, "goOn", "(I)V"⟩
abbrev cX2_turnsTillIn : ByteArray := prog_4_method_3_code
def yX2_turnsTillIn : MethodName := ⟨RX2, "turnsTillIn", "(II)I"⟩
abbrev cX2_turnsTillSame : ByteArray := prog_4_method_4_code
def yX2_turnsTillSame : MethodName := ⟨RX2, "turnsTillSame", "()I"⟩
abbrev cX2_isSamePlaces : ByteArray := prog_4_method_5_code
def yX2_isSamePlaces : MethodName := ⟨RX2, "isSamePlaces", "()Z"⟩
abbrev cX2_mostWorth : ByteArray := prog_4_method_6_code
def yX2_mostWorth : MethodName := ⟨RX2, "mostWorth", "(II)I"⟩
abbrev cX2_strongest : ByteArray := prog_4_method_7_code
def yX2_strongest : MethodName := ⟨RX2, "strongest", "(I)I"⟩
abbrev cX2_busiest : ByteArray := prog_4_method_8_code
def yX2_busiest : MethodName := ⟨RX2, "busiest", "(I)I"⟩
abbrev cX2_bestCell : ByteArray := prog_4_method_9_code
def yX2_bestCell : MethodName := ⟨RX2, "bestCell", "(I)I"⟩
abbrev cX2_leastCell : ByteArray := prog_4_method_10_code
def yX2_leastCell : MethodName := ⟨RX2, "leastCell", "(III)I"⟩
abbrev cX2_fitting : ByteArray := prog_4_method_11_code
def yX2_fitting : MethodName := ⟨RX2, "fitting", "(II[III)I"⟩
abbrev cX2_mostSupposed : ByteArray := prog_4_method_12_code
def yX2_mostSupposed : MethodName := ⟨RX2, "mostSupposed", "(I)I"⟩
abbrev cX2_suppose : ByteArray := prog_4_method_13_code
def yX2_suppose : MethodName := ⟨RX2, "suppose", "(III)V"⟩
abbrev cX2_tells : ByteArray := prog_4_method_14_code
def yX2_tells : MethodName := ⟨RX2, "tells", "([IIII)Z"⟩
abbrev cX2_heldWhenLeftOut : ByteArray := prog_4_method_15_code
def yX2_heldWhenLeftOut : MethodName := ⟨RX2, "heldWhenLeftOut", "(III)I"⟩
abbrev cX2_isHeld : ByteArray := prog_4_method_16_code
def yX2_isHeld : MethodName := ⟨RX2, "isHeld", "(II)Z"⟩
abbrev cX2_power : ByteArray := prog_4_method_17_code
def yX2_power : MethodName := ⟨RX2, "power", "(II)I"⟩
abbrev cX2_commonDivisor : ByteArray := prog_4_method_18_code
def yX2_commonDivisor : MethodName := ⟨RX2, "commonDivisor", "(II)I"⟩
abbrev cX2_drawYears : ByteArray := prog_4_method_19_code
def yX2_drawYears : MethodName := ⟨RX2, "drawYears", "(II)V"⟩
def RX3 : String := "PinBoards$Past"
def TX3 : u_T := fun k => match k with
  | 0 => ("PinBoards$Past", "held", "I", false)
  | 1 => ("PinBoards$Past", "oldest", "I", false)
  | _ => ("PinBoards$Past", "before", "[LPinBoards$Board;", true)
def tyX3 : Nat → FieldType := fun k => match k with
  | 0 => .int
  | 1 => .int
  | _ => .array (.object "PinBoards$Board")
abbrev wsX30 : List Cond := u_ws RX3 TX3 3
theorem nmX3 : ∀ a, a < 3 → ∀ b, b < 3 → a ≠ b → (TX3 a).2.1 ≠ (TX3 b).2.1 := by decide +kernel
theorem tyX3_ok : ∀ k, k < 3 → parseFieldDescriptor (TX3 k).2.2.1 = some (tyX3 k) := by decide +kernel
abbrev cX3_init : ByteArray := prog_5_method_1_code
def yX3_init : MethodName := ⟨RX3, "<init>", "()V"⟩
abbrev cX3_keep : ByteArray := prog_5_method_2_code
def yX3_keep : MethodName := ⟨RX3, "keep", "(LPinBoards$Board;)V"⟩
abbrev cX3_giveBack : ByteArray := prog_5_method_3_code
def yX3_giveBack : MethodName := ⟨RX3, "giveBack", "(LPinBoards$Board;)V"⟩
abbrev cX3_forget : ByteArray := prog_5_method_4_code
def yX3_forget : MethodName := ⟨RX3, "forget", "()V"⟩
def RX4 : String := "PinBoards$Reader"
def TX4 : u_T := fun k => match k with
  | 0 => ("PinBoards$Reader", "tape", "[I", true)
  | 1 => ("PinBoards$Reader", "length", "I", false)
  | 2 => ("PinBoards$Reader", "faultNumber", "I", false)
  | 3 => ("PinBoards$Reader", "faultPlace", "I", false)
  | 4 => ("PinBoards$Reader", "next", "I", false)
  | _ => ("PinBoards$Reader", "number", "I", false)
def tyX4 : Nat → FieldType := fun k => match k with
  | 0 => .array .int
  | 1 => .int
  | 2 => .int
  | 3 => .int
  | 4 => .int
  | _ => .int
abbrev wsX40 : List Cond := u_ws RX4 TX4 6
theorem nmX4 : ∀ a, a < 6 → ∀ b, b < 6 → a ≠ b → (TX4 a).2.1 ≠ (TX4 b).2.1 := by decide +kernel
theorem tyX4_ok : ∀ k, k < 6 → parseFieldDescriptor (TX4 k).2.2.1 = some (tyX4 k) := by decide +kernel
abbrev cX4_init : ByteArray := prog_6_method_1_code
def yX4_init : MethodName := ⟨RX4, "<init>", "()V"⟩
abbrev cX4_append : ByteArray := prog_6_method_2_code
def yX4_append : MethodName := ⟨RX4, "append", "(I)I"⟩
abbrev cX4_clear : ByteArray := prog_6_method_3_code
def yX4_clear : MethodName := ⟨RX4, "clear", "()V"⟩
abbrev cX4_readInto : ByteArray := prog_6_method_4_code
def yX4_readInto : MethodName := ⟨RX4, "readInto", "(LPinBoards$Board;)Z"⟩
abbrev cX4_readLaw : ByteArray := prog_6_method_5_code
def yX4_readLaw : MethodName := ⟨RX4, "readLaw", "(LPinBoards$Board;)Z"⟩
abbrev cX4_readCells : ByteArray := prog_6_method_6_code
def yX4_readCells : MethodName := ⟨RX4, "readCells", "(LPinBoards$Board;)Z"⟩
abbrev cX4_readCell : ByteArray := prog_6_method_7_code
def yX4_readCell : MethodName := ⟨RX4, "readCell", "(LPinBoards$Board;)Z"⟩
abbrev cX4_readPins : ByteArray := prog_6_method_8_code
def yX4_readPins : MethodName := ⟨RX4, "readPins", "(LPinBoards$Board;)Z"⟩
abbrev cX4_readPin : ByteArray := prog_6_method_9_code
def yX4_readPin : MethodName := ⟨RX4, "readPin", "(LPinBoards$Board;)Z"⟩
abbrev cX4_readHome : ByteArray := prog_6_method_10_code
def yX4_readHome : MethodName := ⟨RX4, "readHome", "(LPinBoards$Board;)Z"⟩
abbrev cX4_kindOf : ByteArray := prog_6_method_11_code
def yX4_kindOf : MethodName := ⟨RX4, "kindOf", "(I)I"⟩
abbrev cX4_isNext : ByteArray := prog_6_method_12_code
def yX4_isNext : MethodName := ⟨RX4, "isNext", "(I)Z"⟩
abbrev cX4_takes : ByteArray := prog_6_method_13_code
def yX4_takes : MethodName := ⟨RX4, "takes", "(I)Z"⟩
abbrev cX4_takesNumber : ByteArray := prog_6_method_14_code
def yX4_takesNumber : MethodName := ⟨RX4, "takesNumber", "(II)Z"⟩
abbrev cX4_faultAt : ByteArray := prog_6_method_15_code
def yX4_faultAt : MethodName := ⟨RX4, "faultAt", "(II)Z"⟩
def RX5 : String := "PinBoards$Rows"
def TX5 : u_T := fun k => match k with
  | 0 => ("PinBoards$Rows", "lanes", "[I", true)
  | 1 => ("PinBoards$Rows", "sizes", "[I", true)
  | _ => ("PinBoards$Rows", "items", "[[I", true)
def tyX5 : Nat → FieldType := fun k => match k with
  | 0 => .array .int
  | 1 => .array .int
  | _ => .array (.array .int)
abbrev wsX50 : List Cond := u_ws RX5 TX5 3
theorem nmX5 : ∀ a, a < 3 → ∀ b, b < 3 → a ≠ b → (TX5 a).2.1 ≠ (TX5 b).2.1 := by decide +kernel
theorem tyX5_ok : ∀ k, k < 3 → parseFieldDescriptor (TX5 k).2.2.1 = some (tyX5 k) := by decide +kernel
abbrev cX5_init : ByteArray := prog_7_method_1_code
def yX5_init : MethodName := ⟨RX5, "<init>", "()V"⟩
abbrev cX5_isRow : ByteArray := prog_7_method_2_code
def yX5_isRow : MethodName := ⟨RX5, "isRow", "(I)Z"⟩
abbrev cX5_isMissing : ByteArray := prog_7_method_3_code
def yX5_isMissing : MethodName := ⟨RX5, "isMissing", "(I)Z"⟩
abbrev cX5_hasPlaces : ByteArray := prog_7_method_4_code
def yX5_hasPlaces : MethodName := ⟨RX5, "hasPlaces", "(III)Z"⟩
abbrev cX5_lay : ByteArray := prog_7_method_5_code
def yX5_lay : MethodName := ⟨RX5, "lay", "(III)V"⟩
abbrev cX5_put : ByteArray := prog_7_method_6_code
def yX5_put : MethodName := ⟨RX5, "put", "(III)I"⟩
abbrev cX5_remove : ByteArray := prog_7_method_7_code
def yX5_remove : MethodName := ⟨RX5, "remove", "(I)I"⟩
abbrev cX5_present : ByteArray := prog_7_method_8_code
def yX5_present : MethodName := ⟨RX5, "present", "()I"⟩
def RX6 : String := "PinBoards"
def TX6 : u_T := fun k => match k with
  | 0 => ("PinBoards", "rows", "LPinBoards$Rows;", true)
  | 1 => ("PinBoards", "reader", "LPinBoards$Reader;", true)
  | 2 => ("PinBoards", "board", "LPinBoards$Board;", true)
  | 3 => ("PinBoards", "foresight", "LPinBoards$Foresight;", true)
  | 4 => ("PinBoards", "past", "LPinBoards$Past;", true)
  | 5 => ("PinBoards", "asks", "LPinBoards$Asks;", true)
  | 6 => ("PinBoards", "images", "[LPinBoards$Board;", true)
  | _ => ("PinBoards", "lastFinding", "I", false)
def tyX6 : Nat → FieldType := fun k => match k with
  | 0 => .object "PinBoards$Rows"
  | 1 => .object "PinBoards$Reader"
  | 2 => .object "PinBoards$Board"
  | 3 => .object "PinBoards$Foresight"
  | 4 => .object "PinBoards$Past"
  | 5 => .object "PinBoards$Asks"
  | 6 => .array (.object "PinBoards$Board")
  | _ => .int
abbrev wsX60 : List Cond := u_ws RX6 TX6 8
theorem nmX6 : ∀ a, a < 8 → ∀ b, b < 8 → a ≠ b → (TX6 a).2.1 ≠ (TX6 b).2.1 := by decide +kernel
theorem tyX6_ok : ∀ k, k < 8 → parseFieldDescriptor (TX6 k).2.2.1 = some (tyX6 k) := by decide +kernel
abbrev cX6_init : ByteArray := prog_1_method_1_code
def yX6_init : MethodName := ⟨RX6, "<init>", "()V"⟩
abbrev cX6_row : ByteArray := prog_1_method_2_code
def yX6_row : MethodName := ⟨RX6, "row", "(III)I"⟩
abbrev cX6_set : ByteArray := prog_1_method_3_code
def yX6_set : MethodName := ⟨RX6, "set", "(III)I"⟩
abbrev cX6_copy : ByteArray := prog_1_method_4_code
def yX6_copy : MethodName := ⟨RX6, "copy", "(IIIII)I"⟩
abbrev cX6_drop : ByteArray := prog_1_method_5_code
def yX6_drop : MethodName := ⟨RX6, "drop", "(I)I"⟩
abbrev cX6_feed : ByteArray := prog_1_method_6_code
def yX6_feed : MethodName := ⟨RX6, "feed", "(I)I"⟩
abbrev cX6_map : ByteArray := prog_1_method_7_code
def yX6_map : MethodName := ⟨RX6, "map", "()I"⟩
abbrev cX6_fault : ByteArray := prog_1_method_8_code
def yX6_fault : MethodName := ⟨RX6, "fault", "()I"⟩
abbrev cX6_times : ByteArray := prog_1_method_9_code
def yX6_times : MethodName := ⟨RX6, "times", "(I)I"⟩
abbrev cX6_move : ByteArray := prog_1_method_10_code
def yX6_move : MethodName := ⟨RX6, "move", "(II)I"⟩
abbrev cX6_swap : ByteArray := prog_1_method_11_code
def yX6_swap : MethodName := ⟨RX6, "swap", "(II)I"⟩
abbrev cX6_work : ByteArray := prog_1_method_12_code
def yX6_work : MethodName := ⟨RX6, "work", "(II)I"⟩
abbrev cX6_slip : ByteArray := prog_1_method_13_code
def yX6_slip : MethodName := ⟨RX6, "slip", "(I)I"⟩
abbrev cX6_undo : ByteArray := prog_1_method_14_code
def yX6_undo : MethodName := ⟨RX6, "undo", "()I"⟩
abbrev cX6_pin : ByteArray := prog_1_method_15_code
def yX6_pin : MethodName := ⟨RX6, "pin", "(II)I"⟩
abbrev cX6_cell : ByteArray := prog_1_method_16_code
def yX6_cell : MethodName := ⟨RX6, "cell", "(II)I"⟩
abbrev cX6_ahead : ByteArray := prog_1_method_17_code
def yX6_ahead : MethodName := ⟨RX6, "ahead", "(II)I"⟩
abbrev cX6_earned : ByteArray := prog_1_method_18_code
def yX6_earned : MethodName := ⟨RX6, "earned", "(I)I"⟩
abbrev cX6_tomsk : ByteArray := prog_1_method_19_code
def yX6_tomsk : MethodName := ⟨RX6, "tomsk", "(II)I"⟩
abbrev cX6_round : ByteArray := prog_1_method_20_code
def yX6_round : MethodName := ⟨RX6, "round", "()I"⟩
abbrev cX6_right : ByteArray := prog_1_method_21_code
def yX6_right : MethodName := ⟨RX6, "right", "(I)I"⟩
abbrev cX6_best : ByteArray := prog_1_method_22_code
def yX6_best : MethodName := ⟨RX6, "best", "(I)I"⟩
abbrev cX6_fits : ByteArray := prog_1_method_23_code
def yX6_fits : MethodName := ⟨RX6, "fits", "(IIIII)I"⟩
abbrev cX6_left : ByteArray := prog_1_method_24_code
def yX6_left : MethodName := ⟨RX6, "left", "(III)I"⟩
abbrev cX6_drawn : ByteArray := prog_1_method_25_code
def yX6_drawn : MethodName := ⟨RX6, "drawn", "(III)I"⟩
abbrev cX6_image : ByteArray := prog_1_method_26_code
def yX6_image : MethodName := ⟨RX6, "image", "(I)I"⟩
abbrev cX6_restore : ByteArray := prog_1_method_27_code
def yX6_restore : MethodName := ⟨RX6, "restore", "(I)I"⟩
abbrev cX6_kind : ByteArray := prog_1_method_28_code
def yX6_kind : MethodName := ⟨RX6, "kind", "(I)I"⟩
abbrev cX6_as : ByteArray := prog_1_method_29_code
def yX6_as : MethodName := ⟨RX6, "as", "(II)I"⟩
abbrev cX6_ask : ByteArray := prog_1_method_30_code
def yX6_ask : MethodName := ⟨RX6, "ask", "(II)I"⟩
abbrev cX6_trace : ByteArray := prog_1_method_31_code
def yX6_trace : MethodName := ⟨RX6, "trace", "(I)I"⟩
abbrev cX6_count : ByteArray := prog_1_method_32_code
def yX6_count : MethodName := ⟨RX6, "count", "(I)I"⟩
abbrev cX6_status : ByteArray := prog_1_method_33_code
def yX6_status : MethodName := ⟨RX6, "status", "()I"⟩
abbrev cX6_finding : ByteArray := prog_1_method_34_code
def yX6_finding : MethodName := ⟨RX6, "finding", "(I)I"⟩
abbrev cX6_foundNothing : ByteArray := prog_1_method_35_code
def yX6_foundNothing : MethodName := ⟨RX6, "foundNothing", "(I)I"⟩
abbrev cX6_within : ByteArray := prog_1_method_36_code
def yX6_within : MethodName := ⟨RX6, "within", "(III)Z"⟩
abbrev cX6_isSet : ByteArray := prog_1_method_37_code
def yX6_isSet : MethodName := ⟨RX6, "isSet", "(II)Z"⟩
abbrev cX6_isA : ByteArray := prog_1_method_38_code
def yX6_isA : MethodName := ⟨RX6, "isA", "(II)Z"⟩
def RX7 : String := "PinBoardsModel"
def TX7 : u_T := fun k => match k with
  | 0 => ("PinBoardsModel", "lane", "[I", true)
  | 1 => ("PinBoardsModel", "many", "[I", true)
  | 2 => ("PinBoardsModel", "items", "[I", true)
  | 3 => ("PinBoardsModel", "spare", "[I", true)
  | 4 => ("PinBoardsModel", "status", "I", false)
  | 5 => ("PinBoardsModel", "tape", "[I", true)
  | 6 => ("PinBoardsModel", "taped", "I", false)
  | 7 => ("PinBoardsModel", "faultKind", "I", false)
  | 8 => ("PinBoardsModel", "faultPlace", "I", false)
  | 9 => ("PinBoardsModel", "at", "I", false)
  | 10 => ("PinBoardsModel", "start", "I", false)
  | 11 => ("PinBoardsModel", "token", "I", false)
  | 12 => ("PinBoardsModel", "value", "I", false)
  | 13 => ("PinBoardsModel", "now", "[I", true)
  | 14 => ("PinBoardsModel", "draft", "[I", true)
  | 15 => ("PinBoardsModel", "tried", "[I", true)
  | 16 => ("PinBoardsModel", "past", "[I", true)
  | 17 => ("PinBoardsModel", "acts", "I", false)
  | 18 => ("PinBoardsModel", "images", "[I", true)
  | 19 => ("PinBoardsModel", "kept", "[Z", true)
  | 20 => ("PinBoardsModel", "skills", "[I", true)
  | 21 => ("PinBoardsModel", "works", "[I", true)
  | 22 => ("PinBoardsModel", "goes", "[I", true)
  | 23 => ("PinBoardsModel", "trace", "[I", true)
  | _ => ("PinBoardsModel", "traced", "I", false)
def tyX7 : Nat → FieldType := fun k => match k with
  | 0 => .array .int
  | 1 => .array .int
  | 2 => .array .int
  | 3 => .array .int
  | 4 => .int
  | 5 => .array .int
  | 6 => .int
  | 7 => .int
  | 8 => .int
  | 9 => .int
  | 10 => .int
  | 11 => .int
  | 12 => .int
  | 13 => .array .int
  | 14 => .array .int
  | 15 => .array .int
  | 16 => .array .int
  | 17 => .int
  | 18 => .array .int
  | 19 => .array .boolean
  | 20 => .array .int
  | 21 => .array .int
  | 22 => .array .int
  | 23 => .array .int
  | _ => .int
abbrev wsX70 : List Cond := u_ws RX7 TX7 25
theorem nmX7 : ∀ a, a < 25 → ∀ b, b < 25 → a ≠ b → (TX7 a).2.1 ≠ (TX7 b).2.1 := by decide +kernel
theorem tyX7_ok : ∀ k, k < 25 → parseFieldDescriptor (TX7 k).2.2.1 = some (tyX7 k) := by decide +kernel
abbrev cX7_init : ByteArray := prog_9_method_1_code
def yX7_init : MethodName := ⟨RX7, "<init>", "()V"⟩
abbrev cX7_in : ByteArray := prog_9_method_3_code
def yX7_in : MethodName := ⟨RX7, "in", "(III)Z"⟩
abbrev cX7_has : ByteArray := prog_9_method_4_code
def yX7_has : MethodName := ⟨RX7, "has", "(II)Z"⟩
abbrev cX7_ones : ByteArray := prog_9_method_5_code
def yX7_ones : MethodName := ⟨RX7, "ones", "(I)I"⟩
abbrev cX7_found : ByteArray := prog_9_method_6_code
def yX7_found : MethodName := ⟨RX7, "found", "(I)I"⟩
abbrev cX7_well : ByteArray := prog_9_method_7_code
def yX7_well : MethodName := ⟨RX7, "well", "(I)I"⟩
abbrev cX7_copies : ByteArray := prog_9_method_8_code
def yX7_copies : MethodName := ⟨RX7, "copies", "([II[II)V"⟩
abbrev cX7_isRow : ByteArray := prog_9_method_9_code
def yX7_isRow : MethodName := ⟨RX7, "isRow", "(I)Z"⟩
abbrev cX7_isMissing : ByteArray := prog_9_method_10_code
def yX7_isMissing : MethodName := ⟨RX7, "isMissing", "(I)Z"⟩
abbrev cX7_cut : ByteArray := prog_9_method_11_code
def yX7_cut : MethodName := ⟨RX7, "cut", "(II)I"⟩
abbrev cX7_row : ByteArray := prog_9_method_12_code
def yX7_row : MethodName := ⟨RX7, "row", "(III)I"⟩
abbrev cX7_set : ByteArray := prog_9_method_13_code
def yX7_set : MethodName := ⟨RX7, "set", "(III)I"⟩
abbrev cX7_isPart : ByteArray := prog_9_method_14_code
def yX7_isPart : MethodName := ⟨RX7, "isPart", "(III)Z"⟩
abbrev cX7_copy : ByteArray := prog_9_method_15_code
def yX7_copy : MethodName := ⟨RX7, "copy", "(IIIII)I"⟩
abbrev cX7_drop : ByteArray := prog_9_method_16_code
def yX7_drop : MethodName := ⟨RX7, "drop", "(I)I"⟩
abbrev cX7_feed : ByteArray := prog_9_method_17_code
def yX7_feed : MethodName := ⟨RX7, "feed", "(I)I"⟩
abbrev cX7_byteAt : ByteArray := prog_9_method_18_code
def yX7_byteAt : MethodName := ⟨RX7, "byteAt", "(I)I"⟩
abbrev cX7_advances : ByteArray := prog_9_method_19_code
def yX7_advances : MethodName := ⟨RX7, "advances", "()V"⟩
abbrev cX7_isWell : ByteArray := prog_9_method_20_code
def yX7_isWell : MethodName := ⟨RX7, "isWell", "()Z"⟩
abbrev cX7_takes : ByteArray := prog_9_method_21_code
def yX7_takes : MethodName := ⟨RX7, "takes", "(ZI)I"⟩
abbrev cX7_figure : ByteArray := prog_9_method_22_code
def yX7_figure : MethodName := ⟨RX7, "figure", "(II)I"⟩
abbrev cX7_kindOf : ByteArray := prog_9_method_23_code
def yX7_kindOf : MethodName := ⟨RX7, "kindOf", "(I)I"⟩
abbrev cX7_follows : ByteArray := prog_9_method_24_code
def yX7_follows : MethodName := ⟨RX7, "follows", "(II)I"⟩
abbrev cX7_readsCell : ByteArray := prog_9_method_25_code
def yX7_readsCell : MethodName := ⟨RX7, "readsCell", "()V"⟩
abbrev cX7_homeOf : ByteArray := prog_9_method_26_code
def yX7_homeOf : MethodName := ⟨RX7, "homeOf", "([II)I"⟩
abbrev cX7_takes2 : ByteArray := prog_9_method_27_code
def yX7_takes2 : MethodName := ⟨RX7, "takes2", "(Z)V"⟩
abbrev cX7_readsPin : ByteArray := prog_9_method_28_code
def yX7_readsPin : MethodName := ⟨RX7, "readsPin", "()V"⟩
abbrev cX7_must : ByteArray := prog_9_method_29_code
def yX7_must : MethodName := ⟨RX7, "must", "(Z)V"⟩
abbrev cX7_map : ByteArray := prog_9_method_30_code
def yX7_map : MethodName := ⟨RX7, "map", "()I"⟩
abbrev cX7_fault : ByteArray := prog_9_method_31_code
def yX7_fault : MethodName := ⟨RX7, "fault", "()I"⟩
abbrev cX7_isMap : ByteArray := prog_9_method_32_code
def yX7_isMap : MethodName := ⟨RX7, "isMap", "()Z"⟩
abbrev cX7_isPin : ByteArray := prog_9_method_33_code
def yX7_isPin : MethodName := ⟨RX7, "isPin", "(I)Z"⟩
abbrev cX7_isCell : ByteArray := prog_9_method_34_code
def yX7_isCell : MethodName := ⟨RX7, "isCell", "(I)Z"⟩
abbrev cX7_inCell : ByteArray := prog_9_method_35_code
def yX7_inCell : MethodName := ⟨RX7, "inCell", "([II)I"⟩
abbrev cX7_inTray : ByteArray := prog_9_method_36_code
def yX7_inTray : MethodName := ⟨RX7, "inTray", "([I)I"⟩
abbrev cX7_closes : ByteArray := prog_9_method_37_code
def yX7_closes : MethodName := ⟨RX7, "closes", "([I)V"⟩
abbrev cX7_mixedWith : ByteArray := prog_9_method_38_code
def yX7_mixedWith : MethodName := ⟨RX7, "mixedWith", "([II)I"⟩
abbrev cX7_putsBack : ByteArray := prog_9_method_39_code
def yX7_putsBack : MethodName := ⟨RX7, "putsBack", "([II)V"⟩
abbrev cX7_opens : ByteArray := prog_9_method_40_code
def yX7_opens : MethodName := ⟨RX7, "opens", "([II)V"⟩
abbrev cX7_passes : ByteArray := prog_9_method_41_code
def yX7_passes : MethodName := ⟨RX7, "passes", "([I)V"⟩
abbrev cX7_lays : ByteArray := prog_9_method_42_code
def yX7_lays : MethodName := ⟨RX7, "lays", "([III)V"⟩
abbrev cX7_rights : ByteArray := prog_9_method_43_code
def yX7_rights : MethodName := ⟨RX7, "rights", "([I)I"⟩
abbrev cX7_notes : ByteArray := prog_9_method_44_code
def yX7_notes : MethodName := ⟨RX7, "notes", "()V"⟩
abbrev cX7_times : ByteArray := prog_9_method_45_code
def yX7_times : MethodName := ⟨RX7, "times", "(I)I"⟩
abbrev cX7_move : ByteArray := prog_9_method_46_code
def yX7_move : MethodName := ⟨RX7, "move", "(II)I"⟩
abbrev cX7_swap : ByteArray := prog_9_method_47_code
def yX7_swap : MethodName := ⟨RX7, "swap", "(II)I"⟩
abbrev cX7_work : ByteArray := prog_9_method_48_code
def yX7_work : MethodName := ⟨RX7, "work", "(II)I"⟩
abbrev cX7_slip : ByteArray := prog_9_method_49_code
def yX7_slip : MethodName := ⟨RX7, "slip", "(I)I"⟩
abbrev cX7_undo : ByteArray := prog_9_method_50_code
def yX7_undo : MethodName := ⟨RX7, "undo", "()I"⟩
abbrev cX7_pin : ByteArray := prog_9_method_51_code
def yX7_pin : MethodName := ⟨RX7, "pin", "(II)I"⟩
abbrev cX7_cell : ByteArray := prog_9_method_52_code
def yX7_cell : MethodName := ⟨RX7, "cell", "(II)I"⟩
abbrev cX7_goesOn : ByteArray := prog_9_method_53_code
def yX7_goesOn : MethodName := ⟨RX7, "goesOn", "(I)V"⟩
abbrev cX7_ahead : ByteArray := prog_9_method_54_code
def yX7_ahead : MethodName := ⟨RX7, "ahead", "(II)I"⟩
abbrev cX7_earned : ByteArray := prog_9_method_55_code
def yX7_earned : MethodName := ⟨RX7, "earned", "(I)I"⟩
abbrev cX7_tomsk : ByteArray := prog_9_method_56_code
def yX7_tomsk : MethodName := ⟨RX7, "tomsk", "(II)I"⟩
abbrev cX7_round : ByteArray := prog_9_method_57_code
def yX7_round : MethodName := ⟨RX7, "round", "()I"⟩
abbrev cX7_changes : ByteArray := prog_9_method_58_code
def yX7_changes : MethodName := ⟨RX7, "changes", "()I"⟩
abbrev cX7_right : ByteArray := prog_9_method_59_code
def yX7_right : MethodName := ⟨RX7, "right", "(I)I"⟩
abbrev cX7_laysIn : ByteArray := prog_9_method_60_code
def yX7_laysIn : MethodName := ⟨RX7, "laysIn", "([III)V"⟩
abbrev cX7_mostOf : ByteArray := prog_9_method_61_code
def yX7_mostOf : MethodName := ⟨RX7, "mostOf", "(II)I"⟩
abbrev cX7_best : ByteArray := prog_9_method_62_code
def yX7_best : MethodName := ⟨RX7, "best", "(I)I"⟩
abbrev cX7_toOpening : ByteArray := prog_9_method_63_code
def yX7_toOpening : MethodName := ⟨RX7, "toOpening", "()V"⟩
abbrev cX7_isSeen : ByteArray := prog_9_method_64_code
def yX7_isSeen : MethodName := ⟨RX7, "isSeen", "(III)Z"⟩
abbrev cX7_triesBy : ByteArray := prog_9_method_65_code
def yX7_triesBy : MethodName := ⟨RX7, "triesBy", "(III)V"⟩
abbrev cX7_fits : ByteArray := prog_9_method_66_code
def yX7_fits : MethodName := ⟨RX7, "fits", "(IIIII)I"⟩
abbrev cX7_left : ByteArray := prog_9_method_67_code
def yX7_left : MethodName := ⟨RX7, "left", "(III)I"⟩
abbrev cX7_drawn : ByteArray := prog_9_method_68_code
def yX7_drawn : MethodName := ⟨RX7, "drawn", "(III)I"⟩
abbrev cX7_image : ByteArray := prog_9_method_69_code
def yX7_image : MethodName := ⟨RX7, "image", "(I)I"⟩
abbrev cX7_restore : ByteArray := prog_9_method_70_code
def yX7_restore : MethodName := ⟨RX7, "restore", "(I)I"⟩
abbrev cX7_kindIn : ByteArray := prog_9_method_71_code
def yX7_kindIn : MethodName := ⟨RX7, "kindIn", "(I)I"⟩
abbrev cX7_kind : ByteArray := prog_9_method_72_code
def yX7_kind : MethodName := ⟨RX7, "kind", "(I)I"⟩
abbrev cX7_as : ByteArray := prog_9_method_73_code
def yX7_as : MethodName := ⟨RX7, "as", "(II)I"⟩
abbrev cX7_begins : ByteArray := prog_9_method_74_code
def yX7_begins : MethodName := ⟨RX7, "begins", "(I)V"⟩
abbrev cX7_agentMark : ByteArray := prog_9_method_75_code
def yX7_agentMark : MethodName := ⟨RX7, "agentMark", "(I)I"⟩
abbrev cX7_oldSize : ByteArray := prog_9_method_76_code
def yX7_oldSize : MethodName := ⟨RX7, "oldSize", "(I)I"⟩
abbrev cX7_agentSize : ByteArray := prog_9_method_77_code
def yX7_agentSize : MethodName := ⟨RX7, "agentSize", "(I)I"⟩
abbrev cX7_oldMark : ByteArray := prog_9_method_78_code
def yX7_oldMark : MethodName := ⟨RX7, "oldMark", "(I)I"⟩
abbrev cX7_ask : ByteArray := prog_9_method_79_code
def yX7_ask : MethodName := ⟨RX7, "ask", "(II)I"⟩
abbrev cX7_trace : ByteArray := prog_9_method_80_code
def yX7_trace : MethodName := ⟨RX7, "trace", "(I)I"⟩
abbrev cX7_count : ByteArray := prog_9_method_81_code
def yX7_count : MethodName := ⟨RX7, "count", "(I)I"⟩
abbrev cX7_status : ByteArray := prog_9_method_82_code
def yX7_status : MethodName := ⟨RX7, "status", "()I"⟩
def RJ6 : String := "java/lang/Integer"
def TJ6 : u_T := fun k => match k with
  | _ => ("", "", "", false)
def tyJ6 : Nat → FieldType := fun k => match k with
  | _ => .int
abbrev wsJ60 : List Cond := u_ws RJ6 TJ6 0
theorem nmJ6 : ∀ a, a < 0 → ∀ b, b < 0 → a ≠ b → (TJ6 a).2.1 ≠ (TJ6 b).2.1 := by decide +kernel
theorem tyJ6_ok : ∀ k, k < 0 → parseFieldDescriptor (TJ6 k).2.2.1 = some (tyJ6 k) := by decide +kernel
abbrev cJ6_bitCount_0f7a4 : ByteArray := prog_10_method_49_code
def yJ6_bitCount_0f7a4 : MethodName := ⟨RJ6, "bitCount", "(I)I"⟩
def RJ9 : String := "java/lang/Math"
def TJ9 : u_T := fun k => match k with
  | _ => ("", "", "", false)
def tyJ9 : Nat → FieldType := fun k => match k with
  | _ => .int
abbrev wsJ90 : List Cond := u_ws RJ9 TJ9 0
theorem nmJ9 : ∀ a, a < 0 → ∀ b, b < 0 → a ≠ b → (TJ9 a).2.1 ≠ (TJ9 b).2.1 := by decide +kernel
theorem tyJ9_ok : ∀ k, k < 0 → parseFieldDescriptor (TJ9 k).2.2.1 = some (tyJ9 k) := by decide +kernel
abbrev cJ9_min_7cf53 : ByteArray := prog_11_method_69_code
def yJ9_min_7cf53 : MethodName := ⟨RJ9, "min", "(II)I"⟩
def RJ10 : String := "java/lang/System"
def TJ10 : u_T := fun k => match k with
  | _ => ("", "", "", false)
def tyJ10 : Nat → FieldType := fun k => match k with
  | _ => .int
abbrev wsJ100 : List Cond := u_ws RJ10 TJ10 0
theorem nmJ10 : ∀ a, a < 0 → ∀ b, b < 0 → a ≠ b → (TJ10 a).2.1 ≠ (TJ10 b).2.1 := by decide +kernel
theorem tyJ10_ok : ∀ k, k < 0 → parseFieldDescriptor (TJ10 k).2.2.1 = some (tyJ10 k) := by decide +kernel
def RL : String := "PinBoardsLaw"
abbrev cL_law : ByteArray := code
def yL_law : MethodName := ⟨RL, "law", "([I)Z"⟩
theorem dX0_init_0 : decode cX0_init 0 = .ok (.aload_n 0, 1) := by decide +kernel
theorem dX0_init_1 : decode cX0_init 1 = .ok (.invokespecial 3, 3) := by decide +kernel
theorem dX0_init_4 : decode cX0_init 4 = .ok (.aload_n 0, 1) := by decide +kernel
theorem dX0_init_5 : decode cX0_init 5 = .ok (.bipush 16, 2) := by decide +kernel
theorem dX0_init_7 : decode cX0_init 7 = .ok (.newarray .int, 2) := by decide +kernel
theorem dX0_init_9 : decode cX0_init 9 = .ok (.putfield 9, 3) := by decide +kernel
theorem dX0_init_12 : decode cX0_init 12 = .ok (.aload_n 0, 1) := by decide +kernel
theorem dX0_init_13 : decode cX0_init 13 = .ok (.aload_n 1, 1) := by decide +kernel
theorem dX0_init_14 : decode cX0_init 14 = .ok (.putfield 15, 3) := by decide +kernel
theorem dX0_init_17 : decode cX0_init 17 = .ok (.return_, 1) := by decide +kernel
theorem dX0_begin_0 : decode cX0_begin 0 = .ok (.aload_n 0, 1) := by decide +kernel
theorem dX0_begin_1 : decode cX0_begin 1 = .ok (.iconst 0, 1) := by decide +kernel
theorem dX0_begin_2 : decode cX0_begin 2 = .ok (.putfield 19, 3) := by decide +kernel
theorem dX0_begin_5 : decode cX0_begin 5 = .ok (.return_, 1) := by decide +kernel
theorem dX0_sizeOf_0 : decode cX0_sizeOf 0 = .ok (.aload_n 0, 1) := by decide +kernel
theorem dX0_sizeOf_1 : decode cX0_sizeOf 1 = .ok (.getfield 15, 3) := by decide +kernel
theorem dX0_sizeOf_4 : decode cX0_sizeOf 4 = .ok (.getfield 23, 3) := by decide +kernel
theorem dX0_sizeOf_7 : decode cX0_sizeOf 7 = .ok (.iload_n 1, 1) := by decide +kernel
theorem dX0_sizeOf_8 : decode cX0_sizeOf 8 = .ok (.iaload, 1) := by decide +kernel
theorem dX0_sizeOf_9 : decode cX0_sizeOf 9 = .ok (.iconst 4, 1) := by decide +kernel
theorem dX0_sizeOf_10 : decode cX0_sizeOf 10 = .ok (.invokestatic 28, 3) := by decide +kernel
theorem dX0_sizeOf_13 : decode cX0_sizeOf 13 = .ok (.ifCond .eq 9, 3) := by decide +kernel
theorem dX0_sizeOf_16 : decode cX0_sizeOf 16 = .ok (.aload_n 0, 1) := by decide +kernel
theorem dX0_sizeOf_17 : decode cX0_sizeOf 17 = .ok (.iload_n 1, 1) := by decide +kernel
theorem dX0_sizeOf_18 : decode cX0_sizeOf 18 = .ok (.invokevirtual 32, 3) := by decide +kernel
theorem dX0_sizeOf_21 : decode cX0_sizeOf 21 = .ok (.ireturn, 1) := by decide +kernel
theorem dX0_sizeOf_22 : decode cX0_sizeOf 22 = .ok (.aload_n 0, 1) := by decide +kernel
theorem dX0_sizeOf_23 : decode cX0_sizeOf 23 = .ok (.getfield 15, 3) := by decide +kernel
theorem dX0_sizeOf_26 : decode cX0_sizeOf 26 = .ok (.getfield 23, 3) := by decide +kernel
theorem dX0_sizeOf_29 : decode cX0_sizeOf 29 = .ok (.iload_n 1, 1) := by decide +kernel
theorem dX0_sizeOf_30 : decode cX0_sizeOf 30 = .ok (.iaload, 1) := by decide +kernel
theorem dX0_sizeOf_31 : decode cX0_sizeOf 31 = .ok (.iconst 2, 1) := by decide +kernel
theorem dX0_sizeOf_32 : decode cX0_sizeOf 32 = .ok (.if_icmp .eq 9, 3) := by decide +kernel
theorem dX0_sizeOf_35 : decode cX0_sizeOf 35 = .ok (.aload_n 0, 1) := by decide +kernel
theorem dX0_sizeOf_36 : decode cX0_sizeOf 36 = .ok (.iload_n 1, 1) := by decide +kernel
theorem dX0_sizeOf_37 : decode cX0_sizeOf 37 = .ok (.invokevirtual 36, 3) := by decide +kernel
theorem dX0_sizeOf_40 : decode cX0_sizeOf 40 = .ok (.ireturn, 1) := by decide +kernel
theorem dX0_sizeOf_41 : decode cX0_sizeOf 41 = .ok (.aload_n 0, 1) := by decide +kernel
theorem dX0_sizeOf_42 : decode cX0_sizeOf 42 = .ok (.bipush 12, 2) := by decide +kernel
theorem dX0_sizeOf_44 : decode cX0_sizeOf 44 = .ok (.invokevirtual 39, 3) := by decide +kernel
theorem dX0_sizeOf_47 : decode cX0_sizeOf 47 = .ok (.aload_n 0, 1) := by decide +kernel
theorem dX0_sizeOf_48 : decode cX0_sizeOf 48 = .ok (.iload_n 1, 1) := by decide +kernel
theorem dX0_sizeOf_49 : decode cX0_sizeOf 49 = .ok (.invokevirtual 36, 3) := by decide +kernel
theorem dX0_sizeOf_52 : decode cX0_sizeOf 52 = .ok (.ineg, 1) := by decide +kernel
theorem dX0_sizeOf_53 : decode cX0_sizeOf 53 = .ok (.ireturn, 1) := by decide +kernel
theorem dX0_sizeOfOldOne_0 : decode cX0_sizeOfOldOne 0 = .ok (.aload_n 0, 1) := by decide +kernel
theorem dX0_sizeOfOldOne_1 : decode cX0_sizeOfOldOne 1 = .ok (.getfield 15, 3) := by decide +kernel
theorem dX0_sizeOfOldOne_4 : decode cX0_sizeOfOldOne 4 = .ok (.getfield 23, 3) := by decide +kernel
theorem dX0_sizeOfOldOne_7 : decode cX0_sizeOfOldOne 7 = .ok (.iload_n 1, 1) := by decide +kernel
theorem dX0_sizeOfOldOne_8 : decode cX0_sizeOfOldOne 8 = .ok (.iaload, 1) := by decide +kernel
theorem dX0_sizeOfOldOne_9 : decode cX0_sizeOfOldOne 9 = .ok (.iconst 5, 1) := by decide +kernel
theorem dX0_sizeOfOldOne_10 : decode cX0_sizeOfOldOne 10 = .ok (.if_icmp .eq 9, 3) := by decide +kernel
theorem dX0_sizeOfOldOne_13 : decode cX0_sizeOfOldOne 13 = .ok (.aload_n 0, 1) := by decide +kernel
theorem dX0_sizeOfOldOne_14 : decode cX0_sizeOfOldOne 14 = .ok (.iload_n 1, 1) := by decide +kernel
theorem dX0_sizeOfOldOne_15 : decode cX0_sizeOfOldOne 15 = .ok (.invokevirtual 43, 3) := by decide +kernel
theorem dX0_sizeOfOldOne_18 : decode cX0_sizeOfOldOne 18 = .ok (.ireturn, 1) := by decide +kernel
theorem dX0_sizeOfOldOne_19 : decode cX0_sizeOfOldOne 19 = .ok (.aload_n 0, 1) := by decide +kernel
theorem dX0_sizeOfOldOne_20 : decode cX0_sizeOfOldOne 20 = .ok (.bipush 14, 2) := by decide +kernel
theorem dX0_sizeOfOldOne_22 : decode cX0_sizeOfOldOne 22 = .ok (.invokevirtual 39, 3) := by decide +kernel
theorem dX0_sizeOfOldOne_25 : decode cX0_sizeOfOldOne 25 = .ok (.iconst 2, 1) := by decide +kernel
theorem dX0_sizeOfOldOne_26 : decode cX0_sizeOfOldOne 26 = .ok (.aload_n 0, 1) := by decide +kernel
theorem dX0_sizeOfOldOne_27 : decode cX0_sizeOfOldOne 27 = .ok (.iload_n 1, 1) := by decide +kernel
theorem dX0_sizeOfOldOne_28 : decode cX0_sizeOfOldOne 28 = .ok (.invokevirtual 43, 3) := by decide +kernel
theorem dX0_sizeOfOldOne_31 : decode cX0_sizeOfOldOne 31 = .ok (.imul, 1) := by decide +kernel
theorem dX0_sizeOfOldOne_32 : decode cX0_sizeOfOldOne 32 = .ok (.ireturn, 1) := by decide +kernel
theorem dX0_markOf_0 : decode cX0_markOf 0 = .ok (.aload_n 0, 1) := by decide +kernel
theorem dX0_markOf_1 : decode cX0_markOf 1 = .ok (.getfield 15, 3) := by decide +kernel
theorem dX0_markOf_4 : decode cX0_markOf 4 = .ok (.getfield 23, 3) := by decide +kernel
theorem dX0_markOf_7 : decode cX0_markOf 7 = .ok (.iload_n 1, 1) := by decide +kernel
theorem dX0_markOf_8 : decode cX0_markOf 8 = .ok (.iaload, 1) := by decide +kernel
theorem dX0_markOf_9 : decode cX0_markOf 9 = .ok (.iconst 4, 1) := by decide +kernel
theorem dX0_markOf_10 : decode cX0_markOf 10 = .ok (.invokestatic 28, 3) := by decide +kernel
theorem dX0_markOf_13 : decode cX0_markOf 13 = .ok (.ifCond .eq 11, 3) := by decide +kernel
theorem dX0_markOf_16 : decode cX0_markOf 16 = .ok (.aload_n 0, 1) := by decide +kernel
theorem dX0_markOf_17 : decode cX0_markOf 17 = .ok (.iload_n 1, 1) := by decide +kernel
theorem dX0_markOf_18 : decode cX0_markOf 18 = .ok (.invokevirtual 46, 3) := by decide +kernel
theorem dX0_markOf_21 : decode cX0_markOf 21 = .ok (.goto 8, 3) := by decide +kernel
theorem dX0_markOf_24 : decode cX0_markOf 24 = .ok (.aload_n 0, 1) := by decide +kernel
theorem dX0_markOf_25 : decode cX0_markOf 25 = .ok (.iload_n 1, 1) := by decide +kernel
theorem dX0_markOf_26 : decode cX0_markOf 26 = .ok (.invokevirtual 49, 3) := by decide +kernel
theorem dX0_markOf_29 : decode cX0_markOf 29 = .ok (.ireturn, 1) := by decide +kernel
theorem dX0_markOfAgent_0 : decode cX0_markOfAgent 0 = .ok (.aload_n 0, 1) := by decide +kernel
theorem dX0_markOfAgent_1 : decode cX0_markOfAgent 1 = .ok (.getfield 15, 3) := by decide +kernel
theorem dX0_markOfAgent_4 : decode cX0_markOfAgent 4 = .ok (.getfield 23, 3) := by decide +kernel
theorem dX0_markOfAgent_7 : decode cX0_markOfAgent 7 = .ok (.iload_n 1, 1) := by decide +kernel
theorem dX0_markOfAgent_8 : decode cX0_markOfAgent 8 = .ok (.iaload, 1) := by decide +kernel
theorem dX0_markOfAgent_9 : decode cX0_markOfAgent 9 = .ok (.iconst 2, 1) := by decide +kernel
theorem dX0_markOfAgent_10 : decode cX0_markOfAgent 10 = .ok (.if_icmp .ne 17, 3) := by decide +kernel
theorem dX0_markOfAgent_13 : decode cX0_markOfAgent 13 = .ok (.aload_n 0, 1) := by decide +kernel
theorem dX0_markOfAgent_14 : decode cX0_markOfAgent 14 = .ok (.bipush 24, 2) := by decide +kernel
theorem dX0_markOfAgent_16 : decode cX0_markOfAgent 16 = .ok (.invokevirtual 39, 3) := by decide +kernel
theorem dX0_markOfAgent_19 : decode cX0_markOfAgent 19 = .ok (.iconst 2, 1) := by decide +kernel
theorem dX0_markOfAgent_20 : decode cX0_markOfAgent 20 = .ok (.aload_n 0, 1) := by decide +kernel
theorem dX0_markOfAgent_21 : decode cX0_markOfAgent 21 = .ok (.iload_n 1, 1) := by decide +kernel
theorem dX0_markOfAgent_22 : decode cX0_markOfAgent 22 = .ok (.invokevirtual 52, 3) := by decide +kernel
theorem dX0_markOfAgent_25 : decode cX0_markOfAgent 25 = .ok (.imul, 1) := by decide +kernel
theorem dX0_markOfAgent_26 : decode cX0_markOfAgent 26 = .ok (.ireturn, 1) := by decide +kernel
theorem dX0_markOfAgent_27 : decode cX0_markOfAgent 27 = .ok (.aload_n 0, 1) := by decide +kernel
theorem dX0_markOfAgent_28 : decode cX0_markOfAgent 28 = .ok (.getfield 15, 3) := by decide +kernel
theorem dX0_markOfAgent_31 : decode cX0_markOfAgent 31 = .ok (.getfield 23, 3) := by decide +kernel
theorem dX0_markOfAgent_34 : decode cX0_markOfAgent 34 = .ok (.iload_n 1, 1) := by decide +kernel
theorem dX0_markOfAgent_35 : decode cX0_markOfAgent 35 = .ok (.iaload, 1) := by decide +kernel
theorem dX0_markOfAgent_36 : decode cX0_markOfAgent 36 = .ok (.iconst 3, 1) := by decide +kernel
theorem dX0_markOfAgent_37 : decode cX0_markOfAgent 37 = .ok (.if_icmp .eq 9, 3) := by decide +kernel
theorem dX0_markOfAgent_40 : decode cX0_markOfAgent 40 = .ok (.aload_n 0, 1) := by decide +kernel
theorem dX0_markOfAgent_41 : decode cX0_markOfAgent 41 = .ok (.iload_n 1, 1) := by decide +kernel
theorem dX0_markOfAgent_42 : decode cX0_markOfAgent 42 = .ok (.invokevirtual 52, 3) := by decide +kernel
theorem dX0_markOfAgent_45 : decode cX0_markOfAgent 45 = .ok (.ireturn, 1) := by decide +kernel
theorem dX0_markOfAgent_46 : decode cX0_markOfAgent 46 = .ok (.aload_n 0, 1) := by decide +kernel
theorem dX0_markOfAgent_47 : decode cX0_markOfAgent 47 = .ok (.bipush 22, 2) := by decide +kernel
theorem dX0_markOfAgent_49 : decode cX0_markOfAgent 49 = .ok (.invokevirtual 39, 3) := by decide +kernel
theorem dX0_markOfAgent_52 : decode cX0_markOfAgent 52 = .ok (.aload_n 0, 1) := by decide +kernel
theorem dX0_markOfAgent_53 : decode cX0_markOfAgent 53 = .ok (.iload_n 1, 1) := by decide +kernel
theorem dX0_markOfAgent_54 : decode cX0_markOfAgent 54 = .ok (.invokevirtual 52, 3) := by decide +kernel
theorem dX0_markOfAgent_57 : decode cX0_markOfAgent 57 = .ok (.sipush 1000, 3) := by decide +kernel
theorem dX0_markOfAgent_60 : decode cX0_markOfAgent 60 = .ok (.isub, 1) := by decide +kernel
theorem dX0_markOfAgent_61 : decode cX0_markOfAgent 61 = .ok (.ireturn, 1) := by decide +kernel
theorem dX0_body10_0 : decode cX0_body10 0 = .ok (.aload_n 0, 1) := by decide +kernel
theorem dX0_body10_1 : decode cX0_body10 1 = .ok (.bipush 10, 2) := by decide +kernel
theorem dX0_body10_3 : decode cX0_body10 3 = .ok (.invokevirtual 39, 3) := by decide +kernel
theorem dX0_body10_6 : decode cX0_body10 6 = .ok (.aload_n 0, 1) := by decide +kernel
theorem dX0_body10_7 : decode cX0_body10 7 = .ok (.getfield 15, 3) := by decide +kernel
theorem dX0_body10_10 : decode cX0_body10 10 = .ok (.getfield 55, 3) := by decide +kernel
theorem dX0_body10_13 : decode cX0_body10 13 = .ok (.iload_n 1, 1) := by decide +kernel
theorem dX0_body10_14 : decode cX0_body10 14 = .ok (.iaload, 1) := by decide +kernel
theorem dX0_body10_15 : decode cX0_body10 15 = .ok (.ireturn, 1) := by decide +kernel
theorem dX0_body11_0 : decode cX0_body11 0 = .ok (.aload_n 0, 1) := by decide +kernel
theorem dX0_body11_1 : decode cX0_body11 1 = .ok (.bipush 11, 2) := by decide +kernel
theorem dX0_body11_3 : decode cX0_body11 3 = .ok (.invokevirtual 39, 3) := by decide +kernel
theorem dX0_body11_6 : decode cX0_body11 6 = .ok (.aload_n 0, 1) := by decide +kernel
theorem dX0_body11_7 : decode cX0_body11 7 = .ok (.iload_n 1, 1) := by decide +kernel
theorem dX0_body11_8 : decode cX0_body11 8 = .ok (.invokevirtual 58, 3) := by decide +kernel
theorem dX0_body11_11 : decode cX0_body11 11 = .ok (.istore_n 2, 1) := by decide +kernel
theorem dX0_body11_12 : decode cX0_body11 12 = .ok (.iload_n 2, 1) := by decide +kernel
theorem dX0_body11_13 : decode cX0_body11 13 = .ok (.aload_n 0, 1) := by decide +kernel
theorem dX0_body11_14 : decode cX0_body11 14 = .ok (.iload_n 1, 1) := by decide +kernel
theorem dX0_body11_15 : decode cX0_body11 15 = .ok (.invokevirtual 49, 3) := by decide +kernel
theorem dX0_body11_18 : decode cX0_body11 18 = .ok (.iadd, 1) := by decide +kernel
theorem dX0_body11_19 : decode cX0_body11 19 = .ok (.ireturn, 1) := by decide +kernel
theorem dX0_body13_0 : decode cX0_body13 0 = .ok (.aload_n 0, 1) := by decide +kernel
theorem dX0_body13_1 : decode cX0_body13 1 = .ok (.bipush 13, 2) := by decide +kernel
theorem dX0_body13_3 : decode cX0_body13 3 = .ok (.invokevirtual 39, 3) := by decide +kernel
theorem dX0_body13_6 : decode cX0_body13 6 = .ok (.aload_n 0, 1) := by decide +kernel
theorem dX0_body13_7 : decode cX0_body13 7 = .ok (.iload_n 1, 1) := by decide +kernel
theorem dX0_body13_8 : decode cX0_body13 8 = .ok (.invokevirtual 58, 3) := by decide +kernel
theorem dX0_body13_11 : decode cX0_body13 11 = .ok (.bipush 100, 2) := by decide +kernel
theorem dX0_body13_13 : decode cX0_body13 13 = .ok (.isub, 1) := by decide +kernel
theorem dX0_body13_14 : decode cX0_body13 14 = .ok (.ireturn, 1) := by decide +kernel
theorem dX0_body20_0 : decode cX0_body20 0 = .ok (.aload_n 0, 1) := by decide +kernel
theorem dX0_body20_1 : decode cX0_body20 1 = .ok (.bipush 20, 2) := by decide +kernel
theorem dX0_body20_3 : decode cX0_body20 3 = .ok (.invokevirtual 39, 3) := by decide +kernel
theorem dX0_body20_6 : decode cX0_body20 6 = .ok (.iload_n 1, 1) := by decide +kernel
theorem dX0_body20_7 : decode cX0_body20 7 = .ok (.ireturn, 1) := by decide +kernel
theorem dX0_body21_0 : decode cX0_body21 0 = .ok (.aload_n 0, 1) := by decide +kernel
theorem dX0_body21_1 : decode cX0_body21 1 = .ok (.bipush 21, 2) := by decide +kernel
theorem dX0_body21_3 : decode cX0_body21 3 = .ok (.invokevirtual 39, 3) := by decide +kernel
theorem dX0_body21_6 : decode cX0_body21 6 = .ok (.aload_n 0, 1) := by decide +kernel
theorem dX0_body21_7 : decode cX0_body21 7 = .ok (.iload_n 1, 1) := by decide +kernel
theorem dX0_body21_8 : decode cX0_body21 8 = .ok (.invokevirtual 61, 3) := by decide +kernel
theorem dX0_body21_11 : decode cX0_body21 11 = .ok (.aload_n 0, 1) := by decide +kernel
theorem dX0_body21_12 : decode cX0_body21 12 = .ok (.getfield 15, 3) := by decide +kernel
theorem dX0_body21_15 : decode cX0_body21 15 = .ok (.getfield 64, 3) := by decide +kernel
theorem dX0_body21_18 : decode cX0_body21 18 = .ok (.iload_n 1, 1) := by decide +kernel
theorem dX0_body21_19 : decode cX0_body21 19 = .ok (.iaload, 1) := by decide +kernel
theorem dX0_body21_20 : decode cX0_body21 20 = .ok (.iadd, 1) := by decide +kernel
theorem dX0_body21_21 : decode cX0_body21 21 = .ok (.ireturn, 1) := by decide +kernel
theorem dX0_body23_0 : decode cX0_body23 0 = .ok (.aload_n 0, 1) := by decide +kernel
theorem dX0_body23_1 : decode cX0_body23 1 = .ok (.bipush 23, 2) := by decide +kernel
theorem dX0_body23_3 : decode cX0_body23 3 = .ok (.invokevirtual 39, 3) := by decide +kernel
theorem dX0_body23_6 : decode cX0_body23 6 = .ok (.aload_n 0, 1) := by decide +kernel
theorem dX0_body23_7 : decode cX0_body23 7 = .ok (.iload_n 1, 1) := by decide +kernel
theorem dX0_body23_8 : decode cX0_body23 8 = .ok (.invokevirtual 61, 3) := by decide +kernel
theorem dX0_body23_11 : decode cX0_body23 11 = .ok (.istore_n 2, 1) := by decide +kernel
theorem dX0_body23_12 : decode cX0_body23 12 = .ok (.iload_n 2, 1) := by decide +kernel
theorem dX0_body23_13 : decode cX0_body23 13 = .ok (.aload_n 0, 1) := by decide +kernel
theorem dX0_body23_14 : decode cX0_body23 14 = .ok (.iload_n 1, 1) := by decide +kernel
theorem dX0_body23_15 : decode cX0_body23 15 = .ok (.invokevirtual 32, 3) := by decide +kernel
theorem dX0_body23_18 : decode cX0_body23 18 = .ok (.isub, 1) := by decide +kernel
theorem dX0_body23_19 : decode cX0_body23 19 = .ok (.ireturn, 1) := by decide +kernel
theorem dX0_leave_0 : decode cX0_leave 0 = .ok (.aload_n 0, 1) := by decide +kernel
theorem dX0_leave_1 : decode cX0_leave 1 = .ok (.getfield 19, 3) := by decide +kernel
theorem dX0_leave_4 : decode cX0_leave 4 = .ok (.bipush 16, 2) := by decide +kernel
theorem dX0_leave_6 : decode cX0_leave 6 = .ok (.if_icmp .ge 23, 3) := by decide +kernel
theorem dX0_leave_9 : decode cX0_leave 9 = .ok (.aload_n 0, 1) := by decide +kernel
theorem dX0_leave_10 : decode cX0_leave 10 = .ok (.getfield 9, 3) := by decide +kernel
theorem dX0_leave_13 : decode cX0_leave 13 = .ok (.aload_n 0, 1) := by decide +kernel
theorem dX0_leave_14 : decode cX0_leave 14 = .ok (.getfield 19, 3) := by decide +kernel
theorem dX0_leave_17 : decode cX0_leave 17 = .ok (.iload_n 1, 1) := by decide +kernel
theorem dX0_leave_18 : decode cX0_leave 18 = .ok (.iastore, 1) := by decide +kernel
theorem dX0_leave_19 : decode cX0_leave 19 = .ok (.aload_n 0, 1) := by decide +kernel
theorem dX0_leave_20 : decode cX0_leave 20 = .ok (.dup, 1) := by decide +kernel
theorem dX0_leave_21 : decode cX0_leave 21 = .ok (.getfield 19, 3) := by decide +kernel
theorem dX0_leave_24 : decode cX0_leave 24 = .ok (.iconst 1, 1) := by decide +kernel
theorem dX0_leave_25 : decode cX0_leave 25 = .ok (.iadd, 1) := by decide +kernel
theorem dX0_leave_26 : decode cX0_leave 26 = .ok (.putfield 19, 3) := by decide +kernel
theorem dX0_leave_29 : decode cX0_leave 29 = .ok (.return_, 1) := by decide +kernel
theorem dX1_init_0 : decode cX1_init 0 = .ok (.aload_n 0, 1) := by decide +kernel
theorem dX1_init_1 : decode cX1_init 1 = .ok (.invokespecial 3, 3) := by decide +kernel
theorem dX1_init_4 : decode cX1_init 4 = .ok (.aload_n 0, 1) := by decide +kernel
theorem dX1_init_5 : decode cX1_init 5 = .ok (.bipush 16, 2) := by decide +kernel
theorem dX1_init_7 : decode cX1_init 7 = .ok (.newarray .int, 2) := by decide +kernel
theorem dX1_init_9 : decode cX1_init 9 = .ok (.putfield 9, 3) := by decide +kernel
theorem dX1_init_12 : decode cX1_init 12 = .ok (.aload_n 0, 1) := by decide +kernel
theorem dX1_init_13 : decode cX1_init 13 = .ok (.bipush 7, 2) := by decide +kernel
theorem dX1_init_15 : decode cX1_init 15 = .ok (.newarray .int, 2) := by decide +kernel
theorem dX1_init_17 : decode cX1_init 17 = .ok (.putfield 15, 3) := by decide +kernel
theorem dX1_init_20 : decode cX1_init 20 = .ok (.aload_n 0, 1) := by decide +kernel
theorem dX1_init_21 : decode cX1_init 21 = .ok (.bipush 7, 2) := by decide +kernel
theorem dX1_init_23 : decode cX1_init 23 = .ok (.newarray .int, 2) := by decide +kernel
theorem dX1_init_25 : decode cX1_init 25 = .ok (.putfield 18, 3) := by decide +kernel
theorem dX1_init_28 : decode cX1_init 28 = .ok (.aload_n 0, 1) := by decide +kernel
theorem dX1_init_29 : decode cX1_init 29 = .ok (.bipush 7, 2) := by decide +kernel
theorem dX1_init_31 : decode cX1_init 31 = .ok (.newarray .int, 2) := by decide +kernel
theorem dX1_init_33 : decode cX1_init 33 = .ok (.putfield 21, 3) := by decide +kernel
theorem dX1_init_36 : decode cX1_init 36 = .ok (.aload_n 0, 1) := by decide +kernel
theorem dX1_init_37 : decode cX1_init 37 = .ok (.bipush 7, 2) := by decide +kernel
theorem dX1_init_39 : decode cX1_init 39 = .ok (.newarray .int, 2) := by decide +kernel
theorem dX1_init_41 : decode cX1_init 41 = .ok (.putfield 24, 3) := by decide +kernel
theorem dX1_init_44 : decode cX1_init 44 = .ok (.aload_n 0, 1) := by decide +kernel
theorem dX1_init_45 : decode cX1_init 45 = .ok (.bipush 7, 2) := by decide +kernel
theorem dX1_init_47 : decode cX1_init 47 = .ok (.newarray .int, 2) := by decide +kernel
theorem dX1_init_49 : decode cX1_init 49 = .ok (.putfield 27, 3) := by decide +kernel
theorem dX1_init_52 : decode cX1_init 52 = .ok (.return_, 1) := by decide +kernel
theorem dX1_stands_0 : decode cX1_stands 0 = .ok (.aload_n 0, 1) := by decide +kernel
theorem dX1_stands_1 : decode cX1_stands 1 = .ok (.getfield 30, 3) := by decide +kernel
theorem dX1_stands_4 : decode cX1_stands 4 = .ok (.ifCond .le 7, 3) := by decide +kernel
theorem dX1_stands_7 : decode cX1_stands 7 = .ok (.iconst 1, 1) := by decide +kernel
theorem dX1_stands_8 : decode cX1_stands 8 = .ok (.goto 4, 3) := by decide +kernel
theorem dX1_stands_11 : decode cX1_stands 11 = .ok (.iconst 0, 1) := by decide +kernel
theorem dX1_stands_12 : decode cX1_stands 12 = .ok (.ireturn, 1) := by decide +kernel
theorem dX1_hasPin_0 : decode cX1_hasPin 0 = .ok (.iload_n 1, 1) := by decide +kernel
theorem dX1_hasPin_1 : decode cX1_hasPin 1 = .ok (.iconst 0, 1) := by decide +kernel
theorem dX1_hasPin_2 : decode cX1_hasPin 2 = .ok (.aload_n 0, 1) := by decide +kernel
theorem dX1_hasPin_3 : decode cX1_hasPin 3 = .ok (.getfield 34, 3) := by decide +kernel
theorem dX1_hasPin_6 : decode cX1_hasPin 6 = .ok (.iconst 1, 1) := by decide +kernel
theorem dX1_hasPin_7 : decode cX1_hasPin 7 = .ok (.isub, 1) := by decide +kernel
theorem dX1_hasPin_8 : decode cX1_hasPin 8 = .ok (.invokestatic 37, 3) := by decide +kernel
theorem dX1_hasPin_11 : decode cX1_hasPin 11 = .ok (.ireturn, 1) := by decide +kernel
theorem dX1_hasCell_0 : decode cX1_hasCell 0 = .ok (.iload_n 1, 1) := by decide +kernel
theorem dX1_hasCell_1 : decode cX1_hasCell 1 = .ok (.iconst 0, 1) := by decide +kernel
theorem dX1_hasCell_2 : decode cX1_hasCell 2 = .ok (.aload_n 0, 1) := by decide +kernel
theorem dX1_hasCell_3 : decode cX1_hasCell 3 = .ok (.getfield 30, 3) := by decide +kernel
theorem dX1_hasCell_6 : decode cX1_hasCell 6 = .ok (.iconst 1, 1) := by decide +kernel
theorem dX1_hasCell_7 : decode cX1_hasCell 7 = .ok (.isub, 1) := by decide +kernel
theorem dX1_hasCell_8 : decode cX1_hasCell 8 = .ok (.invokestatic 37, 3) := by decide +kernel
theorem dX1_hasCell_11 : decode cX1_hasCell 11 = .ok (.ireturn, 1) := by decide +kernel
theorem dX1_makeEmpty_0 : decode cX1_makeEmpty 0 = .ok (.aload_n 0, 1) := by decide +kernel
theorem dX1_makeEmpty_1 : decode cX1_makeEmpty 1 = .ok (.iconst 0, 1) := by decide +kernel
theorem dX1_makeEmpty_2 : decode cX1_makeEmpty 2 = .ok (.putfield 30, 3) := by decide +kernel
theorem dX1_makeEmpty_5 : decode cX1_makeEmpty 5 = .ok (.aload_n 0, 1) := by decide +kernel
theorem dX1_makeEmpty_6 : decode cX1_makeEmpty 6 = .ok (.iconst 0, 1) := by decide +kernel
theorem dX1_makeEmpty_7 : decode cX1_makeEmpty 7 = .ok (.putfield 34, 3) := by decide +kernel
theorem dX1_makeEmpty_10 : decode cX1_makeEmpty 10 = .ok (.aload_n 0, 1) := by decide +kernel
theorem dX1_makeEmpty_11 : decode cX1_makeEmpty 11 = .ok (.iconst 0, 1) := by decide +kernel
theorem dX1_makeEmpty_12 : decode cX1_makeEmpty 12 = .ok (.putfield 41, 3) := by decide +kernel
theorem dX1_makeEmpty_15 : decode cX1_makeEmpty 15 = .ok (.aload_n 0, 1) := by decide +kernel
theorem dX1_makeEmpty_16 : decode cX1_makeEmpty 16 = .ok (.iconst 0, 1) := by decide +kernel
theorem dX1_makeEmpty_17 : decode cX1_makeEmpty 17 = .ok (.putfield 44, 3) := by decide +kernel
theorem dX1_makeEmpty_20 : decode cX1_makeEmpty 20 = .ok (.aload_n 0, 1) := by decide +kernel
theorem dX1_makeEmpty_21 : decode cX1_makeEmpty 21 = .ok (.iconst 0, 1) := by decide +kernel
theorem dX1_makeEmpty_22 : decode cX1_makeEmpty 22 = .ok (.putfield 47, 3) := by decide +kernel
theorem dX1_makeEmpty_25 : decode cX1_makeEmpty 25 = .ok (.aload_n 0, 1) := by decide +kernel
theorem dX1_makeEmpty_26 : decode cX1_makeEmpty 26 = .ok (.iconst 1, 1) := by decide +kernel
theorem dX1_makeEmpty_27 : decode cX1_makeEmpty 27 = .ok (.putfield 50, 3) := by decide +kernel
theorem dX1_makeEmpty_30 : decode cX1_makeEmpty 30 = .ok (.return_, 1) := by decide +kernel
theorem dX1_takeFrom_0 : decode cX1_takeFrom 0 = .ok (.aload_n 0, 1) := by decide +kernel
theorem dX1_takeFrom_1 : decode cX1_takeFrom 1 = .ok (.aload_n 1, 1) := by decide +kernel
theorem dX1_takeFrom_2 : decode cX1_takeFrom 2 = .ok (.getfield 30, 3) := by decide +kernel
theorem dX1_takeFrom_5 : decode cX1_takeFrom 5 = .ok (.putfield 30, 3) := by decide +kernel
theorem dX1_takeFrom_8 : decode cX1_takeFrom 8 = .ok (.aload_n 0, 1) := by decide +kernel
theorem dX1_takeFrom_9 : decode cX1_takeFrom 9 = .ok (.aload_n 1, 1) := by decide +kernel
theorem dX1_takeFrom_10 : decode cX1_takeFrom 10 = .ok (.getfield 34, 3) := by decide +kernel
theorem dX1_takeFrom_13 : decode cX1_takeFrom 13 = .ok (.putfield 34, 3) := by decide +kernel
theorem dX1_takeFrom_16 : decode cX1_takeFrom 16 = .ok (.aload_n 0, 1) := by decide +kernel
theorem dX1_takeFrom_17 : decode cX1_takeFrom 17 = .ok (.aload_n 1, 1) := by decide +kernel
theorem dX1_takeFrom_18 : decode cX1_takeFrom 18 = .ok (.getfield 41, 3) := by decide +kernel
theorem dX1_takeFrom_21 : decode cX1_takeFrom 21 = .ok (.putfield 41, 3) := by decide +kernel
theorem dX1_takeFrom_24 : decode cX1_takeFrom 24 = .ok (.aload_n 0, 1) := by decide +kernel
theorem dX1_takeFrom_25 : decode cX1_takeFrom 25 = .ok (.aload_n 1, 1) := by decide +kernel
theorem dX1_takeFrom_26 : decode cX1_takeFrom 26 = .ok (.getfield 44, 3) := by decide +kernel
theorem dX1_takeFrom_29 : decode cX1_takeFrom 29 = .ok (.putfield 44, 3) := by decide +kernel
theorem dX1_takeFrom_32 : decode cX1_takeFrom 32 = .ok (.aload_n 0, 1) := by decide +kernel
theorem dX1_takeFrom_33 : decode cX1_takeFrom 33 = .ok (.aload_n 1, 1) := by decide +kernel
theorem dX1_takeFrom_34 : decode cX1_takeFrom 34 = .ok (.getfield 47, 3) := by decide +kernel
theorem dX1_takeFrom_37 : decode cX1_takeFrom 37 = .ok (.putfield 47, 3) := by decide +kernel
theorem dX1_takeFrom_40 : decode cX1_takeFrom 40 = .ok (.aload_n 0, 1) := by decide +kernel
theorem dX1_takeFrom_41 : decode cX1_takeFrom 41 = .ok (.aload_n 1, 1) := by decide +kernel
theorem dX1_takeFrom_42 : decode cX1_takeFrom 42 = .ok (.getfield 50, 3) := by decide +kernel
theorem dX1_takeFrom_45 : decode cX1_takeFrom 45 = .ok (.putfield 50, 3) := by decide +kernel
theorem dX1_takeFrom_48 : decode cX1_takeFrom 48 = .ok (.aload_n 1, 1) := by decide +kernel
theorem dX1_takeFrom_49 : decode cX1_takeFrom 49 = .ok (.getfield 9, 3) := by decide +kernel
theorem dX1_takeFrom_52 : decode cX1_takeFrom 52 = .ok (.iconst 0, 1) := by decide +kernel
theorem dX1_takeFrom_53 : decode cX1_takeFrom 53 = .ok (.aload_n 0, 1) := by decide +kernel
theorem dX1_takeFrom_54 : decode cX1_takeFrom 54 = .ok (.getfield 9, 3) := by decide +kernel
theorem dX1_takeFrom_57 : decode cX1_takeFrom 57 = .ok (.iconst 0, 1) := by decide +kernel
theorem dX1_takeFrom_58 : decode cX1_takeFrom 58 = .ok (.bipush 16, 2) := by decide +kernel
theorem dX1_takeFrom_60 : decode cX1_takeFrom 60 = .ok (.invokestatic 54, 3) := by decide +kernel
theorem dX1_takeFrom_63 : decode cX1_takeFrom 63 = .ok (.aload_n 1, 1) := by decide +kernel
theorem dX1_takeFrom_64 : decode cX1_takeFrom 64 = .ok (.getfield 15, 3) := by decide +kernel
theorem dX1_takeFrom_67 : decode cX1_takeFrom 67 = .ok (.iconst 0, 1) := by decide +kernel
theorem dX1_takeFrom_68 : decode cX1_takeFrom 68 = .ok (.aload_n 0, 1) := by decide +kernel
theorem dX1_takeFrom_69 : decode cX1_takeFrom 69 = .ok (.getfield 15, 3) := by decide +kernel
theorem dX1_takeFrom_72 : decode cX1_takeFrom 72 = .ok (.iconst 0, 1) := by decide +kernel
theorem dX1_takeFrom_73 : decode cX1_takeFrom 73 = .ok (.bipush 7, 2) := by decide +kernel
theorem dX1_takeFrom_75 : decode cX1_takeFrom 75 = .ok (.invokestatic 54, 3) := by decide +kernel
theorem dX1_takeFrom_78 : decode cX1_takeFrom 78 = .ok (.aload_n 1, 1) := by decide +kernel
theorem dX1_takeFrom_79 : decode cX1_takeFrom 79 = .ok (.getfield 18, 3) := by decide +kernel
theorem dX1_takeFrom_82 : decode cX1_takeFrom 82 = .ok (.iconst 0, 1) := by decide +kernel
theorem dX1_takeFrom_83 : decode cX1_takeFrom 83 = .ok (.aload_n 0, 1) := by decide +kernel
theorem dX1_takeFrom_84 : decode cX1_takeFrom 84 = .ok (.getfield 18, 3) := by decide +kernel
theorem dX1_takeFrom_87 : decode cX1_takeFrom 87 = .ok (.iconst 0, 1) := by decide +kernel
theorem dX1_takeFrom_88 : decode cX1_takeFrom 88 = .ok (.bipush 7, 2) := by decide +kernel
theorem dX1_takeFrom_90 : decode cX1_takeFrom 90 = .ok (.invokestatic 54, 3) := by decide +kernel
theorem dX1_takeFrom_93 : decode cX1_takeFrom 93 = .ok (.aload_n 1, 1) := by decide +kernel
theorem dX1_takeFrom_94 : decode cX1_takeFrom 94 = .ok (.getfield 21, 3) := by decide +kernel
theorem dX1_takeFrom_97 : decode cX1_takeFrom 97 = .ok (.iconst 0, 1) := by decide +kernel
theorem dX1_takeFrom_98 : decode cX1_takeFrom 98 = .ok (.aload_n 0, 1) := by decide +kernel
theorem dX1_takeFrom_99 : decode cX1_takeFrom 99 = .ok (.getfield 21, 3) := by decide +kernel
theorem dX1_takeFrom_102 : decode cX1_takeFrom 102 = .ok (.iconst 0, 1) := by decide +kernel
theorem dX1_takeFrom_103 : decode cX1_takeFrom 103 = .ok (.bipush 7, 2) := by decide +kernel
theorem dX1_takeFrom_105 : decode cX1_takeFrom 105 = .ok (.invokestatic 54, 3) := by decide +kernel
theorem dX1_takeFrom_108 : decode cX1_takeFrom 108 = .ok (.aload_n 1, 1) := by decide +kernel
theorem dX1_takeFrom_109 : decode cX1_takeFrom 109 = .ok (.getfield 24, 3) := by decide +kernel
theorem dX1_takeFrom_112 : decode cX1_takeFrom 112 = .ok (.iconst 0, 1) := by decide +kernel
theorem dX1_takeFrom_113 : decode cX1_takeFrom 113 = .ok (.aload_n 0, 1) := by decide +kernel
theorem dX1_takeFrom_114 : decode cX1_takeFrom 114 = .ok (.getfield 24, 3) := by decide +kernel
theorem dX1_takeFrom_117 : decode cX1_takeFrom 117 = .ok (.iconst 0, 1) := by decide +kernel
theorem dX1_takeFrom_118 : decode cX1_takeFrom 118 = .ok (.bipush 7, 2) := by decide +kernel
theorem dX1_takeFrom_120 : decode cX1_takeFrom 120 = .ok (.invokestatic 54, 3) := by decide +kernel
theorem dX1_takeFrom_123 : decode cX1_takeFrom 123 = .ok (.aload_n 1, 1) := by decide +kernel
theorem dX1_takeFrom_124 : decode cX1_takeFrom 124 = .ok (.getfield 27, 3) := by decide +kernel
theorem dX1_takeFrom_127 : decode cX1_takeFrom 127 = .ok (.iconst 0, 1) := by decide +kernel
theorem dX1_takeFrom_128 : decode cX1_takeFrom 128 = .ok (.aload_n 0, 1) := by decide +kernel
theorem dX1_takeFrom_129 : decode cX1_takeFrom 129 = .ok (.getfield 27, 3) := by decide +kernel
theorem dX1_takeFrom_132 : decode cX1_takeFrom 132 = .ok (.iconst 0, 1) := by decide +kernel
theorem dX1_takeFrom_133 : decode cX1_takeFrom 133 = .ok (.bipush 7, 2) := by decide +kernel
theorem dX1_takeFrom_135 : decode cX1_takeFrom 135 = .ok (.invokestatic 54, 3) := by decide +kernel
theorem dX1_takeFrom_138 : decode cX1_takeFrom 138 = .ok (.return_, 1) := by decide +kernel
theorem dX1_turn_0 : decode cX1_turn 0 = .ok (.aload_n 0, 1) := by decide +kernel
theorem dX1_turn_1 : decode cX1_turn 1 = .ok (.getfield 50, 3) := by decide +kernel
theorem dX1_turn_4 : decode cX1_turn 4 = .ok (.ifCond .eq 11, 3) := by decide +kernel
theorem dX1_turn_7 : decode cX1_turn 7 = .ok (.aload_n 0, 1) := by decide +kernel
theorem dX1_turn_8 : decode cX1_turn 8 = .ok (.iconst 0, 1) := by decide +kernel
theorem dX1_turn_9 : decode cX1_turn 9 = .ok (.putfield 50, 3) := by decide +kernel
theorem dX1_turn_12 : decode cX1_turn 12 = .ok (.goto 7, 3) := by decide +kernel
theorem dX1_turn_15 : decode cX1_turn 15 = .ok (.aload_n 0, 1) := by decide +kernel
theorem dX1_turn_16 : decode cX1_turn 16 = .ok (.invokevirtual 60, 3) := by decide +kernel
theorem dX1_turn_19 : decode cX1_turn 19 = .ok (.aload_n 0, 1) := by decide +kernel
theorem dX1_turn_20 : decode cX1_turn 20 = .ok (.dup, 1) := by decide +kernel
theorem dX1_turn_21 : decode cX1_turn 21 = .ok (.getfield 44, 3) := by decide +kernel
theorem dX1_turn_24 : decode cX1_turn 24 = .ok (.iconst 1, 1) := by decide +kernel
theorem dX1_turn_25 : decode cX1_turn 25 = .ok (.iadd, 1) := by decide +kernel
theorem dX1_turn_26 : decode cX1_turn 26 = .ok (.putfield 44, 3) := by decide +kernel
theorem dX1_turn_29 : decode cX1_turn 29 = .ok (.return_, 1) := by decide +kernel
theorem dX1_openAndWork_0 : decode cX1_openAndWork 0 = .ok (.aload_n 0, 1) := by decide +kernel
theorem dX1_openAndWork_1 : decode cX1_openAndWork 1 = .ok (.iconst 0, 1) := by decide +kernel
theorem dX1_openAndWork_2 : decode cX1_openAndWork 2 = .ok (.invokevirtual 63, 3) := by decide +kernel
theorem dX1_openAndWork_5 : decode cX1_openAndWork 5 = .ok (.aload_n 0, 1) := by decide +kernel
theorem dX1_openAndWork_6 : decode cX1_openAndWork 6 = .ok (.ldc 67, 2) := by decide +kernel
theorem dX1_openAndWork_8 : decode cX1_openAndWork 8 = .ok (.aload_n 0, 1) := by decide +kernel
theorem dX1_openAndWork_9 : decode cX1_openAndWork 9 = .ok (.getfield 47, 3) := by decide +kernel
theorem dX1_openAndWork_12 : decode cX1_openAndWork 12 = .ok (.aload_n 0, 1) := by decide +kernel
theorem dX1_openAndWork_13 : decode cX1_openAndWork 13 = .ok (.invokevirtual 68, 3) := by decide +kernel
theorem dX1_openAndWork_16 : decode cX1_openAndWork 16 = .ok (.iadd, 1) := by decide +kernel
theorem dX1_openAndWork_17 : decode cX1_openAndWork 17 = .ok (.invokestatic 72, 3) := by decide +kernel
theorem dX1_openAndWork_20 : decode cX1_openAndWork 20 = .ok (.putfield 47, 3) := by decide +kernel
theorem dX1_openAndWork_23 : decode cX1_openAndWork 23 = .ok (.return_, 1) := by decide +kernel
theorem dX1_open_0 : decode cX1_open 0 = .ok (.iconst 0, 1) := by decide +kernel
theorem dX1_open_1 : decode cX1_open 1 = .ok (.istore_n 2, 1) := by decide +kernel
theorem dX1_open_2 : decode cX1_open 2 = .ok (.iload_n 2, 1) := by decide +kernel
theorem dX1_open_3 : decode cX1_open 3 = .ok (.aload_n 0, 1) := by decide +kernel
theorem dX1_open_4 : decode cX1_open 4 = .ok (.getfield 34, 3) := by decide +kernel
theorem dX1_open_7 : decode cX1_open 7 = .ok (.if_icmp .ge 102, 3) := by decide +kernel
theorem dX1_open_10 : decode cX1_open 10 = .ok (.iload_n 1, 1) := by decide +kernel
theorem dX1_open_11 : decode cX1_open 11 = .ok (.iload_n 2, 1) := by decide +kernel
theorem dX1_open_12 : decode cX1_open 12 = .ok (.invokestatic 78, 3) := by decide +kernel
theorem dX1_open_15 : decode cX1_open 15 = .ok (.ifCond .eq 6, 3) := by decide +kernel
theorem dX1_open_18 : decode cX1_open 18 = .ok (.goto 85, 3) := by decide +kernel
theorem dX1_open_21 : decode cX1_open 21 = .ok (.aload_n 0, 1) := by decide +kernel
theorem dX1_open_22 : decode cX1_open 22 = .ok (.getfield 24, 3) := by decide +kernel
theorem dX1_open_25 : decode cX1_open 25 = .ok (.iload_n 2, 1) := by decide +kernel
theorem dX1_open_26 : decode cX1_open 26 = .ok (.iaload, 1) := by decide +kernel
theorem dX1_open_27 : decode cX1_open 27 = .ok (.iconst 2, 1) := by decide +kernel
theorem dX1_open_28 : decode cX1_open 28 = .ok (.if_icmp .ne 11, 3) := by decide +kernel
theorem dX1_open_31 : decode cX1_open 31 = .ok (.aload_n 0, 1) := by decide +kernel
theorem dX1_open_32 : decode cX1_open 32 = .ok (.iload_n 2, 1) := by decide +kernel
theorem dX1_open_33 : decode cX1_open 33 = .ok (.invokevirtual 82, 3) := by decide +kernel
theorem dX1_open_36 : decode cX1_open 36 = .ok (.goto 67, 3) := by decide +kernel
theorem dX1_open_39 : decode cX1_open 39 = .ok (.aload_n 0, 1) := by decide +kernel
theorem dX1_open_40 : decode cX1_open 40 = .ok (.getfield 24, 3) := by decide +kernel
theorem dX1_open_43 : decode cX1_open 43 = .ok (.iload_n 2, 1) := by decide +kernel
theorem dX1_open_44 : decode cX1_open 44 = .ok (.iaload, 1) := by decide +kernel
theorem dX1_open_45 : decode cX1_open 45 = .ok (.iconst 3, 1) := by decide +kernel
theorem dX1_open_46 : decode cX1_open 46 = .ok (.if_icmp .ne 35, 3) := by decide +kernel
theorem dX1_open_49 : decode cX1_open 49 = .ok (.aload_n 0, 1) := by decide +kernel
theorem dX1_open_50 : decode cX1_open 50 = .ok (.getfield 30, 3) := by decide +kernel
theorem dX1_open_53 : decode cX1_open 53 = .ok (.ifCond .le 28, 3) := by decide +kernel
theorem dX1_open_56 : decode cX1_open 56 = .ok (.aload_n 0, 1) := by decide +kernel
theorem dX1_open_57 : decode cX1_open 57 = .ok (.getfield 27, 3) := by decide +kernel
theorem dX1_open_60 : decode cX1_open 60 = .ok (.iload_n 2, 1) := by decide +kernel
theorem dX1_open_61 : decode cX1_open 61 = .ok (.aload_n 0, 1) := by decide +kernel
theorem dX1_open_62 : decode cX1_open 62 = .ok (.getfield 27, 3) := by decide +kernel
theorem dX1_open_65 : decode cX1_open 65 = .ok (.iload_n 2, 1) := by decide +kernel
theorem dX1_open_66 : decode cX1_open 66 = .ok (.iaload, 1) := by decide +kernel
theorem dX1_open_67 : decode cX1_open 67 = .ok (.aload_n 0, 1) := by decide +kernel
theorem dX1_open_68 : decode cX1_open 68 = .ok (.getfield 41, 3) := by decide +kernel
theorem dX1_open_71 : decode cX1_open 71 = .ok (.iadd, 1) := by decide +kernel
theorem dX1_open_72 : decode cX1_open 72 = .ok (.aload_n 0, 1) := by decide +kernel
theorem dX1_open_73 : decode cX1_open 73 = .ok (.getfield 30, 3) := by decide +kernel
theorem dX1_open_76 : decode cX1_open 76 = .ok (.irem, 1) := by decide +kernel
theorem dX1_open_77 : decode cX1_open 77 = .ok (.iastore, 1) := by decide +kernel
theorem dX1_open_78 : decode cX1_open 78 = .ok (.goto 25, 3) := by decide +kernel
theorem dX1_open_81 : decode cX1_open 81 = .ok (.aload_n 0, 1) := by decide +kernel
theorem dX1_open_82 : decode cX1_open 82 = .ok (.getfield 24, 3) := by decide +kernel
theorem dX1_open_85 : decode cX1_open 85 = .ok (.iload_n 2, 1) := by decide +kernel
theorem dX1_open_86 : decode cX1_open 86 = .ok (.iaload, 1) := by decide +kernel
theorem dX1_open_87 : decode cX1_open 87 = .ok (.iconst 4, 1) := by decide +kernel
theorem dX1_open_88 : decode cX1_open 88 = .ok (.if_icmp .ne 15, 3) := by decide +kernel
theorem dX1_open_91 : decode cX1_open 91 = .ok (.aload_n 0, 1) := by decide +kernel
theorem dX1_open_92 : decode cX1_open 92 = .ok (.getfield 27, 3) := by decide +kernel
theorem dX1_open_95 : decode cX1_open 95 = .ok (.iload_n 2, 1) := by decide +kernel
theorem dX1_open_96 : decode cX1_open 96 = .ok (.aload_n 0, 1) := by decide +kernel
theorem dX1_open_97 : decode cX1_open 97 = .ok (.getfield 15, 3) := by decide +kernel
theorem dX1_open_100 : decode cX1_open 100 = .ok (.iload_n 2, 1) := by decide +kernel
theorem dX1_open_101 : decode cX1_open 101 = .ok (.iaload, 1) := by decide +kernel
theorem dX1_open_102 : decode cX1_open 102 = .ok (.iastore, 1) := by decide +kernel
theorem dX1_open_103 : decode cX1_open 103 = .ok (.iinc 2 1, 3) := by decide +kernel
theorem dX1_open_106 : decode cX1_open 106 = .ok (.goto (-104), 3) := by decide +kernel
theorem dX1_open_109 : decode cX1_open 109 = .ok (.aload_n 0, 1) := by decide +kernel
theorem dX1_open_110 : decode cX1_open 110 = .ok (.iconst 1, 1) := by decide +kernel
theorem dX1_open_111 : decode cX1_open 111 = .ok (.putfield 50, 3) := by decide +kernel
theorem dX1_open_114 : decode cX1_open 114 = .ok (.return_, 1) := by decide +kernel
theorem dX1_mix_0 : decode cX1_mix 0 = .ok (.iload_n 1, 1) := by decide +kernel
theorem dX1_mix_1 : decode cX1_mix 1 = .ok (.iconst 1, 1) := by decide +kernel
theorem dX1_mix_2 : decode cX1_mix 2 = .ok (.iadd, 1) := by decide +kernel
theorem dX1_mix_3 : decode cX1_mix 3 = .ok (.istore_n 2, 1) := by decide +kernel
theorem dX1_mix_4 : decode cX1_mix 4 = .ok (.iload_n 2, 1) := by decide +kernel
theorem dX1_mix_5 : decode cX1_mix 5 = .ok (.aload_n 0, 1) := by decide +kernel
theorem dX1_mix_6 : decode cX1_mix 6 = .ok (.getfield 34, 3) := by decide +kernel
theorem dX1_mix_9 : decode cX1_mix 9 = .ok (.if_icmp .ge 41, 3) := by decide +kernel
theorem dX1_mix_12 : decode cX1_mix 12 = .ok (.aload_n 0, 1) := by decide +kernel
theorem dX1_mix_13 : decode cX1_mix 13 = .ok (.getfield 21, 3) := by decide +kernel
theorem dX1_mix_16 : decode cX1_mix 16 = .ok (.iload_n 2, 1) := by decide +kernel
theorem dX1_mix_17 : decode cX1_mix 17 = .ok (.iaload, 1) := by decide +kernel
theorem dX1_mix_18 : decode cX1_mix 18 = .ok (.aload_n 0, 1) := by decide +kernel
theorem dX1_mix_19 : decode cX1_mix 19 = .ok (.getfield 21, 3) := by decide +kernel
theorem dX1_mix_22 : decode cX1_mix 22 = .ok (.iload_n 1, 1) := by decide +kernel
theorem dX1_mix_23 : decode cX1_mix 23 = .ok (.iaload, 1) := by decide +kernel
theorem dX1_mix_24 : decode cX1_mix 24 = .ok (.if_icmp .ne 20, 3) := by decide +kernel
theorem dX1_mix_27 : decode cX1_mix 27 = .ok (.aload_n 0, 1) := by decide +kernel
theorem dX1_mix_28 : decode cX1_mix 28 = .ok (.getfield 24, 3) := by decide +kernel
theorem dX1_mix_31 : decode cX1_mix 31 = .ok (.iload_n 2, 1) := by decide +kernel
theorem dX1_mix_32 : decode cX1_mix 32 = .ok (.iaload, 1) := by decide +kernel
theorem dX1_mix_33 : decode cX1_mix 33 = .ok (.iconst 5, 1) := by decide +kernel
theorem dX1_mix_34 : decode cX1_mix 34 = .ok (.if_icmp .eq 10, 3) := by decide +kernel
theorem dX1_mix_37 : decode cX1_mix 37 = .ok (.aload_n 0, 1) := by decide +kernel
theorem dX1_mix_38 : decode cX1_mix 38 = .ok (.iload_n 1, 1) := by decide +kernel
theorem dX1_mix_39 : decode cX1_mix 39 = .ok (.iload_n 2, 1) := by decide +kernel
theorem dX1_mix_40 : decode cX1_mix 40 = .ok (.invokevirtual 85, 3) := by decide +kernel
theorem dX1_mix_43 : decode cX1_mix 43 = .ok (.return_, 1) := by decide +kernel
theorem dX1_mix_44 : decode cX1_mix 44 = .ok (.iinc 2 1, 3) := by decide +kernel
theorem dX1_mix_47 : decode cX1_mix 47 = .ok (.goto (-43), 3) := by decide +kernel
theorem dX1_mix_50 : decode cX1_mix 50 = .ok (.return_, 1) := by decide +kernel
theorem dX1_change_0 : decode cX1_change 0 = .ok (.aload_n 0, 1) := by decide +kernel
theorem dX1_change_1 : decode cX1_change 1 = .ok (.getfield 27, 3) := by decide +kernel
theorem dX1_change_4 : decode cX1_change 4 = .ok (.iload_n 1, 1) := by decide +kernel
theorem dX1_change_5 : decode cX1_change 5 = .ok (.iaload, 1) := by decide +kernel
theorem dX1_change_6 : decode cX1_change 6 = .ok (.istore_n 3, 1) := by decide +kernel
theorem dX1_change_7 : decode cX1_change 7 = .ok (.aload_n 0, 1) := by decide +kernel
theorem dX1_change_8 : decode cX1_change 8 = .ok (.getfield 27, 3) := by decide +kernel
theorem dX1_change_11 : decode cX1_change 11 = .ok (.iload_n 1, 1) := by decide +kernel
theorem dX1_change_12 : decode cX1_change 12 = .ok (.aload_n 0, 1) := by decide +kernel
theorem dX1_change_13 : decode cX1_change 13 = .ok (.getfield 27, 3) := by decide +kernel
theorem dX1_change_16 : decode cX1_change 16 = .ok (.iload_n 2, 1) := by decide +kernel
theorem dX1_change_17 : decode cX1_change 17 = .ok (.iaload, 1) := by decide +kernel
theorem dX1_change_18 : decode cX1_change 18 = .ok (.iastore, 1) := by decide +kernel
theorem dX1_change_19 : decode cX1_change 19 = .ok (.aload_n 0, 1) := by decide +kernel
theorem dX1_change_20 : decode cX1_change 20 = .ok (.getfield 27, 3) := by decide +kernel
theorem dX1_change_23 : decode cX1_change 23 = .ok (.iload_n 2, 1) := by decide +kernel
theorem dX1_change_24 : decode cX1_change 24 = .ok (.iload_n 3, 1) := by decide +kernel
theorem dX1_change_25 : decode cX1_change 25 = .ok (.iastore, 1) := by decide +kernel
theorem dX1_change_26 : decode cX1_change 26 = .ok (.return_, 1) := by decide +kernel
theorem dX1_yieldOfAll_0 : decode cX1_yieldOfAll 0 = .ok (.iconst 0, 1) := by decide +kernel
theorem dX1_yieldOfAll_1 : decode cX1_yieldOfAll 1 = .ok (.istore_n 1, 1) := by decide +kernel
theorem dX1_yieldOfAll_2 : decode cX1_yieldOfAll 2 = .ok (.iconst 0, 1) := by decide +kernel
theorem dX1_yieldOfAll_3 : decode cX1_yieldOfAll 3 = .ok (.istore_n 2, 1) := by decide +kernel
theorem dX1_yieldOfAll_4 : decode cX1_yieldOfAll 4 = .ok (.iload_n 2, 1) := by decide +kernel
theorem dX1_yieldOfAll_5 : decode cX1_yieldOfAll 5 = .ok (.aload_n 0, 1) := by decide +kernel
theorem dX1_yieldOfAll_6 : decode cX1_yieldOfAll 6 = .ok (.getfield 34, 3) := by decide +kernel
theorem dX1_yieldOfAll_9 : decode cX1_yieldOfAll 9 = .ok (.if_icmp .ge 47, 3) := by decide +kernel
theorem dX1_yieldOfAll_12 : decode cX1_yieldOfAll 12 = .ok (.aload_n 0, 1) := by decide +kernel
theorem dX1_yieldOfAll_13 : decode cX1_yieldOfAll 13 = .ok (.aload_n 0, 1) := by decide +kernel
theorem dX1_yieldOfAll_14 : decode cX1_yieldOfAll 14 = .ok (.getfield 27, 3) := by decide +kernel
theorem dX1_yieldOfAll_17 : decode cX1_yieldOfAll 17 = .ok (.iload_n 2, 1) := by decide +kernel
theorem dX1_yieldOfAll_18 : decode cX1_yieldOfAll 18 = .ok (.iaload, 1) := by decide +kernel
theorem dX1_yieldOfAll_19 : decode cX1_yieldOfAll 19 = .ok (.invokevirtual 89, 3) := by decide +kernel
theorem dX1_yieldOfAll_22 : decode cX1_yieldOfAll 22 = .ok (.invokestatic 93, 3) := by decide +kernel
theorem dX1_yieldOfAll_25 : decode cX1_yieldOfAll 25 = .ok (.istore_n 3, 1) := by decide +kernel
theorem dX1_yieldOfAll_26 : decode cX1_yieldOfAll 26 = .ok (.iload_n 1, 1) := by decide +kernel
theorem dX1_yieldOfAll_27 : decode cX1_yieldOfAll 27 = .ok (.iload_n 3, 1) := by decide +kernel
theorem dX1_yieldOfAll_28 : decode cX1_yieldOfAll 28 = .ok (.ifCond .le 19, 3) := by decide +kernel
theorem dX1_yieldOfAll_31 : decode cX1_yieldOfAll 31 = .ok (.aload_n 0, 1) := by decide +kernel
theorem dX1_yieldOfAll_32 : decode cX1_yieldOfAll 32 = .ok (.iload_n 2, 1) := by decide +kernel
theorem dX1_yieldOfAll_33 : decode cX1_yieldOfAll 33 = .ok (.aload_n 0, 1) := by decide +kernel
theorem dX1_yieldOfAll_34 : decode cX1_yieldOfAll 34 = .ok (.getfield 27, 3) := by decide +kernel
theorem dX1_yieldOfAll_37 : decode cX1_yieldOfAll 37 = .ok (.iload_n 2, 1) := by decide +kernel
theorem dX1_yieldOfAll_38 : decode cX1_yieldOfAll 38 = .ok (.iaload, 1) := by decide +kernel
theorem dX1_yieldOfAll_39 : decode cX1_yieldOfAll 39 = .ok (.invokevirtual 98, 3) := by decide +kernel
theorem dX1_yieldOfAll_42 : decode cX1_yieldOfAll 42 = .ok (.iload_n 3, 1) := by decide +kernel
theorem dX1_yieldOfAll_43 : decode cX1_yieldOfAll 43 = .ok (.idiv, 1) := by decide +kernel
theorem dX1_yieldOfAll_44 : decode cX1_yieldOfAll 44 = .ok (.goto 4, 3) := by decide +kernel
theorem dX1_yieldOfAll_47 : decode cX1_yieldOfAll 47 = .ok (.iconst 0, 1) := by decide +kernel
theorem dX1_yieldOfAll_48 : decode cX1_yieldOfAll 48 = .ok (.iadd, 1) := by decide +kernel
theorem dX1_yieldOfAll_49 : decode cX1_yieldOfAll 49 = .ok (.istore_n 1, 1) := by decide +kernel
theorem dX1_yieldOfAll_50 : decode cX1_yieldOfAll 50 = .ok (.iinc 2 1, 3) := by decide +kernel
theorem dX1_yieldOfAll_53 : decode cX1_yieldOfAll 53 = .ok (.goto (-49), 3) := by decide +kernel
theorem dX1_yieldOfAll_56 : decode cX1_yieldOfAll 56 = .ok (.iload_n 1, 1) := by decide +kernel
theorem dX1_yieldOfAll_57 : decode cX1_yieldOfAll 57 = .ok (.ireturn, 1) := by decide +kernel
theorem dX1_worth_0 : decode cX1_worth 0 = .ok (.iload_n 2, 1) := by decide +kernel
theorem dX1_worth_1 : decode cX1_worth 1 = .ok (.iconst 0, 1) := by decide +kernel
theorem dX1_worth_2 : decode cX1_worth 2 = .ok (.aload_n 0, 1) := by decide +kernel
theorem dX1_worth_3 : decode cX1_worth 3 = .ok (.getfield 30, 3) := by decide +kernel
theorem dX1_worth_6 : decode cX1_worth 6 = .ok (.iconst 1, 1) := by decide +kernel
theorem dX1_worth_7 : decode cX1_worth 7 = .ok (.isub, 1) := by decide +kernel
theorem dX1_worth_8 : decode cX1_worth 8 = .ok (.invokestatic 37, 3) := by decide +kernel
theorem dX1_worth_11 : decode cX1_worth 11 = .ok (.ifCond .eq 19, 3) := by decide +kernel
theorem dX1_worth_14 : decode cX1_worth 14 = .ok (.aload_n 0, 1) := by decide +kernel
theorem dX1_worth_15 : decode cX1_worth 15 = .ok (.getfield 18, 3) := by decide +kernel
theorem dX1_worth_18 : decode cX1_worth 18 = .ok (.iload_n 1, 1) := by decide +kernel
theorem dX1_worth_19 : decode cX1_worth 19 = .ok (.iaload, 1) := by decide +kernel
theorem dX1_worth_20 : decode cX1_worth 20 = .ok (.aload_n 0, 1) := by decide +kernel
theorem dX1_worth_21 : decode cX1_worth 21 = .ok (.getfield 9, 3) := by decide +kernel
theorem dX1_worth_24 : decode cX1_worth 24 = .ok (.iload_n 2, 1) := by decide +kernel
theorem dX1_worth_25 : decode cX1_worth 25 = .ok (.iaload, 1) := by decide +kernel
theorem dX1_worth_26 : decode cX1_worth 26 = .ok (.imul, 1) := by decide +kernel
theorem dX1_worth_27 : decode cX1_worth 27 = .ok (.goto 4, 3) := by decide +kernel
theorem dX1_worth_30 : decode cX1_worth 30 = .ok (.iconst 0, 1) := by decide +kernel
theorem dX1_worth_31 : decode cX1_worth 31 = .ok (.ireturn, 1) := by decide +kernel
theorem dX1_place_0 : decode cX1_place 0 = .ok (.aload_n 0, 1) := by decide +kernel
theorem dX1_place_1 : decode cX1_place 1 = .ok (.getfield 50, 3) := by decide +kernel
theorem dX1_place_4 : decode cX1_place 4 = .ok (.ifCond .ne 13, 3) := by decide +kernel
theorem dX1_place_7 : decode cX1_place 7 = .ok (.aload_n 0, 1) := by decide +kernel
theorem dX1_place_8 : decode cX1_place 8 = .ok (.getfield 24, 3) := by decide +kernel
theorem dX1_place_11 : decode cX1_place 11 = .ok (.iload_n 1, 1) := by decide +kernel
theorem dX1_place_12 : decode cX1_place 12 = .ok (.iaload, 1) := by decide +kernel
theorem dX1_place_13 : decode cX1_place 13 = .ok (.iconst 5, 1) := by decide +kernel
theorem dX1_place_14 : decode cX1_place 14 = .ok (.if_icmp .ne 12, 3) := by decide +kernel
theorem dX1_place_17 : decode cX1_place 17 = .ok (.aload_n 0, 1) := by decide +kernel
theorem dX1_place_18 : decode cX1_place 18 = .ok (.getfield 27, 3) := by decide +kernel
theorem dX1_place_21 : decode cX1_place 21 = .ok (.iload_n 1, 1) := by decide +kernel
theorem dX1_place_22 : decode cX1_place 22 = .ok (.iaload, 1) := by decide +kernel
theorem dX1_place_23 : decode cX1_place 23 = .ok (.goto 5, 3) := by decide +kernel
theorem dX1_place_26 : decode cX1_place 26 = .ok (.ldc 101, 2) := by decide +kernel
theorem dX1_place_28 : decode cX1_place 28 = .ok (.ireturn, 1) := by decide +kernel
theorem dX1_pinsInTray_0 : decode cX1_pinsInTray 0 = .ok (.iconst 0, 1) := by decide +kernel
theorem dX1_pinsInTray_1 : decode cX1_pinsInTray 1 = .ok (.istore_n 1, 1) := by decide +kernel
theorem dX1_pinsInTray_2 : decode cX1_pinsInTray 2 = .ok (.iconst 0, 1) := by decide +kernel
theorem dX1_pinsInTray_3 : decode cX1_pinsInTray 3 = .ok (.istore_n 2, 1) := by decide +kernel
theorem dX1_pinsInTray_4 : decode cX1_pinsInTray 4 = .ok (.iload_n 2, 1) := by decide +kernel
theorem dX1_pinsInTray_5 : decode cX1_pinsInTray 5 = .ok (.aload_n 0, 1) := by decide +kernel
theorem dX1_pinsInTray_6 : decode cX1_pinsInTray 6 = .ok (.getfield 34, 3) := by decide +kernel
theorem dX1_pinsInTray_9 : decode cX1_pinsInTray 9 = .ok (.if_icmp .ge 29, 3) := by decide +kernel
theorem dX1_pinsInTray_12 : decode cX1_pinsInTray 12 = .ok (.iload_n 1, 1) := by decide +kernel
theorem dX1_pinsInTray_13 : decode cX1_pinsInTray 13 = .ok (.aload_n 0, 1) := by decide +kernel
theorem dX1_pinsInTray_14 : decode cX1_pinsInTray 14 = .ok (.iload_n 2, 1) := by decide +kernel
theorem dX1_pinsInTray_15 : decode cX1_pinsInTray 15 = .ok (.invokevirtual 102, 3) := by decide +kernel
theorem dX1_pinsInTray_18 : decode cX1_pinsInTray 18 = .ok (.ldc 101, 2) := by decide +kernel
theorem dX1_pinsInTray_20 : decode cX1_pinsInTray 20 = .ok (.if_icmp .ne 9, 3) := by decide +kernel
theorem dX1_pinsInTray_23 : decode cX1_pinsInTray 23 = .ok (.iconst 1, 1) := by decide +kernel
theorem dX1_pinsInTray_24 : decode cX1_pinsInTray 24 = .ok (.iload_n 2, 1) := by decide +kernel
theorem dX1_pinsInTray_25 : decode cX1_pinsInTray 25 = .ok (.ishl, 1) := by decide +kernel
theorem dX1_pinsInTray_26 : decode cX1_pinsInTray 26 = .ok (.goto 4, 3) := by decide +kernel
theorem dX1_pinsInTray_29 : decode cX1_pinsInTray 29 = .ok (.iconst 0, 1) := by decide +kernel
theorem dX1_pinsInTray_30 : decode cX1_pinsInTray 30 = .ok (.ior, 1) := by decide +kernel
theorem dX1_pinsInTray_31 : decode cX1_pinsInTray 31 = .ok (.istore_n 1, 1) := by decide +kernel
theorem dX1_pinsInTray_32 : decode cX1_pinsInTray 32 = .ok (.iinc 2 1, 3) := by decide +kernel
theorem dX1_pinsInTray_35 : decode cX1_pinsInTray 35 = .ok (.goto (-31), 3) := by decide +kernel
theorem dX1_pinsInTray_38 : decode cX1_pinsInTray 38 = .ok (.iload_n 1, 1) := by decide +kernel
theorem dX1_pinsInTray_39 : decode cX1_pinsInTray 39 = .ok (.ireturn, 1) := by decide +kernel
theorem dX1_pinsIn_0 : decode cX1_pinsIn 0 = .ok (.iconst 0, 1) := by decide +kernel
theorem dX1_pinsIn_1 : decode cX1_pinsIn 1 = .ok (.istore_n 2, 1) := by decide +kernel
theorem dX1_pinsIn_2 : decode cX1_pinsIn 2 = .ok (.iconst 0, 1) := by decide +kernel
theorem dX1_pinsIn_3 : decode cX1_pinsIn 3 = .ok (.istore_n 3, 1) := by decide +kernel
theorem dX1_pinsIn_4 : decode cX1_pinsIn 4 = .ok (.iload_n 3, 1) := by decide +kernel
theorem dX1_pinsIn_5 : decode cX1_pinsIn 5 = .ok (.aload_n 0, 1) := by decide +kernel
theorem dX1_pinsIn_6 : decode cX1_pinsIn 6 = .ok (.getfield 34, 3) := by decide +kernel
theorem dX1_pinsIn_9 : decode cX1_pinsIn 9 = .ok (.if_icmp .ge 28, 3) := by decide +kernel
theorem dX1_pinsIn_12 : decode cX1_pinsIn 12 = .ok (.iload_n 2, 1) := by decide +kernel
theorem dX1_pinsIn_13 : decode cX1_pinsIn 13 = .ok (.aload_n 0, 1) := by decide +kernel
theorem dX1_pinsIn_14 : decode cX1_pinsIn 14 = .ok (.iload_n 3, 1) := by decide +kernel
theorem dX1_pinsIn_15 : decode cX1_pinsIn 15 = .ok (.invokevirtual 102, 3) := by decide +kernel
theorem dX1_pinsIn_18 : decode cX1_pinsIn 18 = .ok (.iload_n 1, 1) := by decide +kernel
theorem dX1_pinsIn_19 : decode cX1_pinsIn 19 = .ok (.if_icmp .ne 9, 3) := by decide +kernel
theorem dX1_pinsIn_22 : decode cX1_pinsIn 22 = .ok (.iconst 1, 1) := by decide +kernel
theorem dX1_pinsIn_23 : decode cX1_pinsIn 23 = .ok (.iload_n 3, 1) := by decide +kernel
theorem dX1_pinsIn_24 : decode cX1_pinsIn 24 = .ok (.ishl, 1) := by decide +kernel
theorem dX1_pinsIn_25 : decode cX1_pinsIn 25 = .ok (.goto 4, 3) := by decide +kernel
theorem dX1_pinsIn_28 : decode cX1_pinsIn 28 = .ok (.iconst 0, 1) := by decide +kernel
theorem dX1_pinsIn_29 : decode cX1_pinsIn 29 = .ok (.ior, 1) := by decide +kernel
theorem dX1_pinsIn_30 : decode cX1_pinsIn 30 = .ok (.istore_n 2, 1) := by decide +kernel
theorem dX1_pinsIn_31 : decode cX1_pinsIn 31 = .ok (.iinc 3 1, 3) := by decide +kernel
theorem dX1_pinsIn_34 : decode cX1_pinsIn 34 = .ok (.goto (-30), 3) := by decide +kernel
theorem dX1_pinsIn_37 : decode cX1_pinsIn 37 = .ok (.iload_n 2, 1) := by decide +kernel
theorem dX1_pinsIn_38 : decode cX1_pinsIn 38 = .ok (.ireturn, 1) := by decide +kernel
theorem dX1_owner_0 : decode cX1_owner 0 = .ok (.iconst 0, 1) := by decide +kernel
theorem dX1_owner_1 : decode cX1_owner 1 = .ok (.istore_n 2, 1) := by decide +kernel
theorem dX1_owner_2 : decode cX1_owner 2 = .ok (.iload_n 2, 1) := by decide +kernel
theorem dX1_owner_3 : decode cX1_owner 3 = .ok (.aload_n 0, 1) := by decide +kernel
theorem dX1_owner_4 : decode cX1_owner 4 = .ok (.getfield 34, 3) := by decide +kernel
theorem dX1_owner_7 : decode cX1_owner 7 = .ok (.if_icmp .ge 21, 3) := by decide +kernel
theorem dX1_owner_10 : decode cX1_owner 10 = .ok (.aload_n 0, 1) := by decide +kernel
theorem dX1_owner_11 : decode cX1_owner 11 = .ok (.getfield 15, 3) := by decide +kernel
theorem dX1_owner_14 : decode cX1_owner 14 = .ok (.iload_n 2, 1) := by decide +kernel
theorem dX1_owner_15 : decode cX1_owner 15 = .ok (.iaload, 1) := by decide +kernel
theorem dX1_owner_16 : decode cX1_owner 16 = .ok (.iload_n 1, 1) := by decide +kernel
theorem dX1_owner_17 : decode cX1_owner 17 = .ok (.if_icmp .ne 5, 3) := by decide +kernel
theorem dX1_owner_20 : decode cX1_owner 20 = .ok (.iload_n 2, 1) := by decide +kernel
theorem dX1_owner_21 : decode cX1_owner 21 = .ok (.ireturn, 1) := by decide +kernel
theorem dX1_owner_22 : decode cX1_owner 22 = .ok (.iinc 2 1, 3) := by decide +kernel
theorem dX1_owner_25 : decode cX1_owner 25 = .ok (.goto (-23), 3) := by decide +kernel
theorem dX1_owner_28 : decode cX1_owner 28 = .ok (.ldc 101, 2) := by decide +kernel
theorem dX1_owner_30 : decode cX1_owner 30 = .ok (.ireturn, 1) := by decide +kernel
theorem dX1_pinsAtHome_0 : decode cX1_pinsAtHome 0 = .ok (.iconst 0, 1) := by decide +kernel
theorem dX1_pinsAtHome_1 : decode cX1_pinsAtHome 1 = .ok (.istore_n 1, 1) := by decide +kernel
theorem dX1_pinsAtHome_2 : decode cX1_pinsAtHome 2 = .ok (.iconst 0, 1) := by decide +kernel
theorem dX1_pinsAtHome_3 : decode cX1_pinsAtHome 3 = .ok (.istore_n 2, 1) := by decide +kernel
theorem dX1_pinsAtHome_4 : decode cX1_pinsAtHome 4 = .ok (.iload_n 2, 1) := by decide +kernel
theorem dX1_pinsAtHome_5 : decode cX1_pinsAtHome 5 = .ok (.aload_n 0, 1) := by decide +kernel
theorem dX1_pinsAtHome_6 : decode cX1_pinsAtHome 6 = .ok (.getfield 34, 3) := by decide +kernel
theorem dX1_pinsAtHome_9 : decode cX1_pinsAtHome 9 = .ok (.if_icmp .ge 33, 3) := by decide +kernel
theorem dX1_pinsAtHome_12 : decode cX1_pinsAtHome 12 = .ok (.iload_n 1, 1) := by decide +kernel
theorem dX1_pinsAtHome_13 : decode cX1_pinsAtHome 13 = .ok (.aload_n 0, 1) := by decide +kernel
theorem dX1_pinsAtHome_14 : decode cX1_pinsAtHome 14 = .ok (.iload_n 2, 1) := by decide +kernel
theorem dX1_pinsAtHome_15 : decode cX1_pinsAtHome 15 = .ok (.invokevirtual 102, 3) := by decide +kernel
theorem dX1_pinsAtHome_18 : decode cX1_pinsAtHome 18 = .ok (.aload_n 0, 1) := by decide +kernel
theorem dX1_pinsAtHome_19 : decode cX1_pinsAtHome 19 = .ok (.getfield 15, 3) := by decide +kernel
theorem dX1_pinsAtHome_22 : decode cX1_pinsAtHome 22 = .ok (.iload_n 2, 1) := by decide +kernel
theorem dX1_pinsAtHome_23 : decode cX1_pinsAtHome 23 = .ok (.iaload, 1) := by decide +kernel
theorem dX1_pinsAtHome_24 : decode cX1_pinsAtHome 24 = .ok (.if_icmp .ne 9, 3) := by decide +kernel
theorem dX1_pinsAtHome_27 : decode cX1_pinsAtHome 27 = .ok (.iconst 1, 1) := by decide +kernel
theorem dX1_pinsAtHome_28 : decode cX1_pinsAtHome 28 = .ok (.iload_n 2, 1) := by decide +kernel
theorem dX1_pinsAtHome_29 : decode cX1_pinsAtHome 29 = .ok (.ishl, 1) := by decide +kernel
theorem dX1_pinsAtHome_30 : decode cX1_pinsAtHome 30 = .ok (.goto 4, 3) := by decide +kernel
theorem dX1_pinsAtHome_33 : decode cX1_pinsAtHome 33 = .ok (.iconst 0, 1) := by decide +kernel
theorem dX1_pinsAtHome_34 : decode cX1_pinsAtHome 34 = .ok (.ior, 1) := by decide +kernel
theorem dX1_pinsAtHome_35 : decode cX1_pinsAtHome 35 = .ok (.istore_n 1, 1) := by decide +kernel
theorem dX1_pinsAtHome_36 : decode cX1_pinsAtHome 36 = .ok (.iinc 2 1, 3) := by decide +kernel
theorem dX1_pinsAtHome_39 : decode cX1_pinsAtHome 39 = .ok (.goto (-35), 3) := by decide +kernel
theorem dX1_pinsAtHome_42 : decode cX1_pinsAtHome 42 = .ok (.iload_n 1, 1) := by decide +kernel
theorem dX1_pinsAtHome_43 : decode cX1_pinsAtHome 43 = .ok (.ireturn, 1) := by decide +kernel
theorem dX1_fewestChanges_0 : decode cX1_fewestChanges 0 = .ok (.aload_n 0, 1) := by decide +kernel
theorem dX1_fewestChanges_1 : decode cX1_fewestChanges 1 = .ok (.getfield 50, 3) := by decide +kernel
theorem dX1_fewestChanges_4 : decode cX1_fewestChanges 4 = .ok (.ifCond .eq 10, 3) := by decide +kernel
theorem dX1_fewestChanges_7 : decode cX1_fewestChanges 7 = .ok (.aload_n 0, 1) := by decide +kernel
theorem dX1_fewestChanges_8 : decode cX1_fewestChanges 8 = .ok (.invokevirtual 105, 3) := by decide +kernel
theorem dX1_fewestChanges_11 : decode cX1_fewestChanges 11 = .ok (.ifCond .ne 6, 3) := by decide +kernel
theorem dX1_fewestChanges_14 : decode cX1_fewestChanges 14 = .ok (.ldc 101, 2) := by decide +kernel
theorem dX1_fewestChanges_16 : decode cX1_fewestChanges 16 = .ok (.ireturn, 1) := by decide +kernel
theorem dX1_fewestChanges_17 : decode cX1_fewestChanges 17 = .ok (.iconst 0, 1) := by decide +kernel
theorem dX1_fewestChanges_18 : decode cX1_fewestChanges 18 = .ok (.istore_n 1, 1) := by decide +kernel
theorem dX1_fewestChanges_19 : decode cX1_fewestChanges 19 = .ok (.iconst 0, 1) := by decide +kernel
theorem dX1_fewestChanges_20 : decode cX1_fewestChanges 20 = .ok (.istore_n 2, 1) := by decide +kernel
theorem dX1_fewestChanges_21 : decode cX1_fewestChanges 21 = .ok (.iconst 0, 1) := by decide +kernel
theorem dX1_fewestChanges_22 : decode cX1_fewestChanges 22 = .ok (.istore_n 3, 1) := by decide +kernel
theorem dX1_fewestChanges_23 : decode cX1_fewestChanges 23 = .ok (.iload_n 3, 1) := by decide +kernel
theorem dX1_fewestChanges_24 : decode cX1_fewestChanges 24 = .ok (.aload_n 0, 1) := by decide +kernel
theorem dX1_fewestChanges_25 : decode cX1_fewestChanges 25 = .ok (.getfield 34, 3) := by decide +kernel
theorem dX1_fewestChanges_28 : decode cX1_fewestChanges 28 = .ok (.if_icmp .ge 33, 3) := by decide +kernel
theorem dX1_fewestChanges_31 : decode cX1_fewestChanges 31 = .ok (.iload_n 1, 1) := by decide +kernel
theorem dX1_fewestChanges_32 : decode cX1_fewestChanges 32 = .ok (.iload_n 2, 1) := by decide +kernel
theorem dX1_fewestChanges_33 : decode cX1_fewestChanges 33 = .ok (.iload_n 3, 1) := by decide +kernel
theorem dX1_fewestChanges_34 : decode cX1_fewestChanges 34 = .ok (.invokestatic 78, 3) := by decide +kernel
theorem dX1_fewestChanges_37 : decode cX1_fewestChanges 37 = .ok (.ifCond .eq 7, 3) := by decide +kernel
theorem dX1_fewestChanges_40 : decode cX1_fewestChanges 40 = .ok (.iconst 0, 1) := by decide +kernel
theorem dX1_fewestChanges_41 : decode cX1_fewestChanges 41 = .ok (.goto 4, 3) := by decide +kernel
theorem dX1_fewestChanges_44 : decode cX1_fewestChanges 44 = .ok (.iconst 1, 1) := by decide +kernel
theorem dX1_fewestChanges_45 : decode cX1_fewestChanges 45 = .ok (.iadd, 1) := by decide +kernel
theorem dX1_fewestChanges_46 : decode cX1_fewestChanges 46 = .ok (.istore_n 1, 1) := by decide +kernel
theorem dX1_fewestChanges_47 : decode cX1_fewestChanges 47 = .ok (.iload_n 2, 1) := by decide +kernel
theorem dX1_fewestChanges_48 : decode cX1_fewestChanges 48 = .ok (.aload_n 0, 1) := by decide +kernel
theorem dX1_fewestChanges_49 : decode cX1_fewestChanges 49 = .ok (.iload_n 3, 1) := by decide +kernel
theorem dX1_fewestChanges_50 : decode cX1_fewestChanges 50 = .ok (.invokevirtual 109, 3) := by decide +kernel
theorem dX1_fewestChanges_53 : decode cX1_fewestChanges 53 = .ok (.ior, 1) := by decide +kernel
theorem dX1_fewestChanges_54 : decode cX1_fewestChanges 54 = .ok (.istore_n 2, 1) := by decide +kernel
theorem dX1_fewestChanges_55 : decode cX1_fewestChanges 55 = .ok (.iinc 3 1, 3) := by decide +kernel
theorem dX1_fewestChanges_58 : decode cX1_fewestChanges 58 = .ok (.goto (-35), 3) := by decide +kernel
theorem dX1_fewestChanges_61 : decode cX1_fewestChanges 61 = .ok (.aload_n 0, 1) := by decide +kernel
theorem dX1_fewestChanges_62 : decode cX1_fewestChanges 62 = .ok (.getfield 34, 3) := by decide +kernel
theorem dX1_fewestChanges_65 : decode cX1_fewestChanges 65 = .ok (.iload_n 1, 1) := by decide +kernel
theorem dX1_fewestChanges_66 : decode cX1_fewestChanges 66 = .ok (.isub, 1) := by decide +kernel
theorem dX1_fewestChanges_67 : decode cX1_fewestChanges 67 = .ok (.ireturn, 1) := by decide +kernel
theorem dX1_fillsHomes_0 : decode cX1_fillsHomes 0 = .ok (.iconst 0, 1) := by decide +kernel
theorem dX1_fillsHomes_1 : decode cX1_fillsHomes 1 = .ok (.istore_n 1, 1) := by decide +kernel
theorem dX1_fillsHomes_2 : decode cX1_fillsHomes 2 = .ok (.iconst 0, 1) := by decide +kernel
theorem dX1_fillsHomes_3 : decode cX1_fillsHomes 3 = .ok (.istore_n 2, 1) := by decide +kernel
theorem dX1_fillsHomes_4 : decode cX1_fillsHomes 4 = .ok (.iconst 0, 1) := by decide +kernel
theorem dX1_fillsHomes_5 : decode cX1_fillsHomes 5 = .ok (.istore_n 3, 1) := by decide +kernel
theorem dX1_fillsHomes_6 : decode cX1_fillsHomes 6 = .ok (.iload_n 3, 1) := by decide +kernel
theorem dX1_fillsHomes_7 : decode cX1_fillsHomes 7 = .ok (.aload_n 0, 1) := by decide +kernel
theorem dX1_fillsHomes_8 : decode cX1_fillsHomes 8 = .ok (.getfield 34, 3) := by decide +kernel
theorem dX1_fillsHomes_11 : decode cX1_fillsHomes 11 = .ok (.if_icmp .ge 31, 3) := by decide +kernel
theorem dX1_fillsHomes_14 : decode cX1_fillsHomes 14 = .ok (.iload_n 1, 1) := by decide +kernel
theorem dX1_fillsHomes_15 : decode cX1_fillsHomes 15 = .ok (.iconst 1, 1) := by decide +kernel
theorem dX1_fillsHomes_16 : decode cX1_fillsHomes 16 = .ok (.aload_n 0, 1) := by decide +kernel
theorem dX1_fillsHomes_17 : decode cX1_fillsHomes 17 = .ok (.getfield 27, 3) := by decide +kernel
theorem dX1_fillsHomes_20 : decode cX1_fillsHomes 20 = .ok (.iload_n 3, 1) := by decide +kernel
theorem dX1_fillsHomes_21 : decode cX1_fillsHomes 21 = .ok (.iaload, 1) := by decide +kernel
theorem dX1_fillsHomes_22 : decode cX1_fillsHomes 22 = .ok (.ishl, 1) := by decide +kernel
theorem dX1_fillsHomes_23 : decode cX1_fillsHomes 23 = .ok (.ior, 1) := by decide +kernel
theorem dX1_fillsHomes_24 : decode cX1_fillsHomes 24 = .ok (.istore_n 1, 1) := by decide +kernel
theorem dX1_fillsHomes_25 : decode cX1_fillsHomes 25 = .ok (.iload_n 2, 1) := by decide +kernel
theorem dX1_fillsHomes_26 : decode cX1_fillsHomes 26 = .ok (.iconst 1, 1) := by decide +kernel
theorem dX1_fillsHomes_27 : decode cX1_fillsHomes 27 = .ok (.aload_n 0, 1) := by decide +kernel
theorem dX1_fillsHomes_28 : decode cX1_fillsHomes 28 = .ok (.getfield 15, 3) := by decide +kernel
theorem dX1_fillsHomes_31 : decode cX1_fillsHomes 31 = .ok (.iload_n 3, 1) := by decide +kernel
theorem dX1_fillsHomes_32 : decode cX1_fillsHomes 32 = .ok (.iaload, 1) := by decide +kernel
theorem dX1_fillsHomes_33 : decode cX1_fillsHomes 33 = .ok (.ishl, 1) := by decide +kernel
theorem dX1_fillsHomes_34 : decode cX1_fillsHomes 34 = .ok (.ior, 1) := by decide +kernel
theorem dX1_fillsHomes_35 : decode cX1_fillsHomes 35 = .ok (.istore_n 2, 1) := by decide +kernel
theorem dX1_fillsHomes_36 : decode cX1_fillsHomes 36 = .ok (.iinc 3 1, 3) := by decide +kernel
theorem dX1_fillsHomes_39 : decode cX1_fillsHomes 39 = .ok (.goto (-33), 3) := by decide +kernel
theorem dX1_fillsHomes_42 : decode cX1_fillsHomes 42 = .ok (.iload_n 1, 1) := by decide +kernel
theorem dX1_fillsHomes_43 : decode cX1_fillsHomes 43 = .ok (.iload_n 2, 1) := by decide +kernel
theorem dX1_fillsHomes_44 : decode cX1_fillsHomes 44 = .ok (.if_icmp .ne 18, 3) := by decide +kernel
theorem dX1_fillsHomes_47 : decode cX1_fillsHomes 47 = .ok (.iload_n 1, 1) := by decide +kernel
theorem dX1_fillsHomes_48 : decode cX1_fillsHomes 48 = .ok (.invokestatic 93, 3) := by decide +kernel
theorem dX1_fillsHomes_51 : decode cX1_fillsHomes 51 = .ok (.aload_n 0, 1) := by decide +kernel
theorem dX1_fillsHomes_52 : decode cX1_fillsHomes 52 = .ok (.getfield 34, 3) := by decide +kernel
theorem dX1_fillsHomes_55 : decode cX1_fillsHomes 55 = .ok (.if_icmp .ne 7, 3) := by decide +kernel
theorem dX1_fillsHomes_58 : decode cX1_fillsHomes 58 = .ok (.iconst 1, 1) := by decide +kernel
theorem dX1_fillsHomes_59 : decode cX1_fillsHomes 59 = .ok (.goto 4, 3) := by decide +kernel
theorem dX1_fillsHomes_62 : decode cX1_fillsHomes 62 = .ok (.iconst 0, 1) := by decide +kernel
theorem dX1_fillsHomes_63 : decode cX1_fillsHomes 63 = .ok (.ireturn, 1) := by decide +kernel
theorem dX1_ringOf_0 : decode cX1_ringOf 0 = .ok (.iconst 0, 1) := by decide +kernel
theorem dX1_ringOf_1 : decode cX1_ringOf 1 = .ok (.istore_n 2, 1) := by decide +kernel
theorem dX1_ringOf_2 : decode cX1_ringOf 2 = .ok (.iload_n 1, 1) := by decide +kernel
theorem dX1_ringOf_3 : decode cX1_ringOf 3 = .ok (.istore_n 3, 1) := by decide +kernel
theorem dX1_ringOf_4 : decode cX1_ringOf 4 = .ok (.iconst 0, 1) := by decide +kernel
theorem dX1_ringOf_5 : decode cX1_ringOf 5 = .ok (.istore 4, 2) := by decide +kernel
theorem dX1_ringOf_7 : decode cX1_ringOf 7 = .ok (.iload 4, 2) := by decide +kernel
theorem dX1_ringOf_9 : decode cX1_ringOf 9 = .ok (.aload_n 0, 1) := by decide +kernel
theorem dX1_ringOf_10 : decode cX1_ringOf 10 = .ok (.getfield 34, 3) := by decide +kernel
theorem dX1_ringOf_13 : decode cX1_ringOf 13 = .ok (.if_icmp .ge 34, 3) := by decide +kernel
theorem dX1_ringOf_16 : decode cX1_ringOf 16 = .ok (.aload_n 0, 1) := by decide +kernel
theorem dX1_ringOf_17 : decode cX1_ringOf 17 = .ok (.iload_n 3, 1) := by decide +kernel
theorem dX1_ringOf_18 : decode cX1_ringOf 18 = .ok (.invokevirtual 112, 3) := by decide +kernel
theorem dX1_ringOf_21 : decode cX1_ringOf 21 = .ok (.ifCond .eq 26, 3) := by decide +kernel
theorem dX1_ringOf_24 : decode cX1_ringOf 24 = .ok (.iload_n 2, 1) := by decide +kernel
theorem dX1_ringOf_25 : decode cX1_ringOf 25 = .ok (.iconst 1, 1) := by decide +kernel
theorem dX1_ringOf_26 : decode cX1_ringOf 26 = .ok (.iload_n 3, 1) := by decide +kernel
theorem dX1_ringOf_27 : decode cX1_ringOf 27 = .ok (.ishl, 1) := by decide +kernel
theorem dX1_ringOf_28 : decode cX1_ringOf 28 = .ok (.ior, 1) := by decide +kernel
theorem dX1_ringOf_29 : decode cX1_ringOf 29 = .ok (.istore_n 2, 1) := by decide +kernel
theorem dX1_ringOf_30 : decode cX1_ringOf 30 = .ok (.aload_n 0, 1) := by decide +kernel
theorem dX1_ringOf_31 : decode cX1_ringOf 31 = .ok (.aload_n 0, 1) := by decide +kernel
theorem dX1_ringOf_32 : decode cX1_ringOf 32 = .ok (.getfield 27, 3) := by decide +kernel
theorem dX1_ringOf_35 : decode cX1_ringOf 35 = .ok (.iload_n 3, 1) := by decide +kernel
theorem dX1_ringOf_36 : decode cX1_ringOf 36 = .ok (.iaload, 1) := by decide +kernel
theorem dX1_ringOf_37 : decode cX1_ringOf 37 = .ok (.invokevirtual 116, 3) := by decide +kernel
theorem dX1_ringOf_40 : decode cX1_ringOf 40 = .ok (.istore_n 3, 1) := by decide +kernel
theorem dX1_ringOf_41 : decode cX1_ringOf 41 = .ok (.iinc 4 1, 3) := by decide +kernel
theorem dX1_ringOf_44 : decode cX1_ringOf 44 = .ok (.goto (-37), 3) := by decide +kernel
theorem dX1_ringOf_47 : decode cX1_ringOf 47 = .ok (.iload_n 2, 1) := by decide +kernel
theorem dX1_ringOf_48 : decode cX1_ringOf 48 = .ok (.ireturn, 1) := by decide +kernel
theorem dX2_init_0 : decode cX2_init 0 = .ok (.aload_n 0, 1) := by decide +kernel
theorem dX2_init_1 : decode cX2_init 1 = .ok (.invokespecial 3, 3) := by decide +kernel
theorem dX2_init_4 : decode cX2_init 4 = .ok (.aload_n 0, 1) := by decide +kernel
theorem dX2_init_5 : decode cX2_init 5 = .ok (.new 9, 3) := by decide +kernel
theorem dX2_init_8 : decode cX2_init 8 = .ok (.dup, 1) := by decide +kernel
theorem dX2_init_9 : decode cX2_init 9 = .ok (.invokespecial 11, 3) := by decide +kernel
theorem dX2_init_12 : decode cX2_init 12 = .ok (.putfield 12, 3) := by decide +kernel
theorem dX2_init_15 : decode cX2_init 15 = .ok (.aload_n 0, 1) := by decide +kernel
theorem dX2_init_16 : decode cX2_init 16 = .ok (.aload_n 1, 1) := by decide +kernel
theorem dX2_init_17 : decode cX2_init 17 = .ok (.putfield 18, 3) := by decide +kernel
theorem dX2_init_20 : decode cX2_init 20 = .ok (.return_, 1) := by decide +kernel
theorem dX2_goOn_0 : decode cX2_goOn 0 = .ok (.aload_n 0, 1) := by decide +kernel
theorem dX2_goOn_1 : decode cX2_goOn 1 = .ok (.getfield 12, 3) := by decide +kernel
theorem dX2_goOn_4 : decode cX2_goOn 4 = .ok (.aload_n 0, 1) := by decide +kernel
theorem dX2_goOn_5 : decode cX2_goOn 5 = .ok (.getfield 18, 3) := by decide +kernel
theorem dX2_goOn_8 : decode cX2_goOn 8 = .ok (.invokevirtual 21, 3) := by decide +kernel
theorem dX2_goOn_11 : decode cX2_goOn 11 = .ok (.iconst 0, 1) := by decide +kernel
theorem dX2_goOn_12 : decode cX2_goOn 12 = .ok (.istore_n 2, 1) := by decide +kernel
theorem dX2_goOn_13 : decode cX2_goOn 13 = .ok (.iload_n 2, 1) := by decide +kernel
theorem dX2_goOn_14 : decode cX2_goOn 14 = .ok (.iload_n 1, 1) := by decide +kernel
theorem dX2_goOn_15 : decode cX2_goOn 15 = .ok (.if_icmp .ge 16, 3) := by decide +kernel
theorem dX2_goOn_18 : decode cX2_goOn 18 = .ok (.aload_n 0, 1) := by decide +kernel
theorem dX2_goOn_19 : decode cX2_goOn 19 = .ok (.getfield 12, 3) := by decide +kernel
theorem dX2_goOn_22 : decode cX2_goOn 22 = .ok (.invokevirtual 25, 3) := by decide +kernel
theorem dX2_goOn_25 : decode cX2_goOn 25 = .ok (.iinc 2 1, 3) := by decide +kernel
theorem dX2_goOn_28 : decode cX2_goOn 28 = .ok (.goto (-15), 3) := by decide +kernel
theorem dX2_goOn_31 : decode cX2_goOn 31 = .ok (.return_, 1) := by decide +kernel
theorem dX2_turnsTillIn_0 : decode cX2_turnsTillIn 0 = .ok (.aload_n 0, 1) := by decide +kernel
theorem dX2_turnsTillIn_1 : decode cX2_turnsTillIn 1 = .ok (.getfield 12, 3) := by decide +kernel
theorem dX2_turnsTillIn_4 : decode cX2_turnsTillIn 4 = .ok (.aload_n 0, 1) := by decide +kernel
theorem dX2_turnsTillIn_5 : decode cX2_turnsTillIn 5 = .ok (.getfield 18, 3) := by decide +kernel
theorem dX2_turnsTillIn_8 : decode cX2_turnsTillIn 8 = .ok (.invokevirtual 21, 3) := by decide +kernel
theorem dX2_turnsTillIn_11 : decode cX2_turnsTillIn 11 = .ok (.iconst 0, 1) := by decide +kernel
theorem dX2_turnsTillIn_12 : decode cX2_turnsTillIn 12 = .ok (.istore_n 3, 1) := by decide +kernel
theorem dX2_turnsTillIn_13 : decode cX2_turnsTillIn 13 = .ok (.iload_n 3, 1) := by decide +kernel
theorem dX2_turnsTillIn_14 : decode cX2_turnsTillIn 14 = .ok (.bipush 60, 2) := by decide +kernel
theorem dX2_turnsTillIn_16 : decode cX2_turnsTillIn 16 = .ok (.if_icmp .gt 30, 3) := by decide +kernel
theorem dX2_turnsTillIn_19 : decode cX2_turnsTillIn 19 = .ok (.aload_n 0, 1) := by decide +kernel
theorem dX2_turnsTillIn_20 : decode cX2_turnsTillIn 20 = .ok (.getfield 12, 3) := by decide +kernel
theorem dX2_turnsTillIn_23 : decode cX2_turnsTillIn 23 = .ok (.iload_n 1, 1) := by decide +kernel
theorem dX2_turnsTillIn_24 : decode cX2_turnsTillIn 24 = .ok (.invokevirtual 28, 3) := by decide +kernel
theorem dX2_turnsTillIn_27 : decode cX2_turnsTillIn 27 = .ok (.iload_n 2, 1) := by decide +kernel
theorem dX2_turnsTillIn_28 : decode cX2_turnsTillIn 28 = .ok (.if_icmp .ne 5, 3) := by decide +kernel
theorem dX2_turnsTillIn_31 : decode cX2_turnsTillIn 31 = .ok (.iload_n 3, 1) := by decide +kernel
theorem dX2_turnsTillIn_32 : decode cX2_turnsTillIn 32 = .ok (.ireturn, 1) := by decide +kernel
theorem dX2_turnsTillIn_33 : decode cX2_turnsTillIn 33 = .ok (.aload_n 0, 1) := by decide +kernel
theorem dX2_turnsTillIn_34 : decode cX2_turnsTillIn 34 = .ok (.getfield 12, 3) := by decide +kernel
theorem dX2_turnsTillIn_37 : decode cX2_turnsTillIn 37 = .ok (.invokevirtual 25, 3) := by decide +kernel
theorem dX2_turnsTillIn_40 : decode cX2_turnsTillIn 40 = .ok (.iinc 3 1, 3) := by decide +kernel
theorem dX2_turnsTillIn_43 : decode cX2_turnsTillIn 43 = .ok (.goto (-30), 3) := by decide +kernel
theorem dX2_turnsTillIn_46 : decode cX2_turnsTillIn 46 = .ok (.ldc 32, 2) := by decide +kernel
theorem dX2_turnsTillIn_48 : decode cX2_turnsTillIn 48 = .ok (.ireturn, 1) := by decide +kernel
theorem dX2_turnsTillSame_0 : decode cX2_turnsTillSame 0 = .ok (.aload_n 0, 1) := by decide +kernel
theorem dX2_turnsTillSame_1 : decode cX2_turnsTillSame 1 = .ok (.getfield 12, 3) := by decide +kernel
theorem dX2_turnsTillSame_4 : decode cX2_turnsTillSame 4 = .ok (.aload_n 0, 1) := by decide +kernel
theorem dX2_turnsTillSame_5 : decode cX2_turnsTillSame 5 = .ok (.getfield 18, 3) := by decide +kernel
theorem dX2_turnsTillSame_8 : decode cX2_turnsTillSame 8 = .ok (.invokevirtual 21, 3) := by decide +kernel
theorem dX2_turnsTillSame_11 : decode cX2_turnsTillSame 11 = .ok (.iconst 1, 1) := by decide +kernel
theorem dX2_turnsTillSame_12 : decode cX2_turnsTillSame 12 = .ok (.istore_n 1, 1) := by decide +kernel
theorem dX2_turnsTillSame_13 : decode cX2_turnsTillSame 13 = .ok (.iload_n 1, 1) := by decide +kernel
theorem dX2_turnsTillSame_14 : decode cX2_turnsTillSame 14 = .ok (.sipush 200, 3) := by decide +kernel
theorem dX2_turnsTillSame_17 : decode cX2_turnsTillSame 17 = .ok (.if_icmp .gt 25, 3) := by decide +kernel
theorem dX2_turnsTillSame_20 : decode cX2_turnsTillSame 20 = .ok (.aload_n 0, 1) := by decide +kernel
theorem dX2_turnsTillSame_21 : decode cX2_turnsTillSame 21 = .ok (.getfield 12, 3) := by decide +kernel
theorem dX2_turnsTillSame_24 : decode cX2_turnsTillSame 24 = .ok (.invokevirtual 25, 3) := by decide +kernel
theorem dX2_turnsTillSame_27 : decode cX2_turnsTillSame 27 = .ok (.aload_n 0, 1) := by decide +kernel
theorem dX2_turnsTillSame_28 : decode cX2_turnsTillSame 28 = .ok (.invokevirtual 33, 3) := by decide +kernel
theorem dX2_turnsTillSame_31 : decode cX2_turnsTillSame 31 = .ok (.ifCond .eq 5, 3) := by decide +kernel
theorem dX2_turnsTillSame_34 : decode cX2_turnsTillSame 34 = .ok (.iload_n 1, 1) := by decide +kernel
theorem dX2_turnsTillSame_35 : decode cX2_turnsTillSame 35 = .ok (.ireturn, 1) := by decide +kernel
theorem dX2_turnsTillSame_36 : decode cX2_turnsTillSame 36 = .ok (.iinc 1 1, 3) := by decide +kernel
theorem dX2_turnsTillSame_39 : decode cX2_turnsTillSame 39 = .ok (.goto (-26), 3) := by decide +kernel
theorem dX2_turnsTillSame_42 : decode cX2_turnsTillSame 42 = .ok (.ldc 32, 2) := by decide +kernel
theorem dX2_turnsTillSame_44 : decode cX2_turnsTillSame 44 = .ok (.ireturn, 1) := by decide +kernel
theorem dX2_isSamePlaces_0 : decode cX2_isSamePlaces 0 = .ok (.iconst 0, 1) := by decide +kernel
theorem dX2_isSamePlaces_1 : decode cX2_isSamePlaces 1 = .ok (.istore_n 1, 1) := by decide +kernel
theorem dX2_isSamePlaces_2 : decode cX2_isSamePlaces 2 = .ok (.iload_n 1, 1) := by decide +kernel
theorem dX2_isSamePlaces_3 : decode cX2_isSamePlaces 3 = .ok (.aload_n 0, 1) := by decide +kernel
theorem dX2_isSamePlaces_4 : decode cX2_isSamePlaces 4 = .ok (.getfield 18, 3) := by decide +kernel
theorem dX2_isSamePlaces_7 : decode cX2_isSamePlaces 7 = .ok (.getfield 37, 3) := by decide +kernel
theorem dX2_isSamePlaces_10 : decode cX2_isSamePlaces 10 = .ok (.if_icmp .ge 30, 3) := by decide +kernel
theorem dX2_isSamePlaces_13 : decode cX2_isSamePlaces 13 = .ok (.aload_n 0, 1) := by decide +kernel
theorem dX2_isSamePlaces_14 : decode cX2_isSamePlaces 14 = .ok (.getfield 12, 3) := by decide +kernel
theorem dX2_isSamePlaces_17 : decode cX2_isSamePlaces 17 = .ok (.iload_n 1, 1) := by decide +kernel
theorem dX2_isSamePlaces_18 : decode cX2_isSamePlaces 18 = .ok (.invokevirtual 28, 3) := by decide +kernel
theorem dX2_isSamePlaces_21 : decode cX2_isSamePlaces 21 = .ok (.aload_n 0, 1) := by decide +kernel
theorem dX2_isSamePlaces_22 : decode cX2_isSamePlaces 22 = .ok (.getfield 18, 3) := by decide +kernel
theorem dX2_isSamePlaces_25 : decode cX2_isSamePlaces 25 = .ok (.iload_n 1, 1) := by decide +kernel
theorem dX2_isSamePlaces_26 : decode cX2_isSamePlaces 26 = .ok (.invokevirtual 28, 3) := by decide +kernel
theorem dX2_isSamePlaces_29 : decode cX2_isSamePlaces 29 = .ok (.if_icmp .eq 5, 3) := by decide +kernel
theorem dX2_isSamePlaces_32 : decode cX2_isSamePlaces 32 = .ok (.iconst 0, 1) := by decide +kernel
theorem dX2_isSamePlaces_33 : decode cX2_isSamePlaces 33 = .ok (.ireturn, 1) := by decide +kernel
theorem dX2_isSamePlaces_34 : decode cX2_isSamePlaces 34 = .ok (.iinc 1 1, 3) := by decide +kernel
theorem dX2_isSamePlaces_37 : decode cX2_isSamePlaces 37 = .ok (.goto (-35), 3) := by decide +kernel
theorem dX2_isSamePlaces_40 : decode cX2_isSamePlaces 40 = .ok (.iconst 1, 1) := by decide +kernel
theorem dX2_isSamePlaces_41 : decode cX2_isSamePlaces 41 = .ok (.ireturn, 1) := by decide +kernel
theorem dX2_mostWorth_0 : decode cX2_mostWorth 0 = .ok (.iconst 0, 1) := by decide +kernel
theorem dX2_mostWorth_1 : decode cX2_mostWorth 1 = .ok (.istore_n 3, 1) := by decide +kernel
theorem dX2_mostWorth_2 : decode cX2_mostWorth 2 = .ok (.iconst 1, 1) := by decide +kernel
theorem dX2_mostWorth_3 : decode cX2_mostWorth 3 = .ok (.iload_n 1, 1) := by decide +kernel
theorem dX2_mostWorth_4 : decode cX2_mostWorth 4 = .ok (.ishl, 1) := by decide +kernel
theorem dX2_mostWorth_5 : decode cX2_mostWorth 5 = .ok (.iconst 1, 1) := by decide +kernel
theorem dX2_mostWorth_6 : decode cX2_mostWorth 6 = .ok (.isub, 1) := by decide +kernel
theorem dX2_mostWorth_7 : decode cX2_mostWorth 7 = .ok (.istore 4, 2) := by decide +kernel
theorem dX2_mostWorth_9 : decode cX2_mostWorth 9 = .ok (.iload_n 2, 1) := by decide +kernel
theorem dX2_mostWorth_10 : decode cX2_mostWorth 10 = .ok (.istore 5, 2) := by decide +kernel
theorem dX2_mostWorth_12 : decode cX2_mostWorth 12 = .ok (.iload_n 1, 1) := by decide +kernel
theorem dX2_mostWorth_13 : decode cX2_mostWorth 13 = .ok (.istore 6, 2) := by decide +kernel
theorem dX2_mostWorth_15 : decode cX2_mostWorth 15 = .ok (.iload 6, 2) := by decide +kernel
theorem dX2_mostWorth_17 : decode cX2_mostWorth 17 = .ok (.aload_n 0, 1) := by decide +kernel
theorem dX2_mostWorth_18 : decode cX2_mostWorth 18 = .ok (.getfield 18, 3) := by decide +kernel
theorem dX2_mostWorth_21 : decode cX2_mostWorth 21 = .ok (.getfield 37, 3) := by decide +kernel
theorem dX2_mostWorth_24 : decode cX2_mostWorth 24 = .ok (.if_icmp .ge 73, 3) := by decide +kernel
theorem dX2_mostWorth_27 : decode cX2_mostWorth 27 = .ok (.aload_n 0, 1) := by decide +kernel
theorem dX2_mostWorth_28 : decode cX2_mostWorth 28 = .ok (.iload 4, 2) := by decide +kernel
theorem dX2_mostWorth_30 : decode cX2_mostWorth 30 = .ok (.invokevirtual 41, 3) := by decide +kernel
theorem dX2_mostWorth_33 : decode cX2_mostWorth 33 = .ok (.istore 7, 2) := by decide +kernel
theorem dX2_mostWorth_35 : decode cX2_mostWorth 35 = .ok (.aload_n 0, 1) := by decide +kernel
theorem dX2_mostWorth_36 : decode cX2_mostWorth 36 = .ok (.iload 5, 2) := by decide +kernel
theorem dX2_mostWorth_38 : decode cX2_mostWorth 38 = .ok (.invokevirtual 44, 3) := by decide +kernel
theorem dX2_mostWorth_41 : decode cX2_mostWorth 41 = .ok (.istore 8, 2) := by decide +kernel
theorem dX2_mostWorth_43 : decode cX2_mostWorth 43 = .ok (.iload 7, 2) := by decide +kernel
theorem dX2_mostWorth_45 : decode cX2_mostWorth 45 = .ok (.ldc 32, 2) := by decide +kernel
theorem dX2_mostWorth_47 : decode cX2_mostWorth 47 = .ok (.if_icmp .eq 10, 3) := by decide +kernel
theorem dX2_mostWorth_50 : decode cX2_mostWorth 50 = .ok (.iload 8, 2) := by decide +kernel
theorem dX2_mostWorth_52 : decode cX2_mostWorth 52 = .ok (.ldc 32, 2) := by decide +kernel
theorem dX2_mostWorth_54 : decode cX2_mostWorth 54 = .ok (.if_icmp .ne 5, 3) := by decide +kernel
theorem dX2_mostWorth_57 : decode cX2_mostWorth 57 = .ok (.iload_n 3, 1) := by decide +kernel
theorem dX2_mostWorth_58 : decode cX2_mostWorth 58 = .ok (.ireturn, 1) := by decide +kernel
theorem dX2_mostWorth_59 : decode cX2_mostWorth 59 = .ok (.iload_n 3, 1) := by decide +kernel
theorem dX2_mostWorth_60 : decode cX2_mostWorth 60 = .ok (.aload_n 0, 1) := by decide +kernel
theorem dX2_mostWorth_61 : decode cX2_mostWorth 61 = .ok (.getfield 18, 3) := by decide +kernel
theorem dX2_mostWorth_64 : decode cX2_mostWorth 64 = .ok (.iload 7, 2) := by decide +kernel
theorem dX2_mostWorth_66 : decode cX2_mostWorth 66 = .ok (.iload 8, 2) := by decide +kernel
theorem dX2_mostWorth_68 : decode cX2_mostWorth 68 = .ok (.invokevirtual 47, 3) := by decide +kernel
theorem dX2_mostWorth_71 : decode cX2_mostWorth 71 = .ok (.iadd, 1) := by decide +kernel
theorem dX2_mostWorth_72 : decode cX2_mostWorth 72 = .ok (.istore_n 3, 1) := by decide +kernel
theorem dX2_mostWorth_73 : decode cX2_mostWorth 73 = .ok (.iload 4, 2) := by decide +kernel
theorem dX2_mostWorth_75 : decode cX2_mostWorth 75 = .ok (.iconst 1, 1) := by decide +kernel
theorem dX2_mostWorth_76 : decode cX2_mostWorth 76 = .ok (.iload 7, 2) := by decide +kernel
theorem dX2_mostWorth_78 : decode cX2_mostWorth 78 = .ok (.ishl, 1) := by decide +kernel
theorem dX2_mostWorth_79 : decode cX2_mostWorth 79 = .ok (.ior, 1) := by decide +kernel
theorem dX2_mostWorth_80 : decode cX2_mostWorth 80 = .ok (.istore 4, 2) := by decide +kernel
theorem dX2_mostWorth_82 : decode cX2_mostWorth 82 = .ok (.iload 5, 2) := by decide +kernel
theorem dX2_mostWorth_84 : decode cX2_mostWorth 84 = .ok (.iconst 1, 1) := by decide +kernel
theorem dX2_mostWorth_85 : decode cX2_mostWorth 85 = .ok (.iload 8, 2) := by decide +kernel
theorem dX2_mostWorth_87 : decode cX2_mostWorth 87 = .ok (.ishl, 1) := by decide +kernel
theorem dX2_mostWorth_88 : decode cX2_mostWorth 88 = .ok (.ior, 1) := by decide +kernel
theorem dX2_mostWorth_89 : decode cX2_mostWorth 89 = .ok (.istore 5, 2) := by decide +kernel
theorem dX2_mostWorth_91 : decode cX2_mostWorth 91 = .ok (.iinc 6 1, 3) := by decide +kernel
theorem dX2_mostWorth_94 : decode cX2_mostWorth 94 = .ok (.goto (-79), 3) := by decide +kernel
theorem dX2_mostWorth_97 : decode cX2_mostWorth 97 = .ok (.iload_n 3, 1) := by decide +kernel
theorem dX2_mostWorth_98 : decode cX2_mostWorth 98 = .ok (.ireturn, 1) := by decide +kernel
theorem dX2_strongest_0 : decode cX2_strongest 0 = .ok (.ldc 32, 2) := by decide +kernel
theorem dX2_strongest_2 : decode cX2_strongest 2 = .ok (.istore_n 2, 1) := by decide +kernel
theorem dX2_strongest_3 : decode cX2_strongest 3 = .ok (.iconst 0, 1) := by decide +kernel
theorem dX2_strongest_4 : decode cX2_strongest 4 = .ok (.istore_n 3, 1) := by decide +kernel
theorem dX2_strongest_5 : decode cX2_strongest 5 = .ok (.iload_n 3, 1) := by decide +kernel
theorem dX2_strongest_6 : decode cX2_strongest 6 = .ok (.aload_n 0, 1) := by decide +kernel
theorem dX2_strongest_7 : decode cX2_strongest 7 = .ok (.getfield 18, 3) := by decide +kernel
theorem dX2_strongest_10 : decode cX2_strongest 10 = .ok (.getfield 37, 3) := by decide +kernel
theorem dX2_strongest_13 : decode cX2_strongest 13 = .ok (.if_icmp .ge 58, 3) := by decide +kernel
theorem dX2_strongest_16 : decode cX2_strongest 16 = .ok (.iload_n 1, 1) := by decide +kernel
theorem dX2_strongest_17 : decode cX2_strongest 17 = .ok (.iload_n 3, 1) := by decide +kernel
theorem dX2_strongest_18 : decode cX2_strongest 18 = .ok (.invokestatic 51, 3) := by decide +kernel
theorem dX2_strongest_21 : decode cX2_strongest 21 = .ok (.ifCond .ne 7, 3) := by decide +kernel
theorem dX2_strongest_24 : decode cX2_strongest 24 = .ok (.iconst 1, 1) := by decide +kernel
theorem dX2_strongest_25 : decode cX2_strongest 25 = .ok (.goto 4, 3) := by decide +kernel
theorem dX2_strongest_28 : decode cX2_strongest 28 = .ok (.iconst 0, 1) := by decide +kernel
theorem dX2_strongest_29 : decode cX2_strongest 29 = .ok (.istore 4, 2) := by decide +kernel
theorem dX2_strongest_31 : decode cX2_strongest 31 = .ok (.iload 4, 2) := by decide +kernel
theorem dX2_strongest_33 : decode cX2_strongest 33 = .ok (.ifCond .eq 32, 3) := by decide +kernel
theorem dX2_strongest_36 : decode cX2_strongest 36 = .ok (.iload_n 2, 1) := by decide +kernel
theorem dX2_strongest_37 : decode cX2_strongest 37 = .ok (.ldc 32, 2) := by decide +kernel
theorem dX2_strongest_39 : decode cX2_strongest 39 = .ok (.if_icmp .eq 24, 3) := by decide +kernel
theorem dX2_strongest_42 : decode cX2_strongest 42 = .ok (.aload_n 0, 1) := by decide +kernel
theorem dX2_strongest_43 : decode cX2_strongest 43 = .ok (.getfield 18, 3) := by decide +kernel
theorem dX2_strongest_46 : decode cX2_strongest 46 = .ok (.getfield 55, 3) := by decide +kernel
theorem dX2_strongest_49 : decode cX2_strongest 49 = .ok (.iload_n 3, 1) := by decide +kernel
theorem dX2_strongest_50 : decode cX2_strongest 50 = .ok (.iaload, 1) := by decide +kernel
theorem dX2_strongest_51 : decode cX2_strongest 51 = .ok (.aload_n 0, 1) := by decide +kernel
theorem dX2_strongest_52 : decode cX2_strongest 52 = .ok (.getfield 18, 3) := by decide +kernel
theorem dX2_strongest_55 : decode cX2_strongest 55 = .ok (.getfield 55, 3) := by decide +kernel
theorem dX2_strongest_58 : decode cX2_strongest 58 = .ok (.iload_n 2, 1) := by decide +kernel
theorem dX2_strongest_59 : decode cX2_strongest 59 = .ok (.iaload, 1) := by decide +kernel
theorem dX2_strongest_60 : decode cX2_strongest 60 = .ok (.if_icmp .le 5, 3) := by decide +kernel
theorem dX2_strongest_63 : decode cX2_strongest 63 = .ok (.iload_n 3, 1) := by decide +kernel
theorem dX2_strongest_64 : decode cX2_strongest 64 = .ok (.istore_n 2, 1) := by decide +kernel
theorem dX2_strongest_65 : decode cX2_strongest 65 = .ok (.iinc 3 1, 3) := by decide +kernel
theorem dX2_strongest_68 : decode cX2_strongest 68 = .ok (.goto (-63), 3) := by decide +kernel
theorem dX2_strongest_71 : decode cX2_strongest 71 = .ok (.iload_n 2, 1) := by decide +kernel
theorem dX2_strongest_72 : decode cX2_strongest 72 = .ok (.ireturn, 1) := by decide +kernel
theorem dX2_busiest_0 : decode cX2_busiest 0 = .ok (.ldc 32, 2) := by decide +kernel
theorem dX2_busiest_2 : decode cX2_busiest 2 = .ok (.istore_n 2, 1) := by decide +kernel
theorem dX2_busiest_3 : decode cX2_busiest 3 = .ok (.iconst 0, 1) := by decide +kernel
theorem dX2_busiest_4 : decode cX2_busiest 4 = .ok (.istore_n 3, 1) := by decide +kernel
theorem dX2_busiest_5 : decode cX2_busiest 5 = .ok (.iload_n 3, 1) := by decide +kernel
theorem dX2_busiest_6 : decode cX2_busiest 6 = .ok (.aload_n 0, 1) := by decide +kernel
theorem dX2_busiest_7 : decode cX2_busiest 7 = .ok (.getfield 18, 3) := by decide +kernel
theorem dX2_busiest_10 : decode cX2_busiest 10 = .ok (.getfield 59, 3) := by decide +kernel
theorem dX2_busiest_13 : decode cX2_busiest 13 = .ok (.if_icmp .ge 58, 3) := by decide +kernel
theorem dX2_busiest_16 : decode cX2_busiest 16 = .ok (.iload_n 1, 1) := by decide +kernel
theorem dX2_busiest_17 : decode cX2_busiest 17 = .ok (.iload_n 3, 1) := by decide +kernel
theorem dX2_busiest_18 : decode cX2_busiest 18 = .ok (.invokestatic 51, 3) := by decide +kernel
theorem dX2_busiest_21 : decode cX2_busiest 21 = .ok (.ifCond .ne 7, 3) := by decide +kernel
theorem dX2_busiest_24 : decode cX2_busiest 24 = .ok (.iconst 1, 1) := by decide +kernel
theorem dX2_busiest_25 : decode cX2_busiest 25 = .ok (.goto 4, 3) := by decide +kernel
theorem dX2_busiest_28 : decode cX2_busiest 28 = .ok (.iconst 0, 1) := by decide +kernel
theorem dX2_busiest_29 : decode cX2_busiest 29 = .ok (.istore 4, 2) := by decide +kernel
theorem dX2_busiest_31 : decode cX2_busiest 31 = .ok (.iload 4, 2) := by decide +kernel
theorem dX2_busiest_33 : decode cX2_busiest 33 = .ok (.ifCond .eq 32, 3) := by decide +kernel
theorem dX2_busiest_36 : decode cX2_busiest 36 = .ok (.iload_n 2, 1) := by decide +kernel
theorem dX2_busiest_37 : decode cX2_busiest 37 = .ok (.ldc 32, 2) := by decide +kernel
theorem dX2_busiest_39 : decode cX2_busiest 39 = .ok (.if_icmp .eq 24, 3) := by decide +kernel
theorem dX2_busiest_42 : decode cX2_busiest 42 = .ok (.aload_n 0, 1) := by decide +kernel
theorem dX2_busiest_43 : decode cX2_busiest 43 = .ok (.getfield 18, 3) := by decide +kernel
theorem dX2_busiest_46 : decode cX2_busiest 46 = .ok (.getfield 62, 3) := by decide +kernel
theorem dX2_busiest_49 : decode cX2_busiest 49 = .ok (.iload_n 3, 1) := by decide +kernel
theorem dX2_busiest_50 : decode cX2_busiest 50 = .ok (.iaload, 1) := by decide +kernel
theorem dX2_busiest_51 : decode cX2_busiest 51 = .ok (.aload_n 0, 1) := by decide +kernel
theorem dX2_busiest_52 : decode cX2_busiest 52 = .ok (.getfield 18, 3) := by decide +kernel
theorem dX2_busiest_55 : decode cX2_busiest 55 = .ok (.getfield 62, 3) := by decide +kernel
theorem dX2_busiest_58 : decode cX2_busiest 58 = .ok (.iload_n 2, 1) := by decide +kernel
theorem dX2_busiest_59 : decode cX2_busiest 59 = .ok (.iaload, 1) := by decide +kernel
theorem dX2_busiest_60 : decode cX2_busiest 60 = .ok (.if_icmp .le 5, 3) := by decide +kernel
theorem dX2_busiest_63 : decode cX2_busiest 63 = .ok (.iload_n 3, 1) := by decide +kernel
theorem dX2_busiest_64 : decode cX2_busiest 64 = .ok (.istore_n 2, 1) := by decide +kernel
theorem dX2_busiest_65 : decode cX2_busiest 65 = .ok (.iinc 3 1, 3) := by decide +kernel
theorem dX2_busiest_68 : decode cX2_busiest 68 = .ok (.goto (-63), 3) := by decide +kernel
theorem dX2_busiest_71 : decode cX2_busiest 71 = .ok (.iload_n 2, 1) := by decide +kernel
theorem dX2_busiest_72 : decode cX2_busiest 72 = .ok (.ireturn, 1) := by decide +kernel
theorem dX2_bestCell_0 : decode cX2_bestCell 0 = .ok (.aload_n 0, 1) := by decide +kernel
theorem dX2_bestCell_1 : decode cX2_bestCell 1 = .ok (.iconst 0, 1) := by decide +kernel
theorem dX2_bestCell_2 : decode cX2_bestCell 2 = .ok (.iconst 0, 1) := by decide +kernel
theorem dX2_bestCell_3 : decode cX2_bestCell 3 = .ok (.invokevirtual 65, 3) := by decide +kernel
theorem dX2_bestCell_6 : decode cX2_bestCell 6 = .ok (.istore_n 2, 1) := by decide +kernel
theorem dX2_bestCell_7 : decode cX2_bestCell 7 = .ok (.iconst 0, 1) := by decide +kernel
theorem dX2_bestCell_8 : decode cX2_bestCell 8 = .ok (.istore_n 3, 1) := by decide +kernel
theorem dX2_bestCell_9 : decode cX2_bestCell 9 = .ok (.ldc 32, 2) := by decide +kernel
theorem dX2_bestCell_11 : decode cX2_bestCell 11 = .ok (.istore 4, 2) := by decide +kernel
theorem dX2_bestCell_13 : decode cX2_bestCell 13 = .ok (.iconst 0, 1) := by decide +kernel
theorem dX2_bestCell_14 : decode cX2_bestCell 14 = .ok (.istore 5, 2) := by decide +kernel
theorem dX2_bestCell_16 : decode cX2_bestCell 16 = .ok (.iload 5, 2) := by decide +kernel
theorem dX2_bestCell_18 : decode cX2_bestCell 18 = .ok (.iload_n 1, 1) := by decide +kernel
theorem dX2_bestCell_19 : decode cX2_bestCell 19 = .ok (.if_icmp .gt 50, 3) := by decide +kernel
theorem dX2_bestCell_22 : decode cX2_bestCell 22 = .ok (.aload_n 0, 1) := by decide +kernel
theorem dX2_bestCell_23 : decode cX2_bestCell 23 = .ok (.iload 5, 2) := by decide +kernel
theorem dX2_bestCell_25 : decode cX2_bestCell 25 = .ok (.iload_n 3, 1) := by decide +kernel
theorem dX2_bestCell_26 : decode cX2_bestCell 26 = .ok (.iload_n 2, 1) := by decide +kernel
theorem dX2_bestCell_27 : decode cX2_bestCell 27 = .ok (.invokevirtual 68, 3) := by decide +kernel
theorem dX2_bestCell_30 : decode cX2_bestCell 30 = .ok (.istore 4, 2) := by decide +kernel
theorem dX2_bestCell_32 : decode cX2_bestCell 32 = .ok (.iload 4, 2) := by decide +kernel
theorem dX2_bestCell_34 : decode cX2_bestCell 34 = .ok (.ldc 32, 2) := by decide +kernel
theorem dX2_bestCell_36 : decode cX2_bestCell 36 = .ok (.if_icmp .ne 6, 3) := by decide +kernel
theorem dX2_bestCell_39 : decode cX2_bestCell 39 = .ok (.ldc 32, 2) := by decide +kernel
theorem dX2_bestCell_41 : decode cX2_bestCell 41 = .ok (.ireturn, 1) := by decide +kernel
theorem dX2_bestCell_42 : decode cX2_bestCell 42 = .ok (.iload_n 3, 1) := by decide +kernel
theorem dX2_bestCell_43 : decode cX2_bestCell 43 = .ok (.iconst 1, 1) := by decide +kernel
theorem dX2_bestCell_44 : decode cX2_bestCell 44 = .ok (.iload 4, 2) := by decide +kernel
theorem dX2_bestCell_46 : decode cX2_bestCell 46 = .ok (.ishl, 1) := by decide +kernel
theorem dX2_bestCell_47 : decode cX2_bestCell 47 = .ok (.ior, 1) := by decide +kernel
theorem dX2_bestCell_48 : decode cX2_bestCell 48 = .ok (.istore_n 3, 1) := by decide +kernel
theorem dX2_bestCell_49 : decode cX2_bestCell 49 = .ok (.iload_n 2, 1) := by decide +kernel
theorem dX2_bestCell_50 : decode cX2_bestCell 50 = .ok (.aload_n 0, 1) := by decide +kernel
theorem dX2_bestCell_51 : decode cX2_bestCell 51 = .ok (.getfield 18, 3) := by decide +kernel
theorem dX2_bestCell_54 : decode cX2_bestCell 54 = .ok (.iload 5, 2) := by decide +kernel
theorem dX2_bestCell_56 : decode cX2_bestCell 56 = .ok (.iload 4, 2) := by decide +kernel
theorem dX2_bestCell_58 : decode cX2_bestCell 58 = .ok (.invokevirtual 47, 3) := by decide +kernel
theorem dX2_bestCell_61 : decode cX2_bestCell 61 = .ok (.isub, 1) := by decide +kernel
theorem dX2_bestCell_62 : decode cX2_bestCell 62 = .ok (.istore_n 2, 1) := by decide +kernel
theorem dX2_bestCell_63 : decode cX2_bestCell 63 = .ok (.iinc 5 1, 3) := by decide +kernel
theorem dX2_bestCell_66 : decode cX2_bestCell 66 = .ok (.goto (-50), 3) := by decide +kernel
theorem dX2_bestCell_69 : decode cX2_bestCell 69 = .ok (.iload 4, 2) := by decide +kernel
theorem dX2_bestCell_71 : decode cX2_bestCell 71 = .ok (.ireturn, 1) := by decide +kernel
theorem dX2_leastCell_0 : decode cX2_leastCell 0 = .ok (.iconst 0, 1) := by decide +kernel
theorem dX2_leastCell_1 : decode cX2_leastCell 1 = .ok (.istore 4, 2) := by decide +kernel
theorem dX2_leastCell_3 : decode cX2_leastCell 3 = .ok (.iload 4, 2) := by decide +kernel
theorem dX2_leastCell_5 : decode cX2_leastCell 5 = .ok (.aload_n 0, 1) := by decide +kernel
theorem dX2_leastCell_6 : decode cX2_leastCell 6 = .ok (.getfield 18, 3) := by decide +kernel
theorem dX2_leastCell_9 : decode cX2_leastCell 9 = .ok (.getfield 59, 3) := by decide +kernel
theorem dX2_leastCell_12 : decode cX2_leastCell 12 = .ok (.if_icmp .ge 56, 3) := by decide +kernel
theorem dX2_leastCell_15 : decode cX2_leastCell 15 = .ok (.iload_n 2, 1) := by decide +kernel
theorem dX2_leastCell_16 : decode cX2_leastCell 16 = .ok (.iload 4, 2) := by decide +kernel
theorem dX2_leastCell_18 : decode cX2_leastCell 18 = .ok (.invokestatic 51, 3) := by decide +kernel
theorem dX2_leastCell_21 : decode cX2_leastCell 21 = .ok (.ifCond .eq 6, 3) := by decide +kernel
theorem dX2_leastCell_24 : decode cX2_leastCell 24 = .ok (.goto 38, 3) := by decide +kernel
theorem dX2_leastCell_27 : decode cX2_leastCell 27 = .ok (.aload_n 0, 1) := by decide +kernel
theorem dX2_leastCell_28 : decode cX2_leastCell 28 = .ok (.iload_n 1, 1) := by decide +kernel
theorem dX2_leastCell_29 : decode cX2_leastCell 29 = .ok (.iconst 1, 1) := by decide +kernel
theorem dX2_leastCell_30 : decode cX2_leastCell 30 = .ok (.iadd, 1) := by decide +kernel
theorem dX2_leastCell_31 : decode cX2_leastCell 31 = .ok (.iload_n 2, 1) := by decide +kernel
theorem dX2_leastCell_32 : decode cX2_leastCell 32 = .ok (.iconst 1, 1) := by decide +kernel
theorem dX2_leastCell_33 : decode cX2_leastCell 33 = .ok (.iload 4, 2) := by decide +kernel
theorem dX2_leastCell_35 : decode cX2_leastCell 35 = .ok (.ishl, 1) := by decide +kernel
theorem dX2_leastCell_36 : decode cX2_leastCell 36 = .ok (.ior, 1) := by decide +kernel
theorem dX2_leastCell_37 : decode cX2_leastCell 37 = .ok (.invokevirtual 65, 3) := by decide +kernel
theorem dX2_leastCell_40 : decode cX2_leastCell 40 = .ok (.istore 5, 2) := by decide +kernel
theorem dX2_leastCell_42 : decode cX2_leastCell 42 = .ok (.aload_n 0, 1) := by decide +kernel
theorem dX2_leastCell_43 : decode cX2_leastCell 43 = .ok (.getfield 18, 3) := by decide +kernel
theorem dX2_leastCell_46 : decode cX2_leastCell 46 = .ok (.iload_n 1, 1) := by decide +kernel
theorem dX2_leastCell_47 : decode cX2_leastCell 47 = .ok (.iload 4, 2) := by decide +kernel
theorem dX2_leastCell_49 : decode cX2_leastCell 49 = .ok (.invokevirtual 47, 3) := by decide +kernel
theorem dX2_leastCell_52 : decode cX2_leastCell 52 = .ok (.iload 5, 2) := by decide +kernel
theorem dX2_leastCell_54 : decode cX2_leastCell 54 = .ok (.iadd, 1) := by decide +kernel
theorem dX2_leastCell_55 : decode cX2_leastCell 55 = .ok (.iload_n 3, 1) := by decide +kernel
theorem dX2_leastCell_56 : decode cX2_leastCell 56 = .ok (.if_icmp .ne 6, 3) := by decide +kernel
theorem dX2_leastCell_59 : decode cX2_leastCell 59 = .ok (.iload 4, 2) := by decide +kernel
theorem dX2_leastCell_61 : decode cX2_leastCell 61 = .ok (.ireturn, 1) := by decide +kernel
theorem dX2_leastCell_62 : decode cX2_leastCell 62 = .ok (.iinc 4 1, 3) := by decide +kernel
theorem dX2_leastCell_65 : decode cX2_leastCell 65 = .ok (.goto (-62), 3) := by decide +kernel
theorem dX2_leastCell_68 : decode cX2_leastCell 68 = .ok (.ldc 32, 2) := by decide +kernel
theorem dX2_leastCell_70 : decode cX2_leastCell 70 = .ok (.ireturn, 1) := by decide +kernel
theorem dX2_fitting_0 : decode cX2_fitting 0 = .ok (.iconst 0, 1) := by decide +kernel
theorem dX2_fitting_1 : decode cX2_fitting 1 = .ok (.istore 6, 2) := by decide +kernel
theorem dX2_fitting_3 : decode cX2_fitting 3 = .ok (.aload_n 0, 1) := by decide +kernel
theorem dX2_fitting_4 : decode cX2_fitting 4 = .ok (.iload_n 2, 1) := by decide +kernel
theorem dX2_fitting_5 : decode cX2_fitting 5 = .ok (.invokevirtual 72, 3) := by decide +kernel
theorem dX2_fitting_8 : decode cX2_fitting 8 = .ok (.istore 7, 2) := by decide +kernel
theorem dX2_fitting_10 : decode cX2_fitting 10 = .ok (.iload_n 2, 1) := by decide +kernel
theorem dX2_fitting_11 : decode cX2_fitting 11 = .ok (.ifCond .ne 7, 3) := by decide +kernel
theorem dX2_fitting_14 : decode cX2_fitting 14 = .ok (.iconst 1, 1) := by decide +kernel
theorem dX2_fitting_15 : decode cX2_fitting 15 = .ok (.goto 4, 3) := by decide +kernel
theorem dX2_fitting_18 : decode cX2_fitting 18 = .ok (.iconst 0, 1) := by decide +kernel
theorem dX2_fitting_19 : decode cX2_fitting 19 = .ok (.istore 8, 2) := by decide +kernel
theorem dX2_fitting_21 : decode cX2_fitting 21 = .ok (.iload 8, 2) := by decide +kernel
theorem dX2_fitting_23 : decode cX2_fitting 23 = .ok (.iload 7, 2) := by decide +kernel
theorem dX2_fitting_25 : decode cX2_fitting 25 = .ok (.if_icmp .gt 50, 3) := by decide +kernel
theorem dX2_fitting_28 : decode cX2_fitting 28 = .ok (.aload_n 0, 1) := by decide +kernel
theorem dX2_fitting_29 : decode cX2_fitting 29 = .ok (.getfield 12, 3) := by decide +kernel
theorem dX2_fitting_32 : decode cX2_fitting 32 = .ok (.aload_n 0, 1) := by decide +kernel
theorem dX2_fitting_33 : decode cX2_fitting 33 = .ok (.getfield 18, 3) := by decide +kernel
theorem dX2_fitting_36 : decode cX2_fitting 36 = .ok (.invokevirtual 21, 3) := by decide +kernel
theorem dX2_fitting_39 : decode cX2_fitting 39 = .ok (.aload_n 0, 1) := by decide +kernel
theorem dX2_fitting_40 : decode cX2_fitting 40 = .ok (.iload_n 1, 1) := by decide +kernel
theorem dX2_fitting_41 : decode cX2_fitting 41 = .ok (.iload_n 2, 1) := by decide +kernel
theorem dX2_fitting_42 : decode cX2_fitting 42 = .ok (.iload 8, 2) := by decide +kernel
theorem dX2_fitting_44 : decode cX2_fitting 44 = .ok (.invokevirtual 75, 3) := by decide +kernel
theorem dX2_fitting_47 : decode cX2_fitting 47 = .ok (.aload_n 0, 1) := by decide +kernel
theorem dX2_fitting_48 : decode cX2_fitting 48 = .ok (.aload_n 3, 1) := by decide +kernel
theorem dX2_fitting_49 : decode cX2_fitting 49 = .ok (.iload 4, 2) := by decide +kernel
theorem dX2_fitting_51 : decode cX2_fitting 51 = .ok (.iload 5, 2) := by decide +kernel
theorem dX2_fitting_53 : decode cX2_fitting 53 = .ok (.iload_n 1, 1) := by decide +kernel
theorem dX2_fitting_54 : decode cX2_fitting 54 = .ok (.invokevirtual 79, 3) := by decide +kernel
theorem dX2_fitting_57 : decode cX2_fitting 57 = .ok (.ifCond .eq 12, 3) := by decide +kernel
theorem dX2_fitting_60 : decode cX2_fitting 60 = .ok (.iload 6, 2) := by decide +kernel
theorem dX2_fitting_62 : decode cX2_fitting 62 = .ok (.iconst 1, 1) := by decide +kernel
theorem dX2_fitting_63 : decode cX2_fitting 63 = .ok (.iload 8, 2) := by decide +kernel
theorem dX2_fitting_65 : decode cX2_fitting 65 = .ok (.ishl, 1) := by decide +kernel
theorem dX2_fitting_66 : decode cX2_fitting 66 = .ok (.ior, 1) := by decide +kernel
theorem dX2_fitting_67 : decode cX2_fitting 67 = .ok (.istore 6, 2) := by decide +kernel
theorem dX2_fitting_69 : decode cX2_fitting 69 = .ok (.iinc 8 1, 3) := by decide +kernel
theorem dX2_fitting_72 : decode cX2_fitting 72 = .ok (.goto (-51), 3) := by decide +kernel
theorem dX2_fitting_75 : decode cX2_fitting 75 = .ok (.iload 6, 2) := by decide +kernel
theorem dX2_fitting_77 : decode cX2_fitting 77 = .ok (.ireturn, 1) := by decide +kernel
theorem dX2_mostSupposed_0 : decode cX2_mostSupposed 0 = .ok (.iload_n 1, 1) := by decide +kernel
theorem dX2_mostSupposed_1 : decode cX2_mostSupposed 1 = .ok (.lookupswitch 32 #[(0, 27), (1, 29)], 27) := by decide +kernel
theorem dX2_mostSupposed_28 : decode cX2_mostSupposed 28 = .ok (.iconst 5, 1) := by decide +kernel
theorem dX2_mostSupposed_29 : decode cX2_mostSupposed 29 = .ok (.ireturn, 1) := by decide +kernel
theorem dX2_mostSupposed_30 : decode cX2_mostSupposed 30 = .ok (.bipush 15, 2) := by decide +kernel
theorem dX2_mostSupposed_32 : decode cX2_mostSupposed 32 = .ok (.ireturn, 1) := by decide +kernel
theorem dX2_mostSupposed_33 : decode cX2_mostSupposed 33 = .ok (.aload_n 0, 1) := by decide +kernel
theorem dX2_mostSupposed_34 : decode cX2_mostSupposed 34 = .ok (.getfield 18, 3) := by decide +kernel
theorem dX2_mostSupposed_37 : decode cX2_mostSupposed 37 = .ok (.getfield 59, 3) := by decide +kernel
theorem dX2_mostSupposed_40 : decode cX2_mostSupposed 40 = .ok (.iconst 1, 1) := by decide +kernel
theorem dX2_mostSupposed_41 : decode cX2_mostSupposed 41 = .ok (.isub, 1) := by decide +kernel
theorem dX2_mostSupposed_42 : decode cX2_mostSupposed 42 = .ok (.ireturn, 1) := by decide +kernel
theorem dX2_suppose_0 : decode cX2_suppose 0 = .ok (.iload_n 2, 1) := by decide +kernel
theorem dX2_suppose_1 : decode cX2_suppose 1 = .ok (.tableswitch 64 0 2 #[27, 40, 51], 27) := by decide +kernel
theorem dX2_suppose_28 : decode cX2_suppose 28 = .ok (.aload_n 0, 1) := by decide +kernel
theorem dX2_suppose_29 : decode cX2_suppose 29 = .ok (.getfield 12, 3) := by decide +kernel
theorem dX2_suppose_32 : decode cX2_suppose 32 = .ok (.getfield 83, 3) := by decide +kernel
theorem dX2_suppose_35 : decode cX2_suppose 35 = .ok (.iload_n 1, 1) := by decide +kernel
theorem dX2_suppose_36 : decode cX2_suppose 36 = .ok (.iload_n 3, 1) := by decide +kernel
theorem dX2_suppose_37 : decode cX2_suppose 37 = .ok (.iastore, 1) := by decide +kernel
theorem dX2_suppose_38 : decode cX2_suppose 38 = .ok (.goto 37, 3) := by decide +kernel
theorem dX2_suppose_41 : decode cX2_suppose 41 = .ok (.aload_n 0, 1) := by decide +kernel
theorem dX2_suppose_42 : decode cX2_suppose 42 = .ok (.getfield 12, 3) := by decide +kernel
theorem dX2_suppose_45 : decode cX2_suppose 45 = .ok (.iload_n 3, 1) := by decide +kernel
theorem dX2_suppose_46 : decode cX2_suppose 46 = .ok (.putfield 86, 3) := by decide +kernel
theorem dX2_suppose_49 : decode cX2_suppose 49 = .ok (.goto 26, 3) := by decide +kernel
theorem dX2_suppose_52 : decode cX2_suppose 52 = .ok (.aload_n 0, 1) := by decide +kernel
theorem dX2_suppose_53 : decode cX2_suppose 53 = .ok (.getfield 12, 3) := by decide +kernel
theorem dX2_suppose_56 : decode cX2_suppose 56 = .ok (.getfield 89, 3) := by decide +kernel
theorem dX2_suppose_59 : decode cX2_suppose 59 = .ok (.iload_n 1, 1) := by decide +kernel
theorem dX2_suppose_60 : decode cX2_suppose 60 = .ok (.iload_n 3, 1) := by decide +kernel
theorem dX2_suppose_61 : decode cX2_suppose 61 = .ok (.iastore, 1) := by decide +kernel
theorem dX2_suppose_62 : decode cX2_suppose 62 = .ok (.goto 13, 3) := by decide +kernel
theorem dX2_suppose_65 : decode cX2_suppose 65 = .ok (.aload_n 0, 1) := by decide +kernel
theorem dX2_suppose_66 : decode cX2_suppose 66 = .ok (.getfield 12, 3) := by decide +kernel
theorem dX2_suppose_69 : decode cX2_suppose 69 = .ok (.getfield 92, 3) := by decide +kernel
theorem dX2_suppose_72 : decode cX2_suppose 72 = .ok (.iload_n 1, 1) := by decide +kernel
theorem dX2_suppose_73 : decode cX2_suppose 73 = .ok (.iload_n 3, 1) := by decide +kernel
theorem dX2_suppose_74 : decode cX2_suppose 74 = .ok (.iastore, 1) := by decide +kernel
theorem dX2_suppose_75 : decode cX2_suppose 75 = .ok (.return_, 1) := by decide +kernel
theorem dX2_tells_0 : decode cX2_tells 0 = .ok (.iconst 0, 1) := by decide +kernel
theorem dX2_tells_1 : decode cX2_tells 1 = .ok (.istore 5, 2) := by decide +kernel
theorem dX2_tells_3 : decode cX2_tells 3 = .ok (.iload 5, 2) := by decide +kernel
theorem dX2_tells_5 : decode cX2_tells 5 = .ok (.iload_n 3, 1) := by decide +kernel
theorem dX2_tells_6 : decode cX2_tells 6 = .ok (.if_icmp .ge 47, 3) := by decide +kernel
theorem dX2_tells_9 : decode cX2_tells 9 = .ok (.iload_n 2, 1) := by decide +kernel
theorem dX2_tells_10 : decode cX2_tells 10 = .ok (.iload 5, 2) := by decide +kernel
theorem dX2_tells_12 : decode cX2_tells 12 = .ok (.iadd, 1) := by decide +kernel
theorem dX2_tells_13 : decode cX2_tells 13 = .ok (.aload_n 1, 1) := by decide +kernel
theorem dX2_tells_14 : decode cX2_tells 14 = .ok (.arraylength, 1) := by decide +kernel
theorem dX2_tells_15 : decode cX2_tells 15 = .ok (.if_icmp .ge 38, 3) := by decide +kernel
theorem dX2_tells_18 : decode cX2_tells 18 = .ok (.aload_n 0, 1) := by decide +kernel
theorem dX2_tells_19 : decode cX2_tells 19 = .ok (.getfield 12, 3) := by decide +kernel
theorem dX2_tells_22 : decode cX2_tells 22 = .ok (.iconst 0, 1) := by decide +kernel
theorem dX2_tells_23 : decode cX2_tells 23 = .ok (.invokevirtual 95, 3) := by decide +kernel
theorem dX2_tells_26 : decode cX2_tells 26 = .ok (.aload_n 0, 1) := by decide +kernel
theorem dX2_tells_27 : decode cX2_tells 27 = .ok (.getfield 12, 3) := by decide +kernel
theorem dX2_tells_30 : decode cX2_tells 30 = .ok (.getfield 92, 3) := by decide +kernel
theorem dX2_tells_33 : decode cX2_tells 33 = .ok (.iload 4, 2) := by decide +kernel
theorem dX2_tells_35 : decode cX2_tells 35 = .ok (.iaload, 1) := by decide +kernel
theorem dX2_tells_36 : decode cX2_tells 36 = .ok (.aload_n 1, 1) := by decide +kernel
theorem dX2_tells_37 : decode cX2_tells 37 = .ok (.iload_n 2, 1) := by decide +kernel
theorem dX2_tells_38 : decode cX2_tells 38 = .ok (.iload 5, 2) := by decide +kernel
theorem dX2_tells_40 : decode cX2_tells 40 = .ok (.iadd, 1) := by decide +kernel
theorem dX2_tells_41 : decode cX2_tells 41 = .ok (.iaload, 1) := by decide +kernel
theorem dX2_tells_42 : decode cX2_tells 42 = .ok (.if_icmp .eq 5, 3) := by decide +kernel
theorem dX2_tells_45 : decode cX2_tells 45 = .ok (.iconst 0, 1) := by decide +kernel
theorem dX2_tells_46 : decode cX2_tells 46 = .ok (.ireturn, 1) := by decide +kernel
theorem dX2_tells_47 : decode cX2_tells 47 = .ok (.iinc 5 1, 3) := by decide +kernel
theorem dX2_tells_50 : decode cX2_tells 50 = .ok (.goto (-47), 3) := by decide +kernel
theorem dX2_tells_53 : decode cX2_tells 53 = .ok (.iconst 1, 1) := by decide +kernel
theorem dX2_tells_54 : decode cX2_tells 54 = .ok (.ireturn, 1) := by decide +kernel
theorem dX2_heldWhenLeftOut_0 : decode cX2_heldWhenLeftOut 0 = .ok (.aload_n 0, 1) := by decide +kernel
theorem dX2_heldWhenLeftOut_1 : decode cX2_heldWhenLeftOut 1 = .ok (.getfield 12, 3) := by decide +kernel
theorem dX2_heldWhenLeftOut_4 : decode cX2_heldWhenLeftOut 4 = .ok (.aload_n 0, 1) := by decide +kernel
theorem dX2_heldWhenLeftOut_5 : decode cX2_heldWhenLeftOut 5 = .ok (.getfield 18, 3) := by decide +kernel
theorem dX2_heldWhenLeftOut_8 : decode cX2_heldWhenLeftOut 8 = .ok (.invokevirtual 21, 3) := by decide +kernel
theorem dX2_heldWhenLeftOut_11 : decode cX2_heldWhenLeftOut 11 = .ok (.aload_n 0, 1) := by decide +kernel
theorem dX2_heldWhenLeftOut_12 : decode cX2_heldWhenLeftOut 12 = .ok (.getfield 12, 3) := by decide +kernel
theorem dX2_heldWhenLeftOut_15 : decode cX2_heldWhenLeftOut 15 = .ok (.iconst 0, 1) := by decide +kernel
theorem dX2_heldWhenLeftOut_16 : decode cX2_heldWhenLeftOut 16 = .ok (.putfield 99, 3) := by decide +kernel
theorem dX2_heldWhenLeftOut_19 : decode cX2_heldWhenLeftOut 19 = .ok (.aload_n 0, 1) := by decide +kernel
theorem dX2_heldWhenLeftOut_20 : decode cX2_heldWhenLeftOut 20 = .ok (.getfield 12, 3) := by decide +kernel
theorem dX2_heldWhenLeftOut_23 : decode cX2_heldWhenLeftOut 23 = .ok (.invokevirtual 103, 3) := by decide +kernel
theorem dX2_heldWhenLeftOut_26 : decode cX2_heldWhenLeftOut 26 = .ok (.istore 4, 2) := by decide +kernel
theorem dX2_heldWhenLeftOut_28 : decode cX2_heldWhenLeftOut 28 = .ok (.iconst 0, 1) := by decide +kernel
theorem dX2_heldWhenLeftOut_29 : decode cX2_heldWhenLeftOut 29 = .ok (.istore 5, 2) := by decide +kernel
theorem dX2_heldWhenLeftOut_31 : decode cX2_heldWhenLeftOut 31 = .ok (.iconst 0, 1) := by decide +kernel
theorem dX2_heldWhenLeftOut_32 : decode cX2_heldWhenLeftOut 32 = .ok (.istore 6, 2) := by decide +kernel
theorem dX2_heldWhenLeftOut_34 : decode cX2_heldWhenLeftOut 34 = .ok (.iload 6, 2) := by decide +kernel
theorem dX2_heldWhenLeftOut_36 : decode cX2_heldWhenLeftOut 36 = .ok (.iload 4, 2) := by decide +kernel
theorem dX2_heldWhenLeftOut_38 : decode cX2_heldWhenLeftOut 38 = .ok (.if_icmp .gt 67, 3) := by decide +kernel
theorem dX2_heldWhenLeftOut_41 : decode cX2_heldWhenLeftOut 41 = .ok (.iload 6, 2) := by decide +kernel
theorem dX2_heldWhenLeftOut_43 : decode cX2_heldWhenLeftOut 43 = .ok (.iload 4, 2) := by decide +kernel
theorem dX2_heldWhenLeftOut_45 : decode cX2_heldWhenLeftOut 45 = .ok (.iconst (-1), 1) := by decide +kernel
theorem dX2_heldWhenLeftOut_46 : decode cX2_heldWhenLeftOut 46 = .ok (.ixor, 1) := by decide +kernel
theorem dX2_heldWhenLeftOut_47 : decode cX2_heldWhenLeftOut 47 = .ok (.iand, 1) := by decide +kernel
theorem dX2_heldWhenLeftOut_48 : decode cX2_heldWhenLeftOut 48 = .ok (.ifCond .ne 51, 3) := by decide +kernel
theorem dX2_heldWhenLeftOut_51 : decode cX2_heldWhenLeftOut 51 = .ok (.aload_n 0, 1) := by decide +kernel
theorem dX2_heldWhenLeftOut_52 : decode cX2_heldWhenLeftOut 52 = .ok (.iload_n 1, 1) := by decide +kernel
theorem dX2_heldWhenLeftOut_53 : decode cX2_heldWhenLeftOut 53 = .ok (.iload 6, 2) := by decide +kernel
theorem dX2_heldWhenLeftOut_55 : decode cX2_heldWhenLeftOut 55 = .ok (.invokevirtual 107, 3) := by decide +kernel
theorem dX2_heldWhenLeftOut_58 : decode cX2_heldWhenLeftOut 58 = .ok (.ifCond .eq 41, 3) := by decide +kernel
theorem dX2_heldWhenLeftOut_61 : decode cX2_heldWhenLeftOut 61 = .ok (.iload 6, 2) := by decide +kernel
theorem dX2_heldWhenLeftOut_63 : decode cX2_heldWhenLeftOut 63 = .ok (.invokestatic 110, 3) := by decide +kernel
theorem dX2_heldWhenLeftOut_66 : decode cX2_heldWhenLeftOut 66 = .ok (.istore 7, 2) := by decide +kernel
theorem dX2_heldWhenLeftOut_68 : decode cX2_heldWhenLeftOut 68 = .ok (.iload 4, 2) := by decide +kernel
theorem dX2_heldWhenLeftOut_70 : decode cX2_heldWhenLeftOut 70 = .ok (.invokestatic 110, 3) := by decide +kernel
theorem dX2_heldWhenLeftOut_73 : decode cX2_heldWhenLeftOut 73 = .ok (.iload 7, 2) := by decide +kernel
theorem dX2_heldWhenLeftOut_75 : decode cX2_heldWhenLeftOut 75 = .ok (.isub, 1) := by decide +kernel
theorem dX2_heldWhenLeftOut_76 : decode cX2_heldWhenLeftOut 76 = .ok (.istore 8, 2) := by decide +kernel
theorem dX2_heldWhenLeftOut_78 : decode cX2_heldWhenLeftOut 78 = .ok (.iload 5, 2) := by decide +kernel
theorem dX2_heldWhenLeftOut_80 : decode cX2_heldWhenLeftOut 80 = .ok (.iload_n 2, 1) := by decide +kernel
theorem dX2_heldWhenLeftOut_81 : decode cX2_heldWhenLeftOut 81 = .ok (.iload 7, 2) := by decide +kernel
theorem dX2_heldWhenLeftOut_83 : decode cX2_heldWhenLeftOut 83 = .ok (.invokestatic 115, 3) := by decide +kernel
theorem dX2_heldWhenLeftOut_86 : decode cX2_heldWhenLeftOut 86 = .ok (.bipush 10, 2) := by decide +kernel
theorem dX2_heldWhenLeftOut_88 : decode cX2_heldWhenLeftOut 88 = .ok (.iload_n 2, 1) := by decide +kernel
theorem dX2_heldWhenLeftOut_89 : decode cX2_heldWhenLeftOut 89 = .ok (.isub, 1) := by decide +kernel
theorem dX2_heldWhenLeftOut_90 : decode cX2_heldWhenLeftOut 90 = .ok (.iload 8, 2) := by decide +kernel
theorem dX2_heldWhenLeftOut_92 : decode cX2_heldWhenLeftOut 92 = .ok (.invokestatic 115, 3) := by decide +kernel
theorem dX2_heldWhenLeftOut_95 : decode cX2_heldWhenLeftOut 95 = .ok (.imul, 1) := by decide +kernel
theorem dX2_heldWhenLeftOut_96 : decode cX2_heldWhenLeftOut 96 = .ok (.iadd, 1) := by decide +kernel
theorem dX2_heldWhenLeftOut_97 : decode cX2_heldWhenLeftOut 97 = .ok (.istore 5, 2) := by decide +kernel
theorem dX2_heldWhenLeftOut_99 : decode cX2_heldWhenLeftOut 99 = .ok (.iinc 6 1, 3) := by decide +kernel
theorem dX2_heldWhenLeftOut_102 : decode cX2_heldWhenLeftOut 102 = .ok (.goto (-68), 3) := by decide +kernel
theorem dX2_heldWhenLeftOut_105 : decode cX2_heldWhenLeftOut 105 = .ok (.bipush 10, 2) := by decide +kernel
theorem dX2_heldWhenLeftOut_107 : decode cX2_heldWhenLeftOut 107 = .ok (.iload 4, 2) := by decide +kernel
theorem dX2_heldWhenLeftOut_109 : decode cX2_heldWhenLeftOut 109 = .ok (.invokestatic 110, 3) := by decide +kernel
theorem dX2_heldWhenLeftOut_112 : decode cX2_heldWhenLeftOut 112 = .ok (.invokestatic 115, 3) := by decide +kernel
theorem dX2_heldWhenLeftOut_115 : decode cX2_heldWhenLeftOut 115 = .ok (.istore 6, 2) := by decide +kernel
theorem dX2_heldWhenLeftOut_117 : decode cX2_heldWhenLeftOut 117 = .ok (.iload 6, 2) := by decide +kernel
theorem dX2_heldWhenLeftOut_119 : decode cX2_heldWhenLeftOut 119 = .ok (.iload 5, 2) := by decide +kernel
theorem dX2_heldWhenLeftOut_121 : decode cX2_heldWhenLeftOut 121 = .ok (.invokestatic 118, 3) := by decide +kernel
theorem dX2_heldWhenLeftOut_124 : decode cX2_heldWhenLeftOut 124 = .ok (.istore 7, 2) := by decide +kernel
theorem dX2_heldWhenLeftOut_126 : decode cX2_heldWhenLeftOut 126 = .ok (.iload 7, 2) := by decide +kernel
theorem dX2_heldWhenLeftOut_128 : decode cX2_heldWhenLeftOut 128 = .ok (.ifCond .le 20, 3) := by decide +kernel
theorem dX2_heldWhenLeftOut_131 : decode cX2_heldWhenLeftOut 131 = .ok (.iload_n 3, 1) := by decide +kernel
theorem dX2_heldWhenLeftOut_132 : decode cX2_heldWhenLeftOut 132 = .ok (.ifCond .ne 8, 3) := by decide +kernel
theorem dX2_heldWhenLeftOut_135 : decode cX2_heldWhenLeftOut 135 = .ok (.iload 5, 2) := by decide +kernel
theorem dX2_heldWhenLeftOut_137 : decode cX2_heldWhenLeftOut 137 = .ok (.goto 5, 3) := by decide +kernel
theorem dX2_heldWhenLeftOut_140 : decode cX2_heldWhenLeftOut 140 = .ok (.iload 6, 2) := by decide +kernel
theorem dX2_heldWhenLeftOut_142 : decode cX2_heldWhenLeftOut 142 = .ok (.iload 7, 2) := by decide +kernel
theorem dX2_heldWhenLeftOut_144 : decode cX2_heldWhenLeftOut 144 = .ok (.idiv, 1) := by decide +kernel
theorem dX2_heldWhenLeftOut_145 : decode cX2_heldWhenLeftOut 145 = .ok (.goto 4, 3) := by decide +kernel
theorem dX2_heldWhenLeftOut_148 : decode cX2_heldWhenLeftOut 148 = .ok (.iconst 0, 1) := by decide +kernel
theorem dX2_heldWhenLeftOut_149 : decode cX2_heldWhenLeftOut 149 = .ok (.ireturn, 1) := by decide +kernel
theorem dX2_isHeld_0 : decode cX2_isHeld 0 = .ok (.aload_n 0, 1) := by decide +kernel
theorem dX2_isHeld_1 : decode cX2_isHeld 1 = .ok (.getfield 12, 3) := by decide +kernel
theorem dX2_isHeld_4 : decode cX2_isHeld 4 = .ok (.aload_n 0, 1) := by decide +kernel
theorem dX2_isHeld_5 : decode cX2_isHeld 5 = .ok (.getfield 18, 3) := by decide +kernel
theorem dX2_isHeld_8 : decode cX2_isHeld 8 = .ok (.invokevirtual 21, 3) := by decide +kernel
theorem dX2_isHeld_11 : decode cX2_isHeld 11 = .ok (.aload_n 0, 1) := by decide +kernel
theorem dX2_isHeld_12 : decode cX2_isHeld 12 = .ok (.getfield 12, 3) := by decide +kernel
theorem dX2_isHeld_15 : decode cX2_isHeld 15 = .ok (.iload_n 2, 1) := by decide +kernel
theorem dX2_isHeld_16 : decode cX2_isHeld 16 = .ok (.invokevirtual 95, 3) := by decide +kernel
theorem dX2_isHeld_19 : decode cX2_isHeld 19 = .ok (.aload_n 0, 1) := by decide +kernel
theorem dX2_isHeld_20 : decode cX2_isHeld 20 = .ok (.getfield 12, 3) := by decide +kernel
theorem dX2_isHeld_23 : decode cX2_isHeld 23 = .ok (.iload_n 1, 1) := by decide +kernel
theorem dX2_isHeld_24 : decode cX2_isHeld 24 = .ok (.invokevirtual 121, 3) := by decide +kernel
theorem dX2_isHeld_27 : decode cX2_isHeld 27 = .ok (.iload_n 2, 1) := by decide +kernel
theorem dX2_isHeld_28 : decode cX2_isHeld 28 = .ok (.iconst (-1), 1) := by decide +kernel
theorem dX2_isHeld_29 : decode cX2_isHeld 29 = .ok (.ixor, 1) := by decide +kernel
theorem dX2_isHeld_30 : decode cX2_isHeld 30 = .ok (.iand, 1) := by decide +kernel
theorem dX2_isHeld_31 : decode cX2_isHeld 31 = .ok (.ifCond .eq 7, 3) := by decide +kernel
theorem dX2_isHeld_34 : decode cX2_isHeld 34 = .ok (.iconst 1, 1) := by decide +kernel
theorem dX2_isHeld_35 : decode cX2_isHeld 35 = .ok (.goto 4, 3) := by decide +kernel
theorem dX2_isHeld_38 : decode cX2_isHeld 38 = .ok (.iconst 0, 1) := by decide +kernel
theorem dX2_isHeld_39 : decode cX2_isHeld 39 = .ok (.ireturn, 1) := by decide +kernel
theorem dX2_power_0 : decode cX2_power 0 = .ok (.iconst 1, 1) := by decide +kernel
theorem dX2_power_1 : decode cX2_power 1 = .ok (.istore_n 2, 1) := by decide +kernel
theorem dX2_power_2 : decode cX2_power 2 = .ok (.iconst 0, 1) := by decide +kernel
theorem dX2_power_3 : decode cX2_power 3 = .ok (.istore_n 3, 1) := by decide +kernel
theorem dX2_power_4 : decode cX2_power 4 = .ok (.iload_n 3, 1) := by decide +kernel
theorem dX2_power_5 : decode cX2_power 5 = .ok (.iload_n 1, 1) := by decide +kernel
theorem dX2_power_6 : decode cX2_power 6 = .ok (.if_icmp .ge 13, 3) := by decide +kernel
theorem dX2_power_9 : decode cX2_power 9 = .ok (.iload_n 2, 1) := by decide +kernel
theorem dX2_power_10 : decode cX2_power 10 = .ok (.iload_n 0, 1) := by decide +kernel
theorem dX2_power_11 : decode cX2_power 11 = .ok (.imul, 1) := by decide +kernel
theorem dX2_power_12 : decode cX2_power 12 = .ok (.istore_n 2, 1) := by decide +kernel
theorem dX2_power_13 : decode cX2_power 13 = .ok (.iinc 3 1, 3) := by decide +kernel
theorem dX2_power_16 : decode cX2_power 16 = .ok (.goto (-12), 3) := by decide +kernel
theorem dX2_power_19 : decode cX2_power 19 = .ok (.iload_n 2, 1) := by decide +kernel
theorem dX2_power_20 : decode cX2_power 20 = .ok (.ireturn, 1) := by decide +kernel
theorem dX2_commonDivisor_0 : decode cX2_commonDivisor 0 = .ok (.iload_n 0, 1) := by decide +kernel
theorem dX2_commonDivisor_1 : decode cX2_commonDivisor 1 = .ok (.istore_n 2, 1) := by decide +kernel
theorem dX2_commonDivisor_2 : decode cX2_commonDivisor 2 = .ok (.iload_n 1, 1) := by decide +kernel
theorem dX2_commonDivisor_3 : decode cX2_commonDivisor 3 = .ok (.istore_n 3, 1) := by decide +kernel
theorem dX2_commonDivisor_4 : decode cX2_commonDivisor 4 = .ok (.iconst 0, 1) := by decide +kernel
theorem dX2_commonDivisor_5 : decode cX2_commonDivisor 5 = .ok (.istore 4, 2) := by decide +kernel
theorem dX2_commonDivisor_7 : decode cX2_commonDivisor 7 = .ok (.iload 4, 2) := by decide +kernel
theorem dX2_commonDivisor_9 : decode cX2_commonDivisor 9 = .ok (.bipush 100, 2) := by decide +kernel
theorem dX2_commonDivisor_11 : decode cX2_commonDivisor 11 = .ok (.if_icmp .ge 23, 3) := by decide +kernel
theorem dX2_commonDivisor_14 : decode cX2_commonDivisor 14 = .ok (.iload_n 3, 1) := by decide +kernel
theorem dX2_commonDivisor_15 : decode cX2_commonDivisor 15 = .ok (.ifCond .le 19, 3) := by decide +kernel
theorem dX2_commonDivisor_18 : decode cX2_commonDivisor 18 = .ok (.iload_n 2, 1) := by decide +kernel
theorem dX2_commonDivisor_19 : decode cX2_commonDivisor 19 = .ok (.iload_n 3, 1) := by decide +kernel
theorem dX2_commonDivisor_20 : decode cX2_commonDivisor 20 = .ok (.irem, 1) := by decide +kernel
theorem dX2_commonDivisor_21 : decode cX2_commonDivisor 21 = .ok (.istore 5, 2) := by decide +kernel
theorem dX2_commonDivisor_23 : decode cX2_commonDivisor 23 = .ok (.iload_n 3, 1) := by decide +kernel
theorem dX2_commonDivisor_24 : decode cX2_commonDivisor 24 = .ok (.istore_n 2, 1) := by decide +kernel
theorem dX2_commonDivisor_25 : decode cX2_commonDivisor 25 = .ok (.iload 5, 2) := by decide +kernel
theorem dX2_commonDivisor_27 : decode cX2_commonDivisor 27 = .ok (.istore_n 3, 1) := by decide +kernel
theorem dX2_commonDivisor_28 : decode cX2_commonDivisor 28 = .ok (.iinc 4 1, 3) := by decide +kernel
theorem dX2_commonDivisor_31 : decode cX2_commonDivisor 31 = .ok (.goto (-24), 3) := by decide +kernel
theorem dX2_commonDivisor_34 : decode cX2_commonDivisor 34 = .ok (.iload_n 2, 1) := by decide +kernel
theorem dX2_commonDivisor_35 : decode cX2_commonDivisor 35 = .ok (.ireturn, 1) := by decide +kernel
theorem dX2_drawYears_0 : decode cX2_drawYears 0 = .ok (.aload_n 0, 1) := by decide +kernel
theorem dX2_drawYears_1 : decode cX2_drawYears 1 = .ok (.getfield 12, 3) := by decide +kernel
theorem dX2_drawYears_4 : decode cX2_drawYears 4 = .ok (.aload_n 0, 1) := by decide +kernel
theorem dX2_drawYears_5 : decode cX2_drawYears 5 = .ok (.getfield 18, 3) := by decide +kernel
theorem dX2_drawYears_8 : decode cX2_drawYears 8 = .ok (.invokevirtual 21, 3) := by decide +kernel
theorem dX2_drawYears_11 : decode cX2_drawYears 11 = .ok (.aload_n 0, 1) := by decide +kernel
theorem dX2_drawYears_12 : decode cX2_drawYears 12 = .ok (.getfield 12, 3) := by decide +kernel
theorem dX2_drawYears_15 : decode cX2_drawYears 15 = .ok (.iconst 0, 1) := by decide +kernel
theorem dX2_drawYears_16 : decode cX2_drawYears 16 = .ok (.putfield 124, 3) := by decide +kernel
theorem dX2_drawYears_19 : decode cX2_drawYears 19 = .ok (.iload_n 2, 1) := by decide +kernel
theorem dX2_drawYears_20 : decode cX2_drawYears 20 = .ok (.i2l, 1) := by decide +kernel
theorem dX2_drawYears_21 : decode cX2_drawYears 21 = .ok (.lstore_n 3, 1) := by decide +kernel
theorem dX2_drawYears_22 : decode cX2_drawYears 22 = .ok (.iconst 0, 1) := by decide +kernel
theorem dX2_drawYears_23 : decode cX2_drawYears 23 = .ok (.istore 5, 2) := by decide +kernel
theorem dX2_drawYears_25 : decode cX2_drawYears 25 = .ok (.iload 5, 2) := by decide +kernel
theorem dX2_drawYears_27 : decode cX2_drawYears 27 = .ok (.iload_n 1, 1) := by decide +kernel
theorem dX2_drawYears_28 : decode cX2_drawYears 28 = .ok (.if_icmp .ge 99, 3) := by decide +kernel
theorem dX2_drawYears_31 : decode cX2_drawYears 31 = .ok (.lload_n 3, 1) := by decide +kernel
theorem dX2_drawYears_32 : decode cX2_drawYears 32 = .ok (.ldc2_w 127, 3) := by decide +kernel
theorem dX2_drawYears_35 : decode cX2_drawYears 35 = .ok (.lmul, 1) := by decide +kernel
theorem dX2_drawYears_36 : decode cX2_drawYears 36 = .ok (.ldc2_w 129, 3) := by decide +kernel
theorem dX2_drawYears_39 : decode cX2_drawYears 39 = .ok (.lrem, 1) := by decide +kernel
theorem dX2_drawYears_40 : decode cX2_drawYears 40 = .ok (.lstore_n 3, 1) := by decide +kernel
theorem dX2_drawYears_41 : decode cX2_drawYears 41 = .ok (.aload_n 0, 1) := by decide +kernel
theorem dX2_drawYears_42 : decode cX2_drawYears 42 = .ok (.getfield 12, 3) := by decide +kernel
theorem dX2_drawYears_45 : decode cX2_drawYears 45 = .ok (.lload_n 3, 1) := by decide +kernel
theorem dX2_drawYears_46 : decode cX2_drawYears 46 = .ok (.ldc2_w 131, 3) := by decide +kernel
theorem dX2_drawYears_49 : decode cX2_drawYears 49 = .ok (.lrem, 1) := by decide +kernel
theorem dX2_drawYears_50 : decode cX2_drawYears 50 = .ok (.l2i, 1) := by decide +kernel
theorem dX2_drawYears_51 : decode cX2_drawYears 51 = .ok (.putfield 86, 3) := by decide +kernel
theorem dX2_drawYears_54 : decode cX2_drawYears 54 = .ok (.aload_n 0, 1) := by decide +kernel
theorem dX2_drawYears_55 : decode cX2_drawYears 55 = .ok (.getfield 12, 3) := by decide +kernel
theorem dX2_drawYears_58 : decode cX2_drawYears 58 = .ok (.getfield 99, 3) := by decide +kernel
theorem dX2_drawYears_61 : decode cX2_drawYears 61 = .ok (.ifCond .eq 53, 3) := by decide +kernel
theorem dX2_drawYears_64 : decode cX2_drawYears 64 = .ok (.aload_n 0, 1) := by decide +kernel
theorem dX2_drawYears_65 : decode cX2_drawYears 65 = .ok (.getfield 12, 3) := by decide +kernel
theorem dX2_drawYears_68 : decode cX2_drawYears 68 = .ok (.getfield 37, 3) := by decide +kernel
theorem dX2_drawYears_71 : decode cX2_drawYears 71 = .ok (.ifCond .le 43, 3) := by decide +kernel
theorem dX2_drawYears_74 : decode cX2_drawYears 74 = .ok (.aload_n 0, 1) := by decide +kernel
theorem dX2_drawYears_75 : decode cX2_drawYears 75 = .ok (.getfield 12, 3) := by decide +kernel
theorem dX2_drawYears_78 : decode cX2_drawYears 78 = .ok (.getfield 59, 3) := by decide +kernel
theorem dX2_drawYears_81 : decode cX2_drawYears 81 = .ok (.ifCond .le 33, 3) := by decide +kernel
theorem dX2_drawYears_84 : decode cX2_drawYears 84 = .ok (.aload_n 0, 1) := by decide +kernel
theorem dX2_drawYears_85 : decode cX2_drawYears 85 = .ok (.getfield 12, 3) := by decide +kernel
theorem dX2_drawYears_88 : decode cX2_drawYears 88 = .ok (.getfield 92, 3) := by decide +kernel
theorem dX2_drawYears_91 : decode cX2_drawYears 91 = .ok (.lload_n 3, 1) := by decide +kernel
theorem dX2_drawYears_92 : decode cX2_drawYears 92 = .ok (.aload_n 0, 1) := by decide +kernel
theorem dX2_drawYears_93 : decode cX2_drawYears 93 = .ok (.getfield 12, 3) := by decide +kernel
theorem dX2_drawYears_96 : decode cX2_drawYears 96 = .ok (.getfield 37, 3) := by decide +kernel
theorem dX2_drawYears_99 : decode cX2_drawYears 99 = .ok (.i2l, 1) := by decide +kernel
theorem dX2_drawYears_100 : decode cX2_drawYears 100 = .ok (.lrem, 1) := by decide +kernel
theorem dX2_drawYears_101 : decode cX2_drawYears 101 = .ok (.l2i, 1) := by decide +kernel
theorem dX2_drawYears_102 : decode cX2_drawYears 102 = .ok (.lload_n 3, 1) := by decide +kernel
theorem dX2_drawYears_103 : decode cX2_drawYears 103 = .ok (.aload_n 0, 1) := by decide +kernel
theorem dX2_drawYears_104 : decode cX2_drawYears 104 = .ok (.getfield 12, 3) := by decide +kernel
theorem dX2_drawYears_107 : decode cX2_drawYears 107 = .ok (.getfield 59, 3) := by decide +kernel
theorem dX2_drawYears_110 : decode cX2_drawYears 110 = .ok (.i2l, 1) := by decide +kernel
theorem dX2_drawYears_111 : decode cX2_drawYears 111 = .ok (.lrem, 1) := by decide +kernel
theorem dX2_drawYears_112 : decode cX2_drawYears 112 = .ok (.l2i, 1) := by decide +kernel
theorem dX2_drawYears_113 : decode cX2_drawYears 113 = .ok (.iastore, 1) := by decide +kernel
theorem dX2_drawYears_114 : decode cX2_drawYears 114 = .ok (.aload_n 0, 1) := by decide +kernel
theorem dX2_drawYears_115 : decode cX2_drawYears 115 = .ok (.getfield 12, 3) := by decide +kernel
theorem dX2_drawYears_118 : decode cX2_drawYears 118 = .ok (.invokevirtual 133, 3) := by decide +kernel
theorem dX2_drawYears_121 : decode cX2_drawYears 121 = .ok (.iinc 5 1, 3) := by decide +kernel
theorem dX2_drawYears_124 : decode cX2_drawYears 124 = .ok (.goto (-99), 3) := by decide +kernel
theorem dX2_drawYears_127 : decode cX2_drawYears 127 = .ok (.return_, 1) := by decide +kernel
theorem dX3_init_0 : decode cX3_init 0 = .ok (.aload_n 0, 1) := by decide +kernel
theorem dX3_init_1 : decode cX3_init 1 = .ok (.invokespecial 3, 3) := by decide +kernel
theorem dX3_init_4 : decode cX3_init 4 = .ok (.aload_n 0, 1) := by decide +kernel
theorem dX3_init_5 : decode cX3_init 5 = .ok (.bipush 24, 2) := by decide +kernel
theorem dX3_init_7 : decode cX3_init 7 = .ok (.anewarray 9, 3) := by decide +kernel
theorem dX3_init_10 : decode cX3_init 10 = .ok (.putfield 11, 3) := by decide +kernel
theorem dX3_init_13 : decode cX3_init 13 = .ok (.iconst 0, 1) := by decide +kernel
theorem dX3_init_14 : decode cX3_init 14 = .ok (.istore_n 1, 1) := by decide +kernel
theorem dX3_init_15 : decode cX3_init 15 = .ok (.iload_n 1, 1) := by decide +kernel
theorem dX3_init_16 : decode cX3_init 16 = .ok (.bipush 24, 2) := by decide +kernel
theorem dX3_init_18 : decode cX3_init 18 = .ok (.if_icmp .ge 22, 3) := by decide +kernel
theorem dX3_init_21 : decode cX3_init 21 = .ok (.aload_n 0, 1) := by decide +kernel
theorem dX3_init_22 : decode cX3_init 22 = .ok (.getfield 11, 3) := by decide +kernel
theorem dX3_init_25 : decode cX3_init 25 = .ok (.iload_n 1, 1) := by decide +kernel
theorem dX3_init_26 : decode cX3_init 26 = .ok (.new 9, 3) := by decide +kernel
theorem dX3_init_29 : decode cX3_init 29 = .ok (.dup, 1) := by decide +kernel
theorem dX3_init_30 : decode cX3_init 30 = .ok (.invokespecial 17, 3) := by decide +kernel
theorem dX3_init_33 : decode cX3_init 33 = .ok (.aastore, 1) := by decide +kernel
theorem dX3_init_34 : decode cX3_init 34 = .ok (.iinc 1 1, 3) := by decide +kernel
theorem dX3_init_37 : decode cX3_init 37 = .ok (.goto (-22), 3) := by decide +kernel
theorem dX3_init_40 : decode cX3_init 40 = .ok (.return_, 1) := by decide +kernel
theorem dX3_keep_0 : decode cX3_keep 0 = .ok (.aload_n 0, 1) := by decide +kernel
theorem dX3_keep_1 : decode cX3_keep 1 = .ok (.getfield 11, 3) := by decide +kernel
theorem dX3_keep_4 : decode cX3_keep 4 = .ok (.aload_n 0, 1) := by decide +kernel
theorem dX3_keep_5 : decode cX3_keep 5 = .ok (.getfield 18, 3) := by decide +kernel
theorem dX3_keep_8 : decode cX3_keep 8 = .ok (.aload_n 0, 1) := by decide +kernel
theorem dX3_keep_9 : decode cX3_keep 9 = .ok (.getfield 22, 3) := by decide +kernel
theorem dX3_keep_12 : decode cX3_keep 12 = .ok (.iadd, 1) := by decide +kernel
theorem dX3_keep_13 : decode cX3_keep 13 = .ok (.bipush 24, 2) := by decide +kernel
theorem dX3_keep_15 : decode cX3_keep 15 = .ok (.irem, 1) := by decide +kernel
theorem dX3_keep_16 : decode cX3_keep 16 = .ok (.aaload, 1) := by decide +kernel
theorem dX3_keep_17 : decode cX3_keep 17 = .ok (.aload_n 1, 1) := by decide +kernel
theorem dX3_keep_18 : decode cX3_keep 18 = .ok (.invokevirtual 25, 3) := by decide +kernel
theorem dX3_keep_21 : decode cX3_keep 21 = .ok (.aload_n 0, 1) := by decide +kernel
theorem dX3_keep_22 : decode cX3_keep 22 = .ok (.getfield 22, 3) := by decide +kernel
theorem dX3_keep_25 : decode cX3_keep 25 = .ok (.bipush 24, 2) := by decide +kernel
theorem dX3_keep_27 : decode cX3_keep 27 = .ok (.if_icmp .ge 16, 3) := by decide +kernel
theorem dX3_keep_30 : decode cX3_keep 30 = .ok (.aload_n 0, 1) := by decide +kernel
theorem dX3_keep_31 : decode cX3_keep 31 = .ok (.dup, 1) := by decide +kernel
theorem dX3_keep_32 : decode cX3_keep 32 = .ok (.getfield 22, 3) := by decide +kernel
theorem dX3_keep_35 : decode cX3_keep 35 = .ok (.iconst 1, 1) := by decide +kernel
theorem dX3_keep_36 : decode cX3_keep 36 = .ok (.iadd, 1) := by decide +kernel
theorem dX3_keep_37 : decode cX3_keep 37 = .ok (.putfield 22, 3) := by decide +kernel
theorem dX3_keep_40 : decode cX3_keep 40 = .ok (.goto 16, 3) := by decide +kernel
theorem dX3_keep_43 : decode cX3_keep 43 = .ok (.aload_n 0, 1) := by decide +kernel
theorem dX3_keep_44 : decode cX3_keep 44 = .ok (.aload_n 0, 1) := by decide +kernel
theorem dX3_keep_45 : decode cX3_keep 45 = .ok (.getfield 18, 3) := by decide +kernel
theorem dX3_keep_48 : decode cX3_keep 48 = .ok (.iconst 1, 1) := by decide +kernel
theorem dX3_keep_49 : decode cX3_keep 49 = .ok (.iadd, 1) := by decide +kernel
theorem dX3_keep_50 : decode cX3_keep 50 = .ok (.bipush 24, 2) := by decide +kernel
theorem dX3_keep_52 : decode cX3_keep 52 = .ok (.irem, 1) := by decide +kernel
theorem dX3_keep_53 : decode cX3_keep 53 = .ok (.putfield 18, 3) := by decide +kernel
theorem dX3_keep_56 : decode cX3_keep 56 = .ok (.return_, 1) := by decide +kernel
theorem dX3_giveBack_0 : decode cX3_giveBack 0 = .ok (.aload_n 0, 1) := by decide +kernel
theorem dX3_giveBack_1 : decode cX3_giveBack 1 = .ok (.getfield 22, 3) := by decide +kernel
theorem dX3_giveBack_4 : decode cX3_giveBack 4 = .ok (.ifCond .le 34, 3) := by decide +kernel
theorem dX3_giveBack_7 : decode cX3_giveBack 7 = .ok (.aload_n 0, 1) := by decide +kernel
theorem dX3_giveBack_8 : decode cX3_giveBack 8 = .ok (.dup, 1) := by decide +kernel
theorem dX3_giveBack_9 : decode cX3_giveBack 9 = .ok (.getfield 22, 3) := by decide +kernel
theorem dX3_giveBack_12 : decode cX3_giveBack 12 = .ok (.iconst 1, 1) := by decide +kernel
theorem dX3_giveBack_13 : decode cX3_giveBack 13 = .ok (.isub, 1) := by decide +kernel
theorem dX3_giveBack_14 : decode cX3_giveBack 14 = .ok (.putfield 22, 3) := by decide +kernel
theorem dX3_giveBack_17 : decode cX3_giveBack 17 = .ok (.aload_n 1, 1) := by decide +kernel
theorem dX3_giveBack_18 : decode cX3_giveBack 18 = .ok (.aload_n 0, 1) := by decide +kernel
theorem dX3_giveBack_19 : decode cX3_giveBack 19 = .ok (.getfield 11, 3) := by decide +kernel
theorem dX3_giveBack_22 : decode cX3_giveBack 22 = .ok (.aload_n 0, 1) := by decide +kernel
theorem dX3_giveBack_23 : decode cX3_giveBack 23 = .ok (.getfield 18, 3) := by decide +kernel
theorem dX3_giveBack_26 : decode cX3_giveBack 26 = .ok (.aload_n 0, 1) := by decide +kernel
theorem dX3_giveBack_27 : decode cX3_giveBack 27 = .ok (.getfield 22, 3) := by decide +kernel
theorem dX3_giveBack_30 : decode cX3_giveBack 30 = .ok (.iadd, 1) := by decide +kernel
theorem dX3_giveBack_31 : decode cX3_giveBack 31 = .ok (.bipush 24, 2) := by decide +kernel
theorem dX3_giveBack_33 : decode cX3_giveBack 33 = .ok (.irem, 1) := by decide +kernel
theorem dX3_giveBack_34 : decode cX3_giveBack 34 = .ok (.aaload, 1) := by decide +kernel
theorem dX3_giveBack_35 : decode cX3_giveBack 35 = .ok (.invokevirtual 25, 3) := by decide +kernel
theorem dX3_giveBack_38 : decode cX3_giveBack 38 = .ok (.return_, 1) := by decide +kernel
theorem dX3_forget_0 : decode cX3_forget 0 = .ok (.aload_n 0, 1) := by decide +kernel
theorem dX3_forget_1 : decode cX3_forget 1 = .ok (.iconst 0, 1) := by decide +kernel
theorem dX3_forget_2 : decode cX3_forget 2 = .ok (.putfield 22, 3) := by decide +kernel
theorem dX3_forget_5 : decode cX3_forget 5 = .ok (.return_, 1) := by decide +kernel
theorem dX4_init_0 : decode cX4_init 0 = .ok (.aload_n 0, 1) := by decide +kernel
theorem dX4_init_1 : decode cX4_init 1 = .ok (.invokespecial 3, 3) := by decide +kernel
theorem dX4_init_4 : decode cX4_init 4 = .ok (.aload_n 0, 1) := by decide +kernel
theorem dX4_init_5 : decode cX4_init 5 = .ok (.sipush 130, 3) := by decide +kernel
theorem dX4_init_8 : decode cX4_init 8 = .ok (.newarray .int, 2) := by decide +kernel
theorem dX4_init_10 : decode cX4_init 10 = .ok (.putfield 9, 3) := by decide +kernel
theorem dX4_init_13 : decode cX4_init 13 = .ok (.return_, 1) := by decide +kernel
theorem dX4_append_0 : decode cX4_append 0 = .ok (.aload_n 0, 1) := by decide +kernel
theorem dX4_append_1 : decode cX4_append 1 = .ok (.getfield 15, 3) := by decide +kernel
theorem dX4_append_4 : decode cX4_append 4 = .ok (.sipush 130, 3) := by decide +kernel
theorem dX4_append_7 : decode cX4_append 7 = .ok (.if_icmp .ge 23, 3) := by decide +kernel
theorem dX4_append_10 : decode cX4_append 10 = .ok (.aload_n 0, 1) := by decide +kernel
theorem dX4_append_11 : decode cX4_append 11 = .ok (.getfield 9, 3) := by decide +kernel
theorem dX4_append_14 : decode cX4_append 14 = .ok (.aload_n 0, 1) := by decide +kernel
theorem dX4_append_15 : decode cX4_append 15 = .ok (.getfield 15, 3) := by decide +kernel
theorem dX4_append_18 : decode cX4_append 18 = .ok (.iload_n 1, 1) := by decide +kernel
theorem dX4_append_19 : decode cX4_append 19 = .ok (.iastore, 1) := by decide +kernel
theorem dX4_append_20 : decode cX4_append 20 = .ok (.aload_n 0, 1) := by decide +kernel
theorem dX4_append_21 : decode cX4_append 21 = .ok (.dup, 1) := by decide +kernel
theorem dX4_append_22 : decode cX4_append 22 = .ok (.getfield 15, 3) := by decide +kernel
theorem dX4_append_25 : decode cX4_append 25 = .ok (.iconst 1, 1) := by decide +kernel
theorem dX4_append_26 : decode cX4_append 26 = .ok (.iadd, 1) := by decide +kernel
theorem dX4_append_27 : decode cX4_append 27 = .ok (.putfield 15, 3) := by decide +kernel
theorem dX4_append_30 : decode cX4_append 30 = .ok (.aload_n 0, 1) := by decide +kernel
theorem dX4_append_31 : decode cX4_append 31 = .ok (.getfield 15, 3) := by decide +kernel
theorem dX4_append_34 : decode cX4_append 34 = .ok (.ireturn, 1) := by decide +kernel
theorem dX4_clear_0 : decode cX4_clear 0 = .ok (.aload_n 0, 1) := by decide +kernel
theorem dX4_clear_1 : decode cX4_clear 1 = .ok (.iconst 0, 1) := by decide +kernel
theorem dX4_clear_2 : decode cX4_clear 2 = .ok (.putfield 15, 3) := by decide +kernel
theorem dX4_clear_5 : decode cX4_clear 5 = .ok (.return_, 1) := by decide +kernel
theorem dX4_readInto_0 : decode cX4_readInto 0 = .ok (.aload_n 0, 1) := by decide +kernel
theorem dX4_readInto_1 : decode cX4_readInto 1 = .ok (.iconst 0, 1) := by decide +kernel
theorem dX4_readInto_2 : decode cX4_readInto 2 = .ok (.putfield 19, 3) := by decide +kernel
theorem dX4_readInto_5 : decode cX4_readInto 5 = .ok (.aload_n 1, 1) := by decide +kernel
theorem dX4_readInto_6 : decode cX4_readInto 6 = .ok (.invokevirtual 22, 3) := by decide +kernel
theorem dX4_readInto_9 : decode cX4_readInto 9 = .ok (.aload_n 0, 1) := by decide +kernel
theorem dX4_readInto_10 : decode cX4_readInto 10 = .ok (.aload_n 1, 1) := by decide +kernel
theorem dX4_readInto_11 : decode cX4_readInto 11 = .ok (.invokevirtual 27, 3) := by decide +kernel
theorem dX4_readInto_14 : decode cX4_readInto 14 = .ok (.ifCond .eq 23, 3) := by decide +kernel
theorem dX4_readInto_17 : decode cX4_readInto 17 = .ok (.aload_n 0, 1) := by decide +kernel
theorem dX4_readInto_18 : decode cX4_readInto 18 = .ok (.aload_n 1, 1) := by decide +kernel
theorem dX4_readInto_19 : decode cX4_readInto 19 = .ok (.invokevirtual 31, 3) := by decide +kernel
theorem dX4_readInto_22 : decode cX4_readInto 22 = .ok (.ifCond .eq 15, 3) := by decide +kernel
theorem dX4_readInto_25 : decode cX4_readInto 25 = .ok (.aload_n 0, 1) := by decide +kernel
theorem dX4_readInto_26 : decode cX4_readInto 26 = .ok (.aload_n 1, 1) := by decide +kernel
theorem dX4_readInto_27 : decode cX4_readInto 27 = .ok (.invokevirtual 34, 3) := by decide +kernel
theorem dX4_readInto_30 : decode cX4_readInto 30 = .ok (.ifCond .eq 7, 3) := by decide +kernel
theorem dX4_readInto_33 : decode cX4_readInto 33 = .ok (.iconst 1, 1) := by decide +kernel
theorem dX4_readInto_34 : decode cX4_readInto 34 = .ok (.goto 4, 3) := by decide +kernel
theorem dX4_readInto_37 : decode cX4_readInto 37 = .ok (.iconst 0, 1) := by decide +kernel
theorem dX4_readInto_38 : decode cX4_readInto 38 = .ok (.ireturn, 1) := by decide +kernel
theorem dX4_readLaw_0 : decode cX4_readLaw 0 = .ok (.aload_n 0, 1) := by decide +kernel
theorem dX4_readLaw_1 : decode cX4_readLaw 1 = .ok (.bipush 109, 2) := by decide +kernel
theorem dX4_readLaw_3 : decode cX4_readLaw 3 = .ok (.invokevirtual 37, 3) := by decide +kernel
theorem dX4_readLaw_6 : decode cX4_readLaw 6 = .ok (.ifCond .eq 13, 3) := by decide +kernel
theorem dX4_readLaw_9 : decode cX4_readLaw 9 = .ok (.aload_n 0, 1) := by decide +kernel
theorem dX4_readLaw_10 : decode cX4_readLaw 10 = .ok (.iconst 0, 1) := by decide +kernel
theorem dX4_readLaw_11 : decode cX4_readLaw 11 = .ok (.bipush 15, 2) := by decide +kernel
theorem dX4_readLaw_13 : decode cX4_readLaw 13 = .ok (.invokevirtual 41, 3) := by decide +kernel
theorem dX4_readLaw_16 : decode cX4_readLaw 16 = .ok (.ifCond .ne 5, 3) := by decide +kernel
theorem dX4_readLaw_19 : decode cX4_readLaw 19 = .ok (.iconst 0, 1) := by decide +kernel
theorem dX4_readLaw_20 : decode cX4_readLaw 20 = .ok (.ireturn, 1) := by decide +kernel
theorem dX4_readLaw_21 : decode cX4_readLaw 21 = .ok (.aload_n 1, 1) := by decide +kernel
theorem dX4_readLaw_22 : decode cX4_readLaw 22 = .ok (.aload_n 0, 1) := by decide +kernel
theorem dX4_readLaw_23 : decode cX4_readLaw 23 = .ok (.getfield 45, 3) := by decide +kernel
theorem dX4_readLaw_26 : decode cX4_readLaw 26 = .ok (.putfield 48, 3) := by decide +kernel
theorem dX4_readLaw_29 : decode cX4_readLaw 29 = .ok (.aload_n 0, 1) := by decide +kernel
theorem dX4_readLaw_30 : decode cX4_readLaw 30 = .ok (.bipush 59, 2) := by decide +kernel
theorem dX4_readLaw_32 : decode cX4_readLaw 32 = .ok (.invokevirtual 37, 3) := by decide +kernel
theorem dX4_readLaw_35 : decode cX4_readLaw 35 = .ok (.ireturn, 1) := by decide +kernel
theorem dX4_readCells_0 : decode cX4_readCells 0 = .ok (.iconst 0, 1) := by decide +kernel
theorem dX4_readCells_1 : decode cX4_readCells 1 = .ok (.istore_n 2, 1) := by decide +kernel
theorem dX4_readCells_2 : decode cX4_readCells 2 = .ok (.iload_n 2, 1) := by decide +kernel
theorem dX4_readCells_3 : decode cX4_readCells 3 = .ok (.bipush 16, 2) := by decide +kernel
theorem dX4_readCells_5 : decode cX4_readCells 5 = .ok (.if_icmp .gt 28, 3) := by decide +kernel
theorem dX4_readCells_8 : decode cX4_readCells 8 = .ok (.aload_n 0, 1) := by decide +kernel
theorem dX4_readCells_9 : decode cX4_readCells 9 = .ok (.bipush 99, 2) := by decide +kernel
theorem dX4_readCells_11 : decode cX4_readCells 11 = .ok (.invokevirtual 51, 3) := by decide +kernel
theorem dX4_readCells_14 : decode cX4_readCells 14 = .ok (.ifCond .eq 19, 3) := by decide +kernel
theorem dX4_readCells_17 : decode cX4_readCells 17 = .ok (.aload_n 0, 1) := by decide +kernel
theorem dX4_readCells_18 : decode cX4_readCells 18 = .ok (.aload_n 1, 1) := by decide +kernel
theorem dX4_readCells_19 : decode cX4_readCells 19 = .ok (.invokevirtual 54, 3) := by decide +kernel
theorem dX4_readCells_22 : decode cX4_readCells 22 = .ok (.ifCond .ne 5, 3) := by decide +kernel
theorem dX4_readCells_25 : decode cX4_readCells 25 = .ok (.iconst 0, 1) := by decide +kernel
theorem dX4_readCells_26 : decode cX4_readCells 26 = .ok (.ireturn, 1) := by decide +kernel
theorem dX4_readCells_27 : decode cX4_readCells 27 = .ok (.iinc 2 1, 3) := by decide +kernel
theorem dX4_readCells_30 : decode cX4_readCells 30 = .ok (.goto (-28), 3) := by decide +kernel
theorem dX4_readCells_33 : decode cX4_readCells 33 = .ok (.aload_n 1, 1) := by decide +kernel
theorem dX4_readCells_34 : decode cX4_readCells 34 = .ok (.getfield 57, 3) := by decide +kernel
theorem dX4_readCells_37 : decode cX4_readCells 37 = .ok (.iconst 4, 1) := by decide +kernel
theorem dX4_readCells_38 : decode cX4_readCells 38 = .ok (.if_icmp .ge 15, 3) := by decide +kernel
theorem dX4_readCells_41 : decode cX4_readCells 41 = .ok (.aload_n 0, 1) := by decide +kernel
theorem dX4_readCells_42 : decode cX4_readCells 42 = .ok (.aload_n 0, 1) := by decide +kernel
theorem dX4_readCells_43 : decode cX4_readCells 43 = .ok (.getfield 19, 3) := by decide +kernel
theorem dX4_readCells_46 : decode cX4_readCells 46 = .ok (.iconst 1, 1) := by decide +kernel
theorem dX4_readCells_47 : decode cX4_readCells 47 = .ok (.invokevirtual 60, 3) := by decide +kernel
theorem dX4_readCells_50 : decode cX4_readCells 50 = .ok (.ifCond .eq 7, 3) := by decide +kernel
theorem dX4_readCells_53 : decode cX4_readCells 53 = .ok (.iconst 1, 1) := by decide +kernel
theorem dX4_readCells_54 : decode cX4_readCells 54 = .ok (.goto 4, 3) := by decide +kernel
theorem dX4_readCells_57 : decode cX4_readCells 57 = .ok (.iconst 0, 1) := by decide +kernel
theorem dX4_readCells_58 : decode cX4_readCells 58 = .ok (.ireturn, 1) := by decide +kernel
theorem dX4_readCell_0 : decode cX4_readCell 0 = .ok (.aload_n 1, 1) := by decide +kernel
theorem dX4_readCell_1 : decode cX4_readCell 1 = .ok (.getfield 57, 3) := by decide +kernel
theorem dX4_readCell_4 : decode cX4_readCell 4 = .ok (.bipush 16, 2) := by decide +kernel
theorem dX4_readCell_6 : decode cX4_readCell 6 = .ok (.if_icmp .lt 13, 3) := by decide +kernel
theorem dX4_readCell_9 : decode cX4_readCell 9 = .ok (.aload_n 0, 1) := by decide +kernel
theorem dX4_readCell_10 : decode cX4_readCell 10 = .ok (.aload_n 0, 1) := by decide +kernel
theorem dX4_readCell_11 : decode cX4_readCell 11 = .ok (.getfield 19, 3) := by decide +kernel
theorem dX4_readCell_14 : decode cX4_readCell 14 = .ok (.iconst 3, 1) := by decide +kernel
theorem dX4_readCell_15 : decode cX4_readCell 15 = .ok (.invokevirtual 60, 3) := by decide +kernel
theorem dX4_readCell_18 : decode cX4_readCell 18 = .ok (.ireturn, 1) := by decide +kernel
theorem dX4_readCell_19 : decode cX4_readCell 19 = .ok (.aload_n 0, 1) := by decide +kernel
theorem dX4_readCell_20 : decode cX4_readCell 20 = .ok (.bipush 99, 2) := by decide +kernel
theorem dX4_readCell_22 : decode cX4_readCell 22 = .ok (.invokevirtual 37, 3) := by decide +kernel
theorem dX4_readCell_25 : decode cX4_readCell 25 = .ok (.ifCond .eq 13, 3) := by decide +kernel
theorem dX4_readCell_28 : decode cX4_readCell 28 = .ok (.aload_n 0, 1) := by decide +kernel
theorem dX4_readCell_29 : decode cX4_readCell 29 = .ok (.iconst 0, 1) := by decide +kernel
theorem dX4_readCell_30 : decode cX4_readCell 30 = .ok (.bipush 9, 2) := by decide +kernel
theorem dX4_readCell_32 : decode cX4_readCell 32 = .ok (.invokevirtual 41, 3) := by decide +kernel
theorem dX4_readCell_35 : decode cX4_readCell 35 = .ok (.ifCond .ne 5, 3) := by decide +kernel
theorem dX4_readCell_38 : decode cX4_readCell 38 = .ok (.iconst 0, 1) := by decide +kernel
theorem dX4_readCell_39 : decode cX4_readCell 39 = .ok (.ireturn, 1) := by decide +kernel
theorem dX4_readCell_40 : decode cX4_readCell 40 = .ok (.aload_n 1, 1) := by decide +kernel
theorem dX4_readCell_41 : decode cX4_readCell 41 = .ok (.getfield 63, 3) := by decide +kernel
theorem dX4_readCell_44 : decode cX4_readCell 44 = .ok (.aload_n 1, 1) := by decide +kernel
theorem dX4_readCell_45 : decode cX4_readCell 45 = .ok (.getfield 57, 3) := by decide +kernel
theorem dX4_readCell_48 : decode cX4_readCell 48 = .ok (.aload_n 0, 1) := by decide +kernel
theorem dX4_readCell_49 : decode cX4_readCell 49 = .ok (.getfield 45, 3) := by decide +kernel
theorem dX4_readCell_52 : decode cX4_readCell 52 = .ok (.iastore, 1) := by decide +kernel
theorem dX4_readCell_53 : decode cX4_readCell 53 = .ok (.aload_n 1, 1) := by decide +kernel
theorem dX4_readCell_54 : decode cX4_readCell 54 = .ok (.dup, 1) := by decide +kernel
theorem dX4_readCell_55 : decode cX4_readCell 55 = .ok (.getfield 57, 3) := by decide +kernel
theorem dX4_readCell_58 : decode cX4_readCell 58 = .ok (.iconst 1, 1) := by decide +kernel
theorem dX4_readCell_59 : decode cX4_readCell 59 = .ok (.iadd, 1) := by decide +kernel
theorem dX4_readCell_60 : decode cX4_readCell 60 = .ok (.putfield 57, 3) := by decide +kernel
theorem dX4_readCell_63 : decode cX4_readCell 63 = .ok (.aload_n 0, 1) := by decide +kernel
theorem dX4_readCell_64 : decode cX4_readCell 64 = .ok (.bipush 59, 2) := by decide +kernel
theorem dX4_readCell_66 : decode cX4_readCell 66 = .ok (.invokevirtual 37, 3) := by decide +kernel
theorem dX4_readCell_69 : decode cX4_readCell 69 = .ok (.ireturn, 1) := by decide +kernel
theorem dX4_readPins_0 : decode cX4_readPins 0 = .ok (.iconst 0, 1) := by decide +kernel
theorem dX4_readPins_1 : decode cX4_readPins 1 = .ok (.istore_n 2, 1) := by decide +kernel
theorem dX4_readPins_2 : decode cX4_readPins 2 = .ok (.iload_n 2, 1) := by decide +kernel
theorem dX4_readPins_3 : decode cX4_readPins 3 = .ok (.bipush 7, 2) := by decide +kernel
theorem dX4_readPins_5 : decode cX4_readPins 5 = .ok (.if_icmp .gt 30, 3) := by decide +kernel
theorem dX4_readPins_8 : decode cX4_readPins 8 = .ok (.aload_n 0, 1) := by decide +kernel
theorem dX4_readPins_9 : decode cX4_readPins 9 = .ok (.getfield 19, 3) := by decide +kernel
theorem dX4_readPins_12 : decode cX4_readPins 12 = .ok (.aload_n 0, 1) := by decide +kernel
theorem dX4_readPins_13 : decode cX4_readPins 13 = .ok (.getfield 15, 3) := by decide +kernel
theorem dX4_readPins_16 : decode cX4_readPins 16 = .ok (.if_icmp .ge 19, 3) := by decide +kernel
theorem dX4_readPins_19 : decode cX4_readPins 19 = .ok (.aload_n 0, 1) := by decide +kernel
theorem dX4_readPins_20 : decode cX4_readPins 20 = .ok (.aload_n 1, 1) := by decide +kernel
theorem dX4_readPins_21 : decode cX4_readPins 21 = .ok (.invokevirtual 66, 3) := by decide +kernel
theorem dX4_readPins_24 : decode cX4_readPins 24 = .ok (.ifCond .ne 5, 3) := by decide +kernel
theorem dX4_readPins_27 : decode cX4_readPins 27 = .ok (.iconst 0, 1) := by decide +kernel
theorem dX4_readPins_28 : decode cX4_readPins 28 = .ok (.ireturn, 1) := by decide +kernel
theorem dX4_readPins_29 : decode cX4_readPins 29 = .ok (.iinc 2 1, 3) := by decide +kernel
theorem dX4_readPins_32 : decode cX4_readPins 32 = .ok (.goto (-30), 3) := by decide +kernel
theorem dX4_readPins_35 : decode cX4_readPins 35 = .ok (.iconst 1, 1) := by decide +kernel
theorem dX4_readPins_36 : decode cX4_readPins 36 = .ok (.ireturn, 1) := by decide +kernel
theorem dX4_readPin_0 : decode cX4_readPin 0 = .ok (.aload_n 0, 1) := by decide +kernel
theorem dX4_readPin_1 : decode cX4_readPin 1 = .ok (.getfield 19, 3) := by decide +kernel
theorem dX4_readPin_4 : decode cX4_readPin 4 = .ok (.aload_n 0, 1) := by decide +kernel
theorem dX4_readPin_5 : decode cX4_readPin 5 = .ok (.getfield 15, 3) := by decide +kernel
theorem dX4_readPin_8 : decode cX4_readPin 8 = .ok (.if_icmp .ge 18, 3) := by decide +kernel
theorem dX4_readPin_11 : decode cX4_readPin 11 = .ok (.aload_n 0, 1) := by decide +kernel
theorem dX4_readPin_12 : decode cX4_readPin 12 = .ok (.getfield 9, 3) := by decide +kernel
theorem dX4_readPin_15 : decode cX4_readPin 15 = .ok (.aload_n 0, 1) := by decide +kernel
theorem dX4_readPin_16 : decode cX4_readPin 16 = .ok (.getfield 19, 3) := by decide +kernel
theorem dX4_readPin_19 : decode cX4_readPin 19 = .ok (.iaload, 1) := by decide +kernel
theorem dX4_readPin_20 : decode cX4_readPin 20 = .ok (.invokestatic 69, 3) := by decide +kernel
theorem dX4_readPin_23 : decode cX4_readPin 23 = .ok (.goto 4, 3) := by decide +kernel
theorem dX4_readPin_26 : decode cX4_readPin 26 = .ok (.iconst 0, 1) := by decide +kernel
theorem dX4_readPin_27 : decode cX4_readPin 27 = .ok (.istore_n 2, 1) := by decide +kernel
theorem dX4_readPin_28 : decode cX4_readPin 28 = .ok (.iload_n 2, 1) := by decide +kernel
theorem dX4_readPin_29 : decode cX4_readPin 29 = .ok (.ifCond .ne 13, 3) := by decide +kernel
theorem dX4_readPin_32 : decode cX4_readPin 32 = .ok (.aload_n 0, 1) := by decide +kernel
theorem dX4_readPin_33 : decode cX4_readPin 33 = .ok (.aload_n 0, 1) := by decide +kernel
theorem dX4_readPin_34 : decode cX4_readPin 34 = .ok (.getfield 19, 3) := by decide +kernel
theorem dX4_readPin_37 : decode cX4_readPin 37 = .ok (.iconst 1, 1) := by decide +kernel
theorem dX4_readPin_38 : decode cX4_readPin 38 = .ok (.invokevirtual 60, 3) := by decide +kernel
theorem dX4_readPin_41 : decode cX4_readPin 41 = .ok (.ireturn, 1) := by decide +kernel
theorem dX4_readPin_42 : decode cX4_readPin 42 = .ok (.aload_n 1, 1) := by decide +kernel
theorem dX4_readPin_43 : decode cX4_readPin 43 = .ok (.getfield 73, 3) := by decide +kernel
theorem dX4_readPin_46 : decode cX4_readPin 46 = .ok (.bipush 7, 2) := by decide +kernel
theorem dX4_readPin_48 : decode cX4_readPin 48 = .ok (.if_icmp .lt 13, 3) := by decide +kernel
theorem dX4_readPin_51 : decode cX4_readPin 51 = .ok (.aload_n 0, 1) := by decide +kernel
theorem dX4_readPin_52 : decode cX4_readPin 52 = .ok (.aload_n 0, 1) := by decide +kernel
theorem dX4_readPin_53 : decode cX4_readPin 53 = .ok (.getfield 19, 3) := by decide +kernel
theorem dX4_readPin_56 : decode cX4_readPin 56 = .ok (.iconst 3, 1) := by decide +kernel
theorem dX4_readPin_57 : decode cX4_readPin 57 = .ok (.invokevirtual 60, 3) := by decide +kernel
theorem dX4_readPin_60 : decode cX4_readPin 60 = .ok (.ireturn, 1) := by decide +kernel
theorem dX4_readPin_61 : decode cX4_readPin 61 = .ok (.aload_n 0, 1) := by decide +kernel
theorem dX4_readPin_62 : decode cX4_readPin 62 = .ok (.dup, 1) := by decide +kernel
theorem dX4_readPin_63 : decode cX4_readPin 63 = .ok (.getfield 19, 3) := by decide +kernel
theorem dX4_readPin_66 : decode cX4_readPin 66 = .ok (.iconst 1, 1) := by decide +kernel
theorem dX4_readPin_67 : decode cX4_readPin 67 = .ok (.iadd, 1) := by decide +kernel
theorem dX4_readPin_68 : decode cX4_readPin 68 = .ok (.putfield 19, 3) := by decide +kernel
theorem dX4_readPin_71 : decode cX4_readPin 71 = .ok (.aload_n 1, 1) := by decide +kernel
theorem dX4_readPin_72 : decode cX4_readPin 72 = .ok (.getfield 73, 3) := by decide +kernel
theorem dX4_readPin_75 : decode cX4_readPin 75 = .ok (.istore_n 3, 1) := by decide +kernel
theorem dX4_readPin_76 : decode cX4_readPin 76 = .ok (.aload_n 1, 1) := by decide +kernel
theorem dX4_readPin_77 : decode cX4_readPin 77 = .ok (.getfield 76, 3) := by decide +kernel
theorem dX4_readPin_80 : decode cX4_readPin 80 = .ok (.iload_n 3, 1) := by decide +kernel
theorem dX4_readPin_81 : decode cX4_readPin 81 = .ok (.iload_n 2, 1) := by decide +kernel
theorem dX4_readPin_82 : decode cX4_readPin 82 = .ok (.iastore, 1) := by decide +kernel
theorem dX4_readPin_83 : decode cX4_readPin 83 = .ok (.aload_n 0, 1) := by decide +kernel
theorem dX4_readPin_84 : decode cX4_readPin 84 = .ok (.aload_n 1, 1) := by decide +kernel
theorem dX4_readPin_85 : decode cX4_readPin 85 = .ok (.invokevirtual 79, 3) := by decide +kernel
theorem dX4_readPin_88 : decode cX4_readPin 88 = .ok (.ifCond .eq 22, 3) := by decide +kernel
theorem dX4_readPin_91 : decode cX4_readPin 91 = .ok (.aload_n 0, 1) := by decide +kernel
theorem dX4_readPin_92 : decode cX4_readPin 92 = .ok (.bipush 44, 2) := by decide +kernel
theorem dX4_readPin_94 : decode cX4_readPin 94 = .ok (.invokevirtual 37, 3) := by decide +kernel
theorem dX4_readPin_97 : decode cX4_readPin 97 = .ok (.ifCond .eq 13, 3) := by decide +kernel
theorem dX4_readPin_100 : decode cX4_readPin 100 = .ok (.aload_n 0, 1) := by decide +kernel
theorem dX4_readPin_101 : decode cX4_readPin 101 = .ok (.iconst 1, 1) := by decide +kernel
theorem dX4_readPin_102 : decode cX4_readPin 102 = .ok (.bipush 9, 2) := by decide +kernel
theorem dX4_readPin_104 : decode cX4_readPin 104 = .ok (.invokevirtual 41, 3) := by decide +kernel
theorem dX4_readPin_107 : decode cX4_readPin 107 = .ok (.ifCond .ne 5, 3) := by decide +kernel
theorem dX4_readPin_110 : decode cX4_readPin 110 = .ok (.iconst 0, 1) := by decide +kernel
theorem dX4_readPin_111 : decode cX4_readPin 111 = .ok (.ireturn, 1) := by decide +kernel
theorem dX4_readPin_112 : decode cX4_readPin 112 = .ok (.aload_n 1, 1) := by decide +kernel
theorem dX4_readPin_113 : decode cX4_readPin 113 = .ok (.getfield 82, 3) := by decide +kernel
theorem dX4_readPin_116 : decode cX4_readPin 116 = .ok (.iload_n 3, 1) := by decide +kernel
theorem dX4_readPin_117 : decode cX4_readPin 117 = .ok (.aload_n 0, 1) := by decide +kernel
theorem dX4_readPin_118 : decode cX4_readPin 118 = .ok (.getfield 45, 3) := by decide +kernel
theorem dX4_readPin_121 : decode cX4_readPin 121 = .ok (.iastore, 1) := by decide +kernel
theorem dX4_readPin_122 : decode cX4_readPin 122 = .ok (.aload_n 0, 1) := by decide +kernel
theorem dX4_readPin_123 : decode cX4_readPin 123 = .ok (.bipush 44, 2) := by decide +kernel
theorem dX4_readPin_125 : decode cX4_readPin 125 = .ok (.invokevirtual 37, 3) := by decide +kernel
theorem dX4_readPin_128 : decode cX4_readPin 128 = .ok (.ifCond .eq 12, 3) := by decide +kernel
theorem dX4_readPin_131 : decode cX4_readPin 131 = .ok (.aload_n 0, 1) := by decide +kernel
theorem dX4_readPin_132 : decode cX4_readPin 132 = .ok (.iconst 0, 1) := by decide +kernel
theorem dX4_readPin_133 : decode cX4_readPin 133 = .ok (.iconst 3, 1) := by decide +kernel
theorem dX4_readPin_134 : decode cX4_readPin 134 = .ok (.invokevirtual 41, 3) := by decide +kernel
theorem dX4_readPin_137 : decode cX4_readPin 137 = .ok (.ifCond .ne 5, 3) := by decide +kernel
theorem dX4_readPin_140 : decode cX4_readPin 140 = .ok (.iconst 0, 1) := by decide +kernel
theorem dX4_readPin_141 : decode cX4_readPin 141 = .ok (.ireturn, 1) := by decide +kernel
theorem dX4_readPin_142 : decode cX4_readPin 142 = .ok (.aload_n 1, 1) := by decide +kernel
theorem dX4_readPin_143 : decode cX4_readPin 143 = .ok (.getfield 85, 3) := by decide +kernel
theorem dX4_readPin_146 : decode cX4_readPin 146 = .ok (.iload_n 3, 1) := by decide +kernel
theorem dX4_readPin_147 : decode cX4_readPin 147 = .ok (.aload_n 0, 1) := by decide +kernel
theorem dX4_readPin_148 : decode cX4_readPin 148 = .ok (.getfield 45, 3) := by decide +kernel
theorem dX4_readPin_151 : decode cX4_readPin 151 = .ok (.iastore, 1) := by decide +kernel
theorem dX4_readPin_152 : decode cX4_readPin 152 = .ok (.aload_n 1, 1) := by decide +kernel
theorem dX4_readPin_153 : decode cX4_readPin 153 = .ok (.dup, 1) := by decide +kernel
theorem dX4_readPin_154 : decode cX4_readPin 154 = .ok (.getfield 73, 3) := by decide +kernel
theorem dX4_readPin_157 : decode cX4_readPin 157 = .ok (.iconst 1, 1) := by decide +kernel
theorem dX4_readPin_158 : decode cX4_readPin 158 = .ok (.iadd, 1) := by decide +kernel
theorem dX4_readPin_159 : decode cX4_readPin 159 = .ok (.putfield 73, 3) := by decide +kernel
theorem dX4_readPin_162 : decode cX4_readPin 162 = .ok (.aload_n 0, 1) := by decide +kernel
theorem dX4_readPin_163 : decode cX4_readPin 163 = .ok (.bipush 59, 2) := by decide +kernel
theorem dX4_readPin_165 : decode cX4_readPin 165 = .ok (.invokevirtual 37, 3) := by decide +kernel
theorem dX4_readPin_168 : decode cX4_readPin 168 = .ok (.ireturn, 1) := by decide +kernel
theorem dX4_readHome_0 : decode cX4_readHome 0 = .ok (.aload_n 0, 1) := by decide +kernel
theorem dX4_readHome_1 : decode cX4_readHome 1 = .ok (.getfield 19, 3) := by decide +kernel
theorem dX4_readHome_4 : decode cX4_readHome 4 = .ok (.istore_n 2, 1) := by decide +kernel
theorem dX4_readHome_5 : decode cX4_readHome 5 = .ok (.aload_n 0, 1) := by decide +kernel
theorem dX4_readHome_6 : decode cX4_readHome 6 = .ok (.iconst 0, 1) := by decide +kernel
theorem dX4_readHome_7 : decode cX4_readHome 7 = .ok (.aload_n 1, 1) := by decide +kernel
theorem dX4_readHome_8 : decode cX4_readHome 8 = .ok (.getfield 57, 3) := by decide +kernel
theorem dX4_readHome_11 : decode cX4_readHome 11 = .ok (.iconst 1, 1) := by decide +kernel
theorem dX4_readHome_12 : decode cX4_readHome 12 = .ok (.isub, 1) := by decide +kernel
theorem dX4_readHome_13 : decode cX4_readHome 13 = .ok (.invokevirtual 41, 3) := by decide +kernel
theorem dX4_readHome_16 : decode cX4_readHome 16 = .ok (.ifCond .ne 5, 3) := by decide +kernel
theorem dX4_readHome_19 : decode cX4_readHome 19 = .ok (.iconst 0, 1) := by decide +kernel
theorem dX4_readHome_20 : decode cX4_readHome 20 = .ok (.ireturn, 1) := by decide +kernel
theorem dX4_readHome_21 : decode cX4_readHome 21 = .ok (.aload_n 1, 1) := by decide +kernel
theorem dX4_readHome_22 : decode cX4_readHome 22 = .ok (.aload_n 0, 1) := by decide +kernel
theorem dX4_readHome_23 : decode cX4_readHome 23 = .ok (.getfield 45, 3) := by decide +kernel
theorem dX4_readHome_26 : decode cX4_readHome 26 = .ok (.invokevirtual 88, 3) := by decide +kernel
theorem dX4_readHome_29 : decode cX4_readHome 29 = .ok (.ldc 91, 2) := by decide +kernel
theorem dX4_readHome_31 : decode cX4_readHome 31 = .ok (.if_icmp .eq 10, 3) := by decide +kernel
theorem dX4_readHome_34 : decode cX4_readHome 34 = .ok (.aload_n 0, 1) := by decide +kernel
theorem dX4_readHome_35 : decode cX4_readHome 35 = .ok (.iload_n 2, 1) := by decide +kernel
theorem dX4_readHome_36 : decode cX4_readHome 36 = .ok (.iconst 2, 1) := by decide +kernel
theorem dX4_readHome_37 : decode cX4_readHome 37 = .ok (.invokevirtual 60, 3) := by decide +kernel
theorem dX4_readHome_40 : decode cX4_readHome 40 = .ok (.ireturn, 1) := by decide +kernel
theorem dX4_readHome_41 : decode cX4_readHome 41 = .ok (.aload_n 1, 1) := by decide +kernel
theorem dX4_readHome_42 : decode cX4_readHome 42 = .ok (.getfield 92, 3) := by decide +kernel
theorem dX4_readHome_45 : decode cX4_readHome 45 = .ok (.aload_n 1, 1) := by decide +kernel
theorem dX4_readHome_46 : decode cX4_readHome 46 = .ok (.getfield 73, 3) := by decide +kernel
theorem dX4_readHome_49 : decode cX4_readHome 49 = .ok (.aload_n 0, 1) := by decide +kernel
theorem dX4_readHome_50 : decode cX4_readHome 50 = .ok (.getfield 45, 3) := by decide +kernel
theorem dX4_readHome_53 : decode cX4_readHome 53 = .ok (.iastore, 1) := by decide +kernel
theorem dX4_readHome_54 : decode cX4_readHome 54 = .ok (.aload_n 1, 1) := by decide +kernel
theorem dX4_readHome_55 : decode cX4_readHome 55 = .ok (.getfield 95, 3) := by decide +kernel
theorem dX4_readHome_58 : decode cX4_readHome 58 = .ok (.aload_n 1, 1) := by decide +kernel
theorem dX4_readHome_59 : decode cX4_readHome 59 = .ok (.getfield 73, 3) := by decide +kernel
theorem dX4_readHome_62 : decode cX4_readHome 62 = .ok (.aload_n 0, 1) := by decide +kernel
theorem dX4_readHome_63 : decode cX4_readHome 63 = .ok (.getfield 45, 3) := by decide +kernel
theorem dX4_readHome_66 : decode cX4_readHome 66 = .ok (.iastore, 1) := by decide +kernel
theorem dX4_readHome_67 : decode cX4_readHome 67 = .ok (.iconst 1, 1) := by decide +kernel
theorem dX4_readHome_68 : decode cX4_readHome 68 = .ok (.ireturn, 1) := by decide +kernel
theorem dX4_kindOf_0 : decode cX4_kindOf 0 = .ok (.iload_n 0, 1) := by decide +kernel
theorem dX4_kindOf_1 : decode cX4_kindOf 1 = .ok (.lookupswitch 61 #[(97, 51), (111, 57), (114, 55), (115, 53), (119, 59)], 51) := by decide +kernel
theorem dX4_kindOf_52 : decode cX4_kindOf 52 = .ok (.iconst 1, 1) := by decide +kernel
theorem dX4_kindOf_53 : decode cX4_kindOf 53 = .ok (.ireturn, 1) := by decide +kernel
theorem dX4_kindOf_54 : decode cX4_kindOf 54 = .ok (.iconst 2, 1) := by decide +kernel
theorem dX4_kindOf_55 : decode cX4_kindOf 55 = .ok (.ireturn, 1) := by decide +kernel
theorem dX4_kindOf_56 : decode cX4_kindOf 56 = .ok (.iconst 3, 1) := by decide +kernel
theorem dX4_kindOf_57 : decode cX4_kindOf 57 = .ok (.ireturn, 1) := by decide +kernel
theorem dX4_kindOf_58 : decode cX4_kindOf 58 = .ok (.iconst 4, 1) := by decide +kernel
theorem dX4_kindOf_59 : decode cX4_kindOf 59 = .ok (.ireturn, 1) := by decide +kernel
theorem dX4_kindOf_60 : decode cX4_kindOf 60 = .ok (.iconst 5, 1) := by decide +kernel
theorem dX4_kindOf_61 : decode cX4_kindOf 61 = .ok (.ireturn, 1) := by decide +kernel
theorem dX4_kindOf_62 : decode cX4_kindOf 62 = .ok (.iconst 0, 1) := by decide +kernel
theorem dX4_kindOf_63 : decode cX4_kindOf 63 = .ok (.ireturn, 1) := by decide +kernel
theorem dX4_isNext_0 : decode cX4_isNext 0 = .ok (.aload_n 0, 1) := by decide +kernel
theorem dX4_isNext_1 : decode cX4_isNext 1 = .ok (.getfield 19, 3) := by decide +kernel
theorem dX4_isNext_4 : decode cX4_isNext 4 = .ok (.aload_n 0, 1) := by decide +kernel
theorem dX4_isNext_5 : decode cX4_isNext 5 = .ok (.getfield 15, 3) := by decide +kernel
theorem dX4_isNext_8 : decode cX4_isNext 8 = .ok (.if_icmp .ge 20, 3) := by decide +kernel
theorem dX4_isNext_11 : decode cX4_isNext 11 = .ok (.aload_n 0, 1) := by decide +kernel
theorem dX4_isNext_12 : decode cX4_isNext 12 = .ok (.getfield 9, 3) := by decide +kernel
theorem dX4_isNext_15 : decode cX4_isNext 15 = .ok (.aload_n 0, 1) := by decide +kernel
theorem dX4_isNext_16 : decode cX4_isNext 16 = .ok (.getfield 19, 3) := by decide +kernel
theorem dX4_isNext_19 : decode cX4_isNext 19 = .ok (.iaload, 1) := by decide +kernel
theorem dX4_isNext_20 : decode cX4_isNext 20 = .ok (.iload_n 1, 1) := by decide +kernel
theorem dX4_isNext_21 : decode cX4_isNext 21 = .ok (.if_icmp .ne 7, 3) := by decide +kernel
theorem dX4_isNext_24 : decode cX4_isNext 24 = .ok (.iconst 1, 1) := by decide +kernel
theorem dX4_isNext_25 : decode cX4_isNext 25 = .ok (.goto 4, 3) := by decide +kernel
theorem dX4_isNext_28 : decode cX4_isNext 28 = .ok (.iconst 0, 1) := by decide +kernel
theorem dX4_isNext_29 : decode cX4_isNext 29 = .ok (.ireturn, 1) := by decide +kernel
theorem dX4_takes_0 : decode cX4_takes 0 = .ok (.aload_n 0, 1) := by decide +kernel
theorem dX4_takes_1 : decode cX4_takes 1 = .ok (.iload_n 1, 1) := by decide +kernel
theorem dX4_takes_2 : decode cX4_takes 2 = .ok (.invokevirtual 51, 3) := by decide +kernel
theorem dX4_takes_5 : decode cX4_takes 5 = .ok (.ifCond .ne 13, 3) := by decide +kernel
theorem dX4_takes_8 : decode cX4_takes 8 = .ok (.aload_n 0, 1) := by decide +kernel
theorem dX4_takes_9 : decode cX4_takes 9 = .ok (.aload_n 0, 1) := by decide +kernel
theorem dX4_takes_10 : decode cX4_takes 10 = .ok (.getfield 19, 3) := by decide +kernel
theorem dX4_takes_13 : decode cX4_takes 13 = .ok (.iconst 1, 1) := by decide +kernel
theorem dX4_takes_14 : decode cX4_takes 14 = .ok (.invokevirtual 60, 3) := by decide +kernel
theorem dX4_takes_17 : decode cX4_takes 17 = .ok (.ireturn, 1) := by decide +kernel
theorem dX4_takes_18 : decode cX4_takes 18 = .ok (.aload_n 0, 1) := by decide +kernel
theorem dX4_takes_19 : decode cX4_takes 19 = .ok (.dup, 1) := by decide +kernel
theorem dX4_takes_20 : decode cX4_takes 20 = .ok (.getfield 19, 3) := by decide +kernel
theorem dX4_takes_23 : decode cX4_takes 23 = .ok (.iconst 1, 1) := by decide +kernel
theorem dX4_takes_24 : decode cX4_takes 24 = .ok (.iadd, 1) := by decide +kernel
theorem dX4_takes_25 : decode cX4_takes 25 = .ok (.putfield 19, 3) := by decide +kernel
theorem dX4_takes_28 : decode cX4_takes 28 = .ok (.iconst 1, 1) := by decide +kernel
theorem dX4_takes_29 : decode cX4_takes 29 = .ok (.ireturn, 1) := by decide +kernel
theorem dX4_takesNumber_0 : decode cX4_takesNumber 0 = .ok (.aload_n 0, 1) := by decide +kernel
theorem dX4_takesNumber_1 : decode cX4_takesNumber 1 = .ok (.getfield 19, 3) := by decide +kernel
theorem dX4_takesNumber_4 : decode cX4_takesNumber 4 = .ok (.istore_n 3, 1) := by decide +kernel
theorem dX4_takesNumber_5 : decode cX4_takesNumber 5 = .ok (.aload_n 0, 1) := by decide +kernel
theorem dX4_takesNumber_6 : decode cX4_takesNumber 6 = .ok (.iconst 0, 1) := by decide +kernel
theorem dX4_takesNumber_7 : decode cX4_takesNumber 7 = .ok (.putfield 45, 3) := by decide +kernel
theorem dX4_takesNumber_10 : decode cX4_takesNumber 10 = .ok (.iconst 0, 1) := by decide +kernel
theorem dX4_takesNumber_11 : decode cX4_takesNumber 11 = .ok (.istore 4, 2) := by decide +kernel
theorem dX4_takesNumber_13 : decode cX4_takesNumber 13 = .ok (.iload 4, 2) := by decide +kernel
theorem dX4_takesNumber_15 : decode cX4_takesNumber 15 = .ok (.iconst 3, 1) := by decide +kernel
theorem dX4_takesNumber_16 : decode cX4_takesNumber 16 = .ok (.if_icmp .ge 73, 3) := by decide +kernel
theorem dX4_takesNumber_19 : decode cX4_takesNumber 19 = .ok (.aload_n 0, 1) := by decide +kernel
theorem dX4_takesNumber_20 : decode cX4_takesNumber 20 = .ok (.getfield 19, 3) := by decide +kernel
theorem dX4_takesNumber_23 : decode cX4_takesNumber 23 = .ok (.aload_n 0, 1) := by decide +kernel
theorem dX4_takesNumber_24 : decode cX4_takesNumber 24 = .ok (.getfield 15, 3) := by decide +kernel
theorem dX4_takesNumber_27 : decode cX4_takesNumber 27 = .ok (.if_icmp .ge 62, 3) := by decide +kernel
theorem dX4_takesNumber_30 : decode cX4_takesNumber 30 = .ok (.aload_n 0, 1) := by decide +kernel
theorem dX4_takesNumber_31 : decode cX4_takesNumber 31 = .ok (.getfield 9, 3) := by decide +kernel
theorem dX4_takesNumber_34 : decode cX4_takesNumber 34 = .ok (.aload_n 0, 1) := by decide +kernel
theorem dX4_takesNumber_35 : decode cX4_takesNumber 35 = .ok (.getfield 19, 3) := by decide +kernel
theorem dX4_takesNumber_38 : decode cX4_takesNumber 38 = .ok (.iaload, 1) := by decide +kernel
theorem dX4_takesNumber_39 : decode cX4_takesNumber 39 = .ok (.bipush 48, 2) := by decide +kernel
theorem dX4_takesNumber_41 : decode cX4_takesNumber 41 = .ok (.bipush 57, 2) := by decide +kernel
theorem dX4_takesNumber_43 : decode cX4_takesNumber 43 = .ok (.invokestatic 98, 3) := by decide +kernel
theorem dX4_takesNumber_46 : decode cX4_takesNumber 46 = .ok (.ifCond .eq 43, 3) := by decide +kernel
theorem dX4_takesNumber_49 : decode cX4_takesNumber 49 = .ok (.aload_n 0, 1) := by decide +kernel
theorem dX4_takesNumber_50 : decode cX4_takesNumber 50 = .ok (.aload_n 0, 1) := by decide +kernel
theorem dX4_takesNumber_51 : decode cX4_takesNumber 51 = .ok (.getfield 45, 3) := by decide +kernel
theorem dX4_takesNumber_54 : decode cX4_takesNumber 54 = .ok (.bipush 10, 2) := by decide +kernel
theorem dX4_takesNumber_56 : decode cX4_takesNumber 56 = .ok (.imul, 1) := by decide +kernel
theorem dX4_takesNumber_57 : decode cX4_takesNumber 57 = .ok (.aload_n 0, 1) := by decide +kernel
theorem dX4_takesNumber_58 : decode cX4_takesNumber 58 = .ok (.getfield 9, 3) := by decide +kernel
theorem dX4_takesNumber_61 : decode cX4_takesNumber 61 = .ok (.aload_n 0, 1) := by decide +kernel
theorem dX4_takesNumber_62 : decode cX4_takesNumber 62 = .ok (.getfield 19, 3) := by decide +kernel
theorem dX4_takesNumber_65 : decode cX4_takesNumber 65 = .ok (.iaload, 1) := by decide +kernel
theorem dX4_takesNumber_66 : decode cX4_takesNumber 66 = .ok (.iadd, 1) := by decide +kernel
theorem dX4_takesNumber_67 : decode cX4_takesNumber 67 = .ok (.bipush 48, 2) := by decide +kernel
theorem dX4_takesNumber_69 : decode cX4_takesNumber 69 = .ok (.isub, 1) := by decide +kernel
theorem dX4_takesNumber_70 : decode cX4_takesNumber 70 = .ok (.putfield 45, 3) := by decide +kernel
theorem dX4_takesNumber_73 : decode cX4_takesNumber 73 = .ok (.aload_n 0, 1) := by decide +kernel
theorem dX4_takesNumber_74 : decode cX4_takesNumber 74 = .ok (.dup, 1) := by decide +kernel
theorem dX4_takesNumber_75 : decode cX4_takesNumber 75 = .ok (.getfield 19, 3) := by decide +kernel
theorem dX4_takesNumber_78 : decode cX4_takesNumber 78 = .ok (.iconst 1, 1) := by decide +kernel
theorem dX4_takesNumber_79 : decode cX4_takesNumber 79 = .ok (.iadd, 1) := by decide +kernel
theorem dX4_takesNumber_80 : decode cX4_takesNumber 80 = .ok (.putfield 19, 3) := by decide +kernel
theorem dX4_takesNumber_83 : decode cX4_takesNumber 83 = .ok (.iinc 4 1, 3) := by decide +kernel
theorem dX4_takesNumber_86 : decode cX4_takesNumber 86 = .ok (.goto (-73), 3) := by decide +kernel
theorem dX4_takesNumber_89 : decode cX4_takesNumber 89 = .ok (.aload_n 0, 1) := by decide +kernel
theorem dX4_takesNumber_90 : decode cX4_takesNumber 90 = .ok (.getfield 19, 3) := by decide +kernel
theorem dX4_takesNumber_93 : decode cX4_takesNumber 93 = .ok (.iload_n 3, 1) := by decide +kernel
theorem dX4_takesNumber_94 : decode cX4_takesNumber 94 = .ok (.isub, 1) := by decide +kernel
theorem dX4_takesNumber_95 : decode cX4_takesNumber 95 = .ok (.istore 4, 2) := by decide +kernel
theorem dX4_takesNumber_97 : decode cX4_takesNumber 97 = .ok (.iload 4, 2) := by decide +kernel
theorem dX4_takesNumber_99 : decode cX4_takesNumber 99 = .ok (.iconst 1, 1) := by decide +kernel
theorem dX4_takesNumber_100 : decode cX4_takesNumber 100 = .ok (.if_icmp .lt 9, 3) := by decide +kernel
theorem dX4_takesNumber_103 : decode cX4_takesNumber 103 = .ok (.iload 4, 2) := by decide +kernel
theorem dX4_takesNumber_105 : decode cX4_takesNumber 105 = .ok (.iconst 2, 1) := by decide +kernel
theorem dX4_takesNumber_106 : decode cX4_takesNumber 106 = .ok (.if_icmp .le 10, 3) := by decide +kernel
theorem dX4_takesNumber_109 : decode cX4_takesNumber 109 = .ok (.aload_n 0, 1) := by decide +kernel
theorem dX4_takesNumber_110 : decode cX4_takesNumber 110 = .ok (.iload_n 3, 1) := by decide +kernel
theorem dX4_takesNumber_111 : decode cX4_takesNumber 111 = .ok (.iconst 1, 1) := by decide +kernel
theorem dX4_takesNumber_112 : decode cX4_takesNumber 112 = .ok (.invokevirtual 60, 3) := by decide +kernel
theorem dX4_takesNumber_115 : decode cX4_takesNumber 115 = .ok (.ireturn, 1) := by decide +kernel
theorem dX4_takesNumber_116 : decode cX4_takesNumber 116 = .ok (.aload_n 0, 1) := by decide +kernel
theorem dX4_takesNumber_117 : decode cX4_takesNumber 117 = .ok (.getfield 45, 3) := by decide +kernel
theorem dX4_takesNumber_120 : decode cX4_takesNumber 120 = .ok (.iload_n 1, 1) := by decide +kernel
theorem dX4_takesNumber_121 : decode cX4_takesNumber 121 = .ok (.iload_n 2, 1) := by decide +kernel
theorem dX4_takesNumber_122 : decode cX4_takesNumber 122 = .ok (.invokestatic 98, 3) := by decide +kernel
theorem dX4_takesNumber_125 : decode cX4_takesNumber 125 = .ok (.ifCond .ne 12, 3) := by decide +kernel
theorem dX4_takesNumber_128 : decode cX4_takesNumber 128 = .ok (.aload_n 0, 1) := by decide +kernel
theorem dX4_takesNumber_129 : decode cX4_takesNumber 129 = .ok (.iload_n 3, 1) := by decide +kernel
theorem dX4_takesNumber_130 : decode cX4_takesNumber 130 = .ok (.iconst 2, 1) := by decide +kernel
theorem dX4_takesNumber_131 : decode cX4_takesNumber 131 = .ok (.invokevirtual 60, 3) := by decide +kernel
theorem dX4_takesNumber_134 : decode cX4_takesNumber 134 = .ok (.ifCond .eq 7, 3) := by decide +kernel
theorem dX4_takesNumber_137 : decode cX4_takesNumber 137 = .ok (.iconst 1, 1) := by decide +kernel
theorem dX4_takesNumber_138 : decode cX4_takesNumber 138 = .ok (.goto 4, 3) := by decide +kernel
theorem dX4_takesNumber_141 : decode cX4_takesNumber 141 = .ok (.iconst 0, 1) := by decide +kernel
theorem dX4_takesNumber_142 : decode cX4_takesNumber 142 = .ok (.ireturn, 1) := by decide +kernel
theorem dX4_faultAt_0 : decode cX4_faultAt 0 = .ok (.aload_n 0, 1) := by decide +kernel
theorem dX4_faultAt_1 : decode cX4_faultAt 1 = .ok (.iload_n 1, 1) := by decide +kernel
theorem dX4_faultAt_2 : decode cX4_faultAt 2 = .ok (.putfield 102, 3) := by decide +kernel
theorem dX4_faultAt_5 : decode cX4_faultAt 5 = .ok (.aload_n 0, 1) := by decide +kernel
theorem dX4_faultAt_6 : decode cX4_faultAt 6 = .ok (.iload_n 2, 1) := by decide +kernel
theorem dX4_faultAt_7 : decode cX4_faultAt 7 = .ok (.putfield 105, 3) := by decide +kernel
theorem dX4_faultAt_10 : decode cX4_faultAt 10 = .ok (.iconst 0, 1) := by decide +kernel
theorem dX4_faultAt_11 : decode cX4_faultAt 11 = .ok (.ireturn, 1) := by decide +kernel
theorem dX5_init_0 : decode cX5_init 0 = .ok (.aload_n 0, 1) := by decide +kernel
theorem dX5_init_1 : decode cX5_init 1 = .ok (.invokespecial 3, 3) := by decide +kernel
theorem dX5_init_4 : decode cX5_init 4 = .ok (.aload_n 0, 1) := by decide +kernel
theorem dX5_init_5 : decode cX5_init 5 = .ok (.bipush 8, 2) := by decide +kernel
theorem dX5_init_7 : decode cX5_init 7 = .ok (.newarray .int, 2) := by decide +kernel
theorem dX5_init_9 : decode cX5_init 9 = .ok (.putfield 9, 3) := by decide +kernel
theorem dX5_init_12 : decode cX5_init 12 = .ok (.aload_n 0, 1) := by decide +kernel
theorem dX5_init_13 : decode cX5_init 13 = .ok (.bipush 8, 2) := by decide +kernel
theorem dX5_init_15 : decode cX5_init 15 = .ok (.newarray .int, 2) := by decide +kernel
theorem dX5_init_17 : decode cX5_init 17 = .ok (.putfield 15, 3) := by decide +kernel
theorem dX5_init_20 : decode cX5_init 20 = .ok (.aload_n 0, 1) := by decide +kernel
theorem dX5_init_21 : decode cX5_init 21 = .ok (.bipush 8, 2) := by decide +kernel
theorem dX5_init_23 : decode cX5_init 23 = .ok (.bipush 40, 2) := by decide +kernel
theorem dX5_init_25 : decode cX5_init 25 = .ok (.multianewarray 18 2, 4) := by decide +kernel
theorem dX5_init_29 : decode cX5_init 29 = .ok (.putfield 20, 3) := by decide +kernel
theorem dX5_init_32 : decode cX5_init 32 = .ok (.iconst 0, 1) := by decide +kernel
theorem dX5_init_33 : decode cX5_init 33 = .ok (.istore_n 1, 1) := by decide +kernel
theorem dX5_init_34 : decode cX5_init 34 = .ok (.iload_n 1, 1) := by decide +kernel
theorem dX5_init_35 : decode cX5_init 35 = .ok (.bipush 8, 2) := by decide +kernel
theorem dX5_init_37 : decode cX5_init 37 = .ok (.if_icmp .ge 16, 3) := by decide +kernel
theorem dX5_init_40 : decode cX5_init 40 = .ok (.aload_n 0, 1) := by decide +kernel
theorem dX5_init_41 : decode cX5_init 41 = .ok (.getfield 9, 3) := by decide +kernel
theorem dX5_init_44 : decode cX5_init 44 = .ok (.iload_n 1, 1) := by decide +kernel
theorem dX5_init_45 : decode cX5_init 45 = .ok (.iconst (-1), 1) := by decide +kernel
theorem dX5_init_46 : decode cX5_init 46 = .ok (.iastore, 1) := by decide +kernel
theorem dX5_init_47 : decode cX5_init 47 = .ok (.iinc 1 1, 3) := by decide +kernel
theorem dX5_init_50 : decode cX5_init 50 = .ok (.goto (-16), 3) := by decide +kernel
theorem dX5_init_53 : decode cX5_init 53 = .ok (.return_, 1) := by decide +kernel
theorem dX5_isRow_0 : decode cX5_isRow 0 = .ok (.iload_n 1, 1) := by decide +kernel
theorem dX5_isRow_1 : decode cX5_isRow 1 = .ok (.iconst 0, 1) := by decide +kernel
theorem dX5_isRow_2 : decode cX5_isRow 2 = .ok (.bipush 7, 2) := by decide +kernel
theorem dX5_isRow_4 : decode cX5_isRow 4 = .ok (.invokestatic 23, 3) := by decide +kernel
theorem dX5_isRow_7 : decode cX5_isRow 7 = .ok (.ireturn, 1) := by decide +kernel
theorem dX5_isMissing_0 : decode cX5_isMissing 0 = .ok (.aload_n 0, 1) := by decide +kernel
theorem dX5_isMissing_1 : decode cX5_isMissing 1 = .ok (.getfield 9, 3) := by decide +kernel
theorem dX5_isMissing_4 : decode cX5_isMissing 4 = .ok (.iload_n 1, 1) := by decide +kernel
theorem dX5_isMissing_5 : decode cX5_isMissing 5 = .ok (.iaload, 1) := by decide +kernel
theorem dX5_isMissing_6 : decode cX5_isMissing 6 = .ok (.iconst (-1), 1) := by decide +kernel
theorem dX5_isMissing_7 : decode cX5_isMissing 7 = .ok (.if_icmp .ne 7, 3) := by decide +kernel
theorem dX5_isMissing_10 : decode cX5_isMissing 10 = .ok (.iconst 1, 1) := by decide +kernel
theorem dX5_isMissing_11 : decode cX5_isMissing 11 = .ok (.goto 4, 3) := by decide +kernel
theorem dX5_isMissing_14 : decode cX5_isMissing 14 = .ok (.iconst 0, 1) := by decide +kernel
theorem dX5_isMissing_15 : decode cX5_isMissing 15 = .ok (.ireturn, 1) := by decide +kernel
theorem dX5_hasPlaces_0 : decode cX5_hasPlaces 0 = .ok (.iload_n 3, 1) := by decide +kernel
theorem dX5_hasPlaces_1 : decode cX5_hasPlaces 1 = .ok (.ifCond .lt 23, 3) := by decide +kernel
theorem dX5_hasPlaces_4 : decode cX5_hasPlaces 4 = .ok (.iload_n 2, 1) := by decide +kernel
theorem dX5_hasPlaces_5 : decode cX5_hasPlaces 5 = .ok (.ifCond .lt 19, 3) := by decide +kernel
theorem dX5_hasPlaces_8 : decode cX5_hasPlaces 8 = .ok (.iload_n 2, 1) := by decide +kernel
theorem dX5_hasPlaces_9 : decode cX5_hasPlaces 9 = .ok (.aload_n 0, 1) := by decide +kernel
theorem dX5_hasPlaces_10 : decode cX5_hasPlaces 10 = .ok (.getfield 15, 3) := by decide +kernel
theorem dX5_hasPlaces_13 : decode cX5_hasPlaces 13 = .ok (.iload_n 1, 1) := by decide +kernel
theorem dX5_hasPlaces_14 : decode cX5_hasPlaces 14 = .ok (.iaload, 1) := by decide +kernel
theorem dX5_hasPlaces_15 : decode cX5_hasPlaces 15 = .ok (.iload_n 3, 1) := by decide +kernel
theorem dX5_hasPlaces_16 : decode cX5_hasPlaces 16 = .ok (.isub, 1) := by decide +kernel
theorem dX5_hasPlaces_17 : decode cX5_hasPlaces 17 = .ok (.if_icmp .gt 7, 3) := by decide +kernel
theorem dX5_hasPlaces_20 : decode cX5_hasPlaces 20 = .ok (.iconst 1, 1) := by decide +kernel
theorem dX5_hasPlaces_21 : decode cX5_hasPlaces 21 = .ok (.goto 4, 3) := by decide +kernel
theorem dX5_hasPlaces_24 : decode cX5_hasPlaces 24 = .ok (.iconst 0, 1) := by decide +kernel
theorem dX5_hasPlaces_25 : decode cX5_hasPlaces 25 = .ok (.ireturn, 1) := by decide +kernel
theorem dX5_lay_0 : decode cX5_lay 0 = .ok (.aload_n 0, 1) := by decide +kernel
theorem dX5_lay_1 : decode cX5_lay 1 = .ok (.getfield 9, 3) := by decide +kernel
theorem dX5_lay_4 : decode cX5_lay 4 = .ok (.iload_n 1, 1) := by decide +kernel
theorem dX5_lay_5 : decode cX5_lay 5 = .ok (.iload_n 2, 1) := by decide +kernel
theorem dX5_lay_6 : decode cX5_lay 6 = .ok (.iastore, 1) := by decide +kernel
theorem dX5_lay_7 : decode cX5_lay 7 = .ok (.aload_n 0, 1) := by decide +kernel
theorem dX5_lay_8 : decode cX5_lay 8 = .ok (.getfield 15, 3) := by decide +kernel
theorem dX5_lay_11 : decode cX5_lay 11 = .ok (.iload_n 1, 1) := by decide +kernel
theorem dX5_lay_12 : decode cX5_lay 12 = .ok (.iload_n 3, 1) := by decide +kernel
theorem dX5_lay_13 : decode cX5_lay 13 = .ok (.iastore, 1) := by decide +kernel
theorem dX5_lay_14 : decode cX5_lay 14 = .ok (.iconst 0, 1) := by decide +kernel
theorem dX5_lay_15 : decode cX5_lay 15 = .ok (.istore 4, 2) := by decide +kernel
theorem dX5_lay_17 : decode cX5_lay 17 = .ok (.iload 4, 2) := by decide +kernel
theorem dX5_lay_19 : decode cX5_lay 19 = .ok (.bipush 40, 2) := by decide +kernel
theorem dX5_lay_21 : decode cX5_lay 21 = .ok (.if_icmp .ge 19, 3) := by decide +kernel
theorem dX5_lay_24 : decode cX5_lay 24 = .ok (.aload_n 0, 1) := by decide +kernel
theorem dX5_lay_25 : decode cX5_lay 25 = .ok (.getfield 20, 3) := by decide +kernel
theorem dX5_lay_28 : decode cX5_lay 28 = .ok (.iload_n 1, 1) := by decide +kernel
theorem dX5_lay_29 : decode cX5_lay 29 = .ok (.aaload, 1) := by decide +kernel
theorem dX5_lay_30 : decode cX5_lay 30 = .ok (.iload 4, 2) := by decide +kernel
theorem dX5_lay_32 : decode cX5_lay 32 = .ok (.iconst 0, 1) := by decide +kernel
theorem dX5_lay_33 : decode cX5_lay 33 = .ok (.iastore, 1) := by decide +kernel
theorem dX5_lay_34 : decode cX5_lay 34 = .ok (.iinc 4 1, 3) := by decide +kernel
theorem dX5_lay_37 : decode cX5_lay 37 = .ok (.goto (-20), 3) := by decide +kernel
theorem dX5_lay_40 : decode cX5_lay 40 = .ok (.return_, 1) := by decide +kernel
theorem dX5_put_0 : decode cX5_put 0 = .ok (.iload_n 3, 1) := by decide +kernel
theorem dX5_put_1 : decode cX5_put 1 = .ok (.istore 4, 2) := by decide +kernel
theorem dX5_put_3 : decode cX5_put 3 = .ok (.aload_n 0, 1) := by decide +kernel
theorem dX5_put_4 : decode cX5_put 4 = .ok (.getfield 9, 3) := by decide +kernel
theorem dX5_put_7 : decode cX5_put 7 = .ok (.iload_n 1, 1) := by decide +kernel
theorem dX5_put_8 : decode cX5_put 8 = .ok (.iaload, 1) := by decide +kernel
theorem dX5_put_9 : decode cX5_put 9 = .ok (.ifCond .ne 10, 3) := by decide +kernel
theorem dX5_put_12 : decode cX5_put 12 = .ok (.iload_n 3, 1) := by decide +kernel
theorem dX5_put_13 : decode cX5_put 13 = .ok (.i2b, 1) := by decide +kernel
theorem dX5_put_14 : decode cX5_put 14 = .ok (.istore 4, 2) := by decide +kernel
theorem dX5_put_16 : decode cX5_put 16 = .ok (.goto 17, 3) := by decide +kernel
theorem dX5_put_19 : decode cX5_put 19 = .ok (.aload_n 0, 1) := by decide +kernel
theorem dX5_put_20 : decode cX5_put 20 = .ok (.getfield 9, 3) := by decide +kernel
theorem dX5_put_23 : decode cX5_put 23 = .ok (.iload_n 1, 1) := by decide +kernel
theorem dX5_put_24 : decode cX5_put 24 = .ok (.iaload, 1) := by decide +kernel
theorem dX5_put_25 : decode cX5_put 25 = .ok (.iconst 1, 1) := by decide +kernel
theorem dX5_put_26 : decode cX5_put 26 = .ok (.if_icmp .ne 7, 3) := by decide +kernel
theorem dX5_put_29 : decode cX5_put 29 = .ok (.iload_n 3, 1) := by decide +kernel
theorem dX5_put_30 : decode cX5_put 30 = .ok (.i2s, 1) := by decide +kernel
theorem dX5_put_31 : decode cX5_put 31 = .ok (.istore 4, 2) := by decide +kernel
theorem dX5_put_33 : decode cX5_put 33 = .ok (.aload_n 0, 1) := by decide +kernel
theorem dX5_put_34 : decode cX5_put 34 = .ok (.getfield 20, 3) := by decide +kernel
theorem dX5_put_37 : decode cX5_put 37 = .ok (.iload_n 1, 1) := by decide +kernel
theorem dX5_put_38 : decode cX5_put 38 = .ok (.aaload, 1) := by decide +kernel
theorem dX5_put_39 : decode cX5_put 39 = .ok (.iload_n 2, 1) := by decide +kernel
theorem dX5_put_40 : decode cX5_put 40 = .ok (.iload 4, 2) := by decide +kernel
theorem dX5_put_42 : decode cX5_put 42 = .ok (.iastore, 1) := by decide +kernel
theorem dX5_put_43 : decode cX5_put 43 = .ok (.iload 4, 2) := by decide +kernel
theorem dX5_put_45 : decode cX5_put 45 = .ok (.ireturn, 1) := by decide +kernel
theorem dX5_remove_0 : decode cX5_remove 0 = .ok (.aload_n 0, 1) := by decide +kernel
theorem dX5_remove_1 : decode cX5_remove 1 = .ok (.getfield 9, 3) := by decide +kernel
theorem dX5_remove_4 : decode cX5_remove 4 = .ok (.iload_n 1, 1) := by decide +kernel
theorem dX5_remove_5 : decode cX5_remove 5 = .ok (.iconst (-1), 1) := by decide +kernel
theorem dX5_remove_6 : decode cX5_remove 6 = .ok (.iastore, 1) := by decide +kernel
theorem dX5_remove_7 : decode cX5_remove 7 = .ok (.aload_n 0, 1) := by decide +kernel
theorem dX5_remove_8 : decode cX5_remove 8 = .ok (.getfield 15, 3) := by decide +kernel
theorem dX5_remove_11 : decode cX5_remove 11 = .ok (.iload_n 1, 1) := by decide +kernel
theorem dX5_remove_12 : decode cX5_remove 12 = .ok (.iaload, 1) := by decide +kernel
theorem dX5_remove_13 : decode cX5_remove 13 = .ok (.ireturn, 1) := by decide +kernel
theorem dX5_present_0 : decode cX5_present 0 = .ok (.iconst 0, 1) := by decide +kernel
theorem dX5_present_1 : decode cX5_present 1 = .ok (.istore_n 1, 1) := by decide +kernel
theorem dX5_present_2 : decode cX5_present 2 = .ok (.iconst 0, 1) := by decide +kernel
theorem dX5_present_3 : decode cX5_present 3 = .ok (.istore_n 2, 1) := by decide +kernel
theorem dX5_present_4 : decode cX5_present 4 = .ok (.iload_n 2, 1) := by decide +kernel
theorem dX5_present_5 : decode cX5_present 5 = .ok (.bipush 8, 2) := by decide +kernel
theorem dX5_present_7 : decode cX5_present 7 = .ok (.if_icmp .ge 25, 3) := by decide +kernel
theorem dX5_present_10 : decode cX5_present 10 = .ok (.iload_n 1, 1) := by decide +kernel
theorem dX5_present_11 : decode cX5_present 11 = .ok (.aload_n 0, 1) := by decide +kernel
theorem dX5_present_12 : decode cX5_present 12 = .ok (.iload_n 2, 1) := by decide +kernel
theorem dX5_present_13 : decode cX5_present 13 = .ok (.invokevirtual 27, 3) := by decide +kernel
theorem dX5_present_16 : decode cX5_present 16 = .ok (.ifCond .eq 7, 3) := by decide +kernel
theorem dX5_present_19 : decode cX5_present 19 = .ok (.iconst 0, 1) := by decide +kernel
theorem dX5_present_20 : decode cX5_present 20 = .ok (.goto 4, 3) := by decide +kernel
theorem dX5_present_23 : decode cX5_present 23 = .ok (.iconst 1, 1) := by decide +kernel
theorem dX5_present_24 : decode cX5_present 24 = .ok (.iadd, 1) := by decide +kernel
theorem dX5_present_25 : decode cX5_present 25 = .ok (.istore_n 1, 1) := by decide +kernel
theorem dX5_present_26 : decode cX5_present 26 = .ok (.iinc 2 1, 3) := by decide +kernel
theorem dX5_present_29 : decode cX5_present 29 = .ok (.goto (-25), 3) := by decide +kernel
theorem dX5_present_32 : decode cX5_present 32 = .ok (.iload_n 1, 1) := by decide +kernel
theorem dX5_present_33 : decode cX5_present 33 = .ok (.ireturn, 1) := by decide +kernel
theorem dX6_init_0 : decode cX6_init 0 = .ok (.aload_n 0, 1) := by decide +kernel
theorem dX6_init_1 : decode cX6_init 1 = .ok (.invokespecial 1, 3) := by decide +kernel
theorem dX6_init_4 : decode cX6_init 4 = .ok (.aload_n 0, 1) := by decide +kernel
theorem dX6_init_5 : decode cX6_init 5 = .ok (.new 7, 3) := by decide +kernel
theorem dX6_init_8 : decode cX6_init 8 = .ok (.dup, 1) := by decide +kernel
theorem dX6_init_9 : decode cX6_init 9 = .ok (.invokespecial 9, 3) := by decide +kernel
theorem dX6_init_12 : decode cX6_init 12 = .ok (.putfield 10, 3) := by decide +kernel
theorem dX6_init_15 : decode cX6_init 15 = .ok (.aload_n 0, 1) := by decide +kernel
theorem dX6_init_16 : decode cX6_init 16 = .ok (.new 16, 3) := by decide +kernel
theorem dX6_init_19 : decode cX6_init 19 = .ok (.dup, 1) := by decide +kernel
theorem dX6_init_20 : decode cX6_init 20 = .ok (.invokespecial 18, 3) := by decide +kernel
theorem dX6_init_23 : decode cX6_init 23 = .ok (.putfield 19, 3) := by decide +kernel
theorem dX6_init_26 : decode cX6_init 26 = .ok (.aload_n 0, 1) := by decide +kernel
theorem dX6_init_27 : decode cX6_init 27 = .ok (.new 23, 3) := by decide +kernel
theorem dX6_init_30 : decode cX6_init 30 = .ok (.dup, 1) := by decide +kernel
theorem dX6_init_31 : decode cX6_init 31 = .ok (.invokespecial 25, 3) := by decide +kernel
theorem dX6_init_34 : decode cX6_init 34 = .ok (.putfield 26, 3) := by decide +kernel
theorem dX6_init_37 : decode cX6_init 37 = .ok (.aload_n 0, 1) := by decide +kernel
theorem dX6_init_38 : decode cX6_init 38 = .ok (.new 30, 3) := by decide +kernel
theorem dX6_init_41 : decode cX6_init 41 = .ok (.dup, 1) := by decide +kernel
theorem dX6_init_42 : decode cX6_init 42 = .ok (.aload_n 0, 1) := by decide +kernel
theorem dX6_init_43 : decode cX6_init 43 = .ok (.getfield 26, 3) := by decide +kernel
theorem dX6_init_46 : decode cX6_init 46 = .ok (.invokespecial 32, 3) := by decide +kernel
theorem dX6_init_49 : decode cX6_init 49 = .ok (.putfield 35, 3) := by decide +kernel
theorem dX6_init_52 : decode cX6_init 52 = .ok (.aload_n 0, 1) := by decide +kernel
theorem dX6_init_53 : decode cX6_init 53 = .ok (.new 39, 3) := by decide +kernel
theorem dX6_init_56 : decode cX6_init 56 = .ok (.dup, 1) := by decide +kernel
theorem dX6_init_57 : decode cX6_init 57 = .ok (.invokespecial 41, 3) := by decide +kernel
theorem dX6_init_60 : decode cX6_init 60 = .ok (.putfield 42, 3) := by decide +kernel
theorem dX6_init_63 : decode cX6_init 63 = .ok (.aload_n 0, 1) := by decide +kernel
theorem dX6_init_64 : decode cX6_init 64 = .ok (.new 46, 3) := by decide +kernel
theorem dX6_init_67 : decode cX6_init 67 = .ok (.dup, 1) := by decide +kernel
theorem dX6_init_68 : decode cX6_init 68 = .ok (.aload_n 0, 1) := by decide +kernel
theorem dX6_init_69 : decode cX6_init 69 = .ok (.getfield 26, 3) := by decide +kernel
theorem dX6_init_72 : decode cX6_init 72 = .ok (.invokespecial 48, 3) := by decide +kernel
theorem dX6_init_75 : decode cX6_init 75 = .ok (.putfield 49, 3) := by decide +kernel
theorem dX6_init_78 : decode cX6_init 78 = .ok (.aload_n 0, 1) := by decide +kernel
theorem dX6_init_79 : decode cX6_init 79 = .ok (.iconst 2, 1) := by decide +kernel
theorem dX6_init_80 : decode cX6_init 80 = .ok (.anewarray 23, 3) := by decide +kernel
theorem dX6_init_83 : decode cX6_init 83 = .ok (.putfield 53, 3) := by decide +kernel
theorem dX6_init_86 : decode cX6_init 86 = .ok (.iconst 0, 1) := by decide +kernel
theorem dX6_init_87 : decode cX6_init 87 = .ok (.istore_n 1, 1) := by decide +kernel
theorem dX6_init_88 : decode cX6_init 88 = .ok (.iload_n 1, 1) := by decide +kernel
theorem dX6_init_89 : decode cX6_init 89 = .ok (.iconst 2, 1) := by decide +kernel
theorem dX6_init_90 : decode cX6_init 90 = .ok (.if_icmp .ge 22, 3) := by decide +kernel
theorem dX6_init_93 : decode cX6_init 93 = .ok (.aload_n 0, 1) := by decide +kernel
theorem dX6_init_94 : decode cX6_init 94 = .ok (.getfield 53, 3) := by decide +kernel
theorem dX6_init_97 : decode cX6_init 97 = .ok (.iload_n 1, 1) := by decide +kernel
theorem dX6_init_98 : decode cX6_init 98 = .ok (.new 23, 3) := by decide +kernel
theorem dX6_init_101 : decode cX6_init 101 = .ok (.dup, 1) := by decide +kernel
theorem dX6_init_102 : decode cX6_init 102 = .ok (.invokespecial 25, 3) := by decide +kernel
theorem dX6_init_105 : decode cX6_init 105 = .ok (.aastore, 1) := by decide +kernel
theorem dX6_init_106 : decode cX6_init 106 = .ok (.iinc 1 1, 3) := by decide +kernel
theorem dX6_init_109 : decode cX6_init 109 = .ok (.goto (-21), 3) := by decide +kernel
theorem dX6_init_112 : decode cX6_init 112 = .ok (.return_, 1) := by decide +kernel
theorem dX6_row_0 : decode cX6_row 0 = .ok (.aload_n 0, 1) := by decide +kernel
theorem dX6_row_1 : decode cX6_row 1 = .ok (.getfield 10, 3) := by decide +kernel
theorem dX6_row_4 : decode cX6_row 4 = .ok (.iload_n 1, 1) := by decide +kernel
theorem dX6_row_5 : decode cX6_row 5 = .ok (.invokevirtual 57, 3) := by decide +kernel
theorem dX6_row_8 : decode cX6_row 8 = .ok (.ifCond .eq 18, 3) := by decide +kernel
theorem dX6_row_11 : decode cX6_row 11 = .ok (.iload_n 2, 1) := by decide +kernel
theorem dX6_row_12 : decode cX6_row 12 = .ok (.iconst 0, 1) := by decide +kernel
theorem dX6_row_13 : decode cX6_row 13 = .ok (.iconst 2, 1) := by decide +kernel
theorem dX6_row_14 : decode cX6_row 14 = .ok (.invokestatic 61, 3) := by decide +kernel
theorem dX6_row_17 : decode cX6_row 17 = .ok (.ifCond .eq 9, 3) := by decide +kernel
theorem dX6_row_20 : decode cX6_row 20 = .ok (.iload_n 3, 1) := by decide +kernel
theorem dX6_row_21 : decode cX6_row 21 = .ok (.bipush 40, 2) := by decide +kernel
theorem dX6_row_23 : decode cX6_row 23 = .ok (.if_icmp .le 6, 3) := by decide +kernel
theorem dX6_row_26 : decode cX6_row 26 = .ok (.ldc 65, 2) := by decide +kernel
theorem dX6_row_28 : decode cX6_row 28 = .ok (.ireturn, 1) := by decide +kernel
theorem dX6_row_29 : decode cX6_row 29 = .ok (.iload_n 3, 1) := by decide +kernel
theorem dX6_row_30 : decode cX6_row 30 = .ok (.ifCond .ge 9, 3) := by decide +kernel
theorem dX6_row_33 : decode cX6_row 33 = .ok (.aload_n 0, 1) := by decide +kernel
theorem dX6_row_34 : decode cX6_row 34 = .ok (.iconst 4, 1) := by decide +kernel
theorem dX6_row_35 : decode cX6_row 35 = .ok (.invokevirtual 66, 3) := by decide +kernel
theorem dX6_row_38 : decode cX6_row 38 = .ok (.ireturn, 1) := by decide +kernel
theorem dX6_row_39 : decode cX6_row 39 = .ok (.aload_n 0, 1) := by decide +kernel
theorem dX6_row_40 : decode cX6_row 40 = .ok (.getfield 10, 3) := by decide +kernel
theorem dX6_row_43 : decode cX6_row 43 = .ok (.iload_n 1, 1) := by decide +kernel
theorem dX6_row_44 : decode cX6_row 44 = .ok (.iload_n 2, 1) := by decide +kernel
theorem dX6_row_45 : decode cX6_row 45 = .ok (.iload_n 3, 1) := by decide +kernel
theorem dX6_row_46 : decode cX6_row 46 = .ok (.invokevirtual 70, 3) := by decide +kernel
theorem dX6_row_49 : decode cX6_row 49 = .ok (.aload_n 0, 1) := by decide +kernel
theorem dX6_row_50 : decode cX6_row 50 = .ok (.iload_n 3, 1) := by decide +kernel
theorem dX6_row_51 : decode cX6_row 51 = .ok (.invokevirtual 74, 3) := by decide +kernel
theorem dX6_row_54 : decode cX6_row 54 = .ok (.ireturn, 1) := by decide +kernel
theorem dX6_set_0 : decode cX6_set 0 = .ok (.aload_n 0, 1) := by decide +kernel
theorem dX6_set_1 : decode cX6_set 1 = .ok (.getfield 10, 3) := by decide +kernel
theorem dX6_set_4 : decode cX6_set 4 = .ok (.iload_n 1, 1) := by decide +kernel
theorem dX6_set_5 : decode cX6_set 5 = .ok (.invokevirtual 57, 3) := by decide +kernel
theorem dX6_set_8 : decode cX6_set 8 = .ok (.ifCond .ne 6, 3) := by decide +kernel
theorem dX6_set_11 : decode cX6_set 11 = .ok (.ldc 65, 2) := by decide +kernel
theorem dX6_set_13 : decode cX6_set 13 = .ok (.ireturn, 1) := by decide +kernel
theorem dX6_set_14 : decode cX6_set 14 = .ok (.aload_n 0, 1) := by decide +kernel
theorem dX6_set_15 : decode cX6_set 15 = .ok (.getfield 10, 3) := by decide +kernel
theorem dX6_set_18 : decode cX6_set 18 = .ok (.iload_n 1, 1) := by decide +kernel
theorem dX6_set_19 : decode cX6_set 19 = .ok (.invokevirtual 77, 3) := by decide +kernel
theorem dX6_set_22 : decode cX6_set 22 = .ok (.ifCond .eq 9, 3) := by decide +kernel
theorem dX6_set_25 : decode cX6_set 25 = .ok (.aload_n 0, 1) := by decide +kernel
theorem dX6_set_26 : decode cX6_set 26 = .ok (.iconst 1, 1) := by decide +kernel
theorem dX6_set_27 : decode cX6_set 27 = .ok (.invokevirtual 66, 3) := by decide +kernel
theorem dX6_set_30 : decode cX6_set 30 = .ok (.ireturn, 1) := by decide +kernel
theorem dX6_set_31 : decode cX6_set 31 = .ok (.aload_n 0, 1) := by decide +kernel
theorem dX6_set_32 : decode cX6_set 32 = .ok (.getfield 10, 3) := by decide +kernel
theorem dX6_set_35 : decode cX6_set 35 = .ok (.iload_n 1, 1) := by decide +kernel
theorem dX6_set_36 : decode cX6_set 36 = .ok (.iload_n 2, 1) := by decide +kernel
theorem dX6_set_37 : decode cX6_set 37 = .ok (.iconst 1, 1) := by decide +kernel
theorem dX6_set_38 : decode cX6_set 38 = .ok (.invokevirtual 80, 3) := by decide +kernel
theorem dX6_set_41 : decode cX6_set 41 = .ok (.ifCond .ne 9, 3) := by decide +kernel
theorem dX6_set_44 : decode cX6_set 44 = .ok (.aload_n 0, 1) := by decide +kernel
theorem dX6_set_45 : decode cX6_set 45 = .ok (.iconst 2, 1) := by decide +kernel
theorem dX6_set_46 : decode cX6_set 46 = .ok (.invokevirtual 66, 3) := by decide +kernel
theorem dX6_set_49 : decode cX6_set 49 = .ok (.ireturn, 1) := by decide +kernel
theorem dX6_set_50 : decode cX6_set 50 = .ok (.aload_n 0, 1) := by decide +kernel
theorem dX6_set_51 : decode cX6_set 51 = .ok (.aload_n 0, 1) := by decide +kernel
theorem dX6_set_52 : decode cX6_set 52 = .ok (.getfield 10, 3) := by decide +kernel
theorem dX6_set_55 : decode cX6_set 55 = .ok (.iload_n 1, 1) := by decide +kernel
theorem dX6_set_56 : decode cX6_set 56 = .ok (.iload_n 2, 1) := by decide +kernel
theorem dX6_set_57 : decode cX6_set 57 = .ok (.iload_n 3, 1) := by decide +kernel
theorem dX6_set_58 : decode cX6_set 58 = .ok (.invokevirtual 83, 3) := by decide +kernel
theorem dX6_set_61 : decode cX6_set 61 = .ok (.invokevirtual 74, 3) := by decide +kernel
theorem dX6_set_64 : decode cX6_set 64 = .ok (.ireturn, 1) := by decide +kernel
theorem dX6_copy_0 : decode cX6_copy 0 = .ok (.aload_n 0, 1) := by decide +kernel
theorem dX6_copy_1 : decode cX6_copy 1 = .ok (.getfield 10, 3) := by decide +kernel
theorem dX6_copy_4 : decode cX6_copy 4 = .ok (.iload_n 1, 1) := by decide +kernel
theorem dX6_copy_5 : decode cX6_copy 5 = .ok (.invokevirtual 57, 3) := by decide +kernel
theorem dX6_copy_8 : decode cX6_copy 8 = .ok (.ifCond .eq 14, 3) := by decide +kernel
theorem dX6_copy_11 : decode cX6_copy 11 = .ok (.aload_n 0, 1) := by decide +kernel
theorem dX6_copy_12 : decode cX6_copy 12 = .ok (.getfield 10, 3) := by decide +kernel
theorem dX6_copy_15 : decode cX6_copy 15 = .ok (.iload_n 3, 1) := by decide +kernel
theorem dX6_copy_16 : decode cX6_copy 16 = .ok (.invokevirtual 57, 3) := by decide +kernel
theorem dX6_copy_19 : decode cX6_copy 19 = .ok (.ifCond .ne 6, 3) := by decide +kernel
theorem dX6_copy_22 : decode cX6_copy 22 = .ok (.ldc 65, 2) := by decide +kernel
theorem dX6_copy_24 : decode cX6_copy 24 = .ok (.ireturn, 1) := by decide +kernel
theorem dX6_copy_25 : decode cX6_copy 25 = .ok (.aload_n 0, 1) := by decide +kernel
theorem dX6_copy_26 : decode cX6_copy 26 = .ok (.getfield 10, 3) := by decide +kernel
theorem dX6_copy_29 : decode cX6_copy 29 = .ok (.iload_n 1, 1) := by decide +kernel
theorem dX6_copy_30 : decode cX6_copy 30 = .ok (.invokevirtual 77, 3) := by decide +kernel
theorem dX6_copy_33 : decode cX6_copy 33 = .ok (.ifCond .ne 14, 3) := by decide +kernel
theorem dX6_copy_36 : decode cX6_copy 36 = .ok (.aload_n 0, 1) := by decide +kernel
theorem dX6_copy_37 : decode cX6_copy 37 = .ok (.getfield 10, 3) := by decide +kernel
theorem dX6_copy_40 : decode cX6_copy 40 = .ok (.iload_n 3, 1) := by decide +kernel
theorem dX6_copy_41 : decode cX6_copy 41 = .ok (.invokevirtual 77, 3) := by decide +kernel
theorem dX6_copy_44 : decode cX6_copy 44 = .ok (.ifCond .eq 9, 3) := by decide +kernel
theorem dX6_copy_47 : decode cX6_copy 47 = .ok (.aload_n 0, 1) := by decide +kernel
theorem dX6_copy_48 : decode cX6_copy 48 = .ok (.iconst 1, 1) := by decide +kernel
theorem dX6_copy_49 : decode cX6_copy 49 = .ok (.invokevirtual 66, 3) := by decide +kernel
theorem dX6_copy_52 : decode cX6_copy 52 = .ok (.ireturn, 1) := by decide +kernel
theorem dX6_copy_53 : decode cX6_copy 53 = .ok (.aload_n 0, 1) := by decide +kernel
theorem dX6_copy_54 : decode cX6_copy 54 = .ok (.getfield 10, 3) := by decide +kernel
theorem dX6_copy_57 : decode cX6_copy 57 = .ok (.getfield 87, 3) := by decide +kernel
theorem dX6_copy_60 : decode cX6_copy 60 = .ok (.iload_n 1, 1) := by decide +kernel
theorem dX6_copy_61 : decode cX6_copy 61 = .ok (.iaload, 1) := by decide +kernel
theorem dX6_copy_62 : decode cX6_copy 62 = .ok (.aload_n 0, 1) := by decide +kernel
theorem dX6_copy_63 : decode cX6_copy 63 = .ok (.getfield 10, 3) := by decide +kernel
theorem dX6_copy_66 : decode cX6_copy 66 = .ok (.getfield 87, 3) := by decide +kernel
theorem dX6_copy_69 : decode cX6_copy 69 = .ok (.iload_n 3, 1) := by decide +kernel
theorem dX6_copy_70 : decode cX6_copy 70 = .ok (.iaload, 1) := by decide +kernel
theorem dX6_copy_71 : decode cX6_copy 71 = .ok (.if_icmp .eq 9, 3) := by decide +kernel
theorem dX6_copy_74 : decode cX6_copy 74 = .ok (.aload_n 0, 1) := by decide +kernel
theorem dX6_copy_75 : decode cX6_copy 75 = .ok (.iconst 5, 1) := by decide +kernel
theorem dX6_copy_76 : decode cX6_copy 76 = .ok (.invokevirtual 66, 3) := by decide +kernel
theorem dX6_copy_79 : decode cX6_copy 79 = .ok (.ireturn, 1) := by decide +kernel
theorem dX6_copy_80 : decode cX6_copy 80 = .ok (.aload_n 0, 1) := by decide +kernel
theorem dX6_copy_81 : decode cX6_copy 81 = .ok (.getfield 10, 3) := by decide +kernel
theorem dX6_copy_84 : decode cX6_copy 84 = .ok (.iload_n 1, 1) := by decide +kernel
theorem dX6_copy_85 : decode cX6_copy 85 = .ok (.iload_n 2, 1) := by decide +kernel
theorem dX6_copy_86 : decode cX6_copy 86 = .ok (.iload 5, 2) := by decide +kernel
theorem dX6_copy_88 : decode cX6_copy 88 = .ok (.invokevirtual 80, 3) := by decide +kernel
theorem dX6_copy_91 : decode cX6_copy 91 = .ok (.ifCond .eq 18, 3) := by decide +kernel
theorem dX6_copy_94 : decode cX6_copy 94 = .ok (.aload_n 0, 1) := by decide +kernel
theorem dX6_copy_95 : decode cX6_copy 95 = .ok (.getfield 10, 3) := by decide +kernel
theorem dX6_copy_98 : decode cX6_copy 98 = .ok (.iload_n 3, 1) := by decide +kernel
theorem dX6_copy_99 : decode cX6_copy 99 = .ok (.iload 4, 2) := by decide +kernel
theorem dX6_copy_101 : decode cX6_copy 101 = .ok (.iload 5, 2) := by decide +kernel
theorem dX6_copy_103 : decode cX6_copy 103 = .ok (.invokevirtual 80, 3) := by decide +kernel
theorem dX6_copy_106 : decode cX6_copy 106 = .ok (.ifCond .ne 9, 3) := by decide +kernel
theorem dX6_copy_109 : decode cX6_copy 109 = .ok (.aload_n 0, 1) := by decide +kernel
theorem dX6_copy_110 : decode cX6_copy 110 = .ok (.iconst 2, 1) := by decide +kernel
theorem dX6_copy_111 : decode cX6_copy 111 = .ok (.invokevirtual 66, 3) := by decide +kernel
theorem dX6_copy_114 : decode cX6_copy 114 = .ok (.ireturn, 1) := by decide +kernel
theorem dX6_copy_115 : decode cX6_copy 115 = .ok (.aload_n 0, 1) := by decide +kernel
theorem dX6_copy_116 : decode cX6_copy 116 = .ok (.getfield 10, 3) := by decide +kernel
theorem dX6_copy_119 : decode cX6_copy 119 = .ok (.getfield 91, 3) := by decide +kernel
theorem dX6_copy_122 : decode cX6_copy 122 = .ok (.iload_n 1, 1) := by decide +kernel
theorem dX6_copy_123 : decode cX6_copy 123 = .ok (.aaload, 1) := by decide +kernel
theorem dX6_copy_124 : decode cX6_copy 124 = .ok (.iload_n 2, 1) := by decide +kernel
theorem dX6_copy_125 : decode cX6_copy 125 = .ok (.aload_n 0, 1) := by decide +kernel
theorem dX6_copy_126 : decode cX6_copy 126 = .ok (.getfield 10, 3) := by decide +kernel
theorem dX6_copy_129 : decode cX6_copy 129 = .ok (.getfield 91, 3) := by decide +kernel
theorem dX6_copy_132 : decode cX6_copy 132 = .ok (.iload_n 3, 1) := by decide +kernel
theorem dX6_copy_133 : decode cX6_copy 133 = .ok (.aaload, 1) := by decide +kernel
theorem dX6_copy_134 : decode cX6_copy 134 = .ok (.iload 4, 2) := by decide +kernel
theorem dX6_copy_136 : decode cX6_copy 136 = .ok (.iload 5, 2) := by decide +kernel
theorem dX6_copy_138 : decode cX6_copy 138 = .ok (.invokestatic 95, 3) := by decide +kernel
theorem dX6_copy_141 : decode cX6_copy 141 = .ok (.aload_n 0, 1) := by decide +kernel
theorem dX6_copy_142 : decode cX6_copy 142 = .ok (.iload 5, 2) := by decide +kernel
theorem dX6_copy_144 : decode cX6_copy 144 = .ok (.invokevirtual 74, 3) := by decide +kernel
theorem dX6_copy_147 : decode cX6_copy 147 = .ok (.ireturn, 1) := by decide +kernel
theorem dX6_drop_0 : decode cX6_drop 0 = .ok (.aload_n 0, 1) := by decide +kernel
theorem dX6_drop_1 : decode cX6_drop 1 = .ok (.getfield 10, 3) := by decide +kernel
theorem dX6_drop_4 : decode cX6_drop 4 = .ok (.iload_n 1, 1) := by decide +kernel
theorem dX6_drop_5 : decode cX6_drop 5 = .ok (.invokevirtual 57, 3) := by decide +kernel
theorem dX6_drop_8 : decode cX6_drop 8 = .ok (.ifCond .ne 6, 3) := by decide +kernel
theorem dX6_drop_11 : decode cX6_drop 11 = .ok (.ldc 65, 2) := by decide +kernel
theorem dX6_drop_13 : decode cX6_drop 13 = .ok (.ireturn, 1) := by decide +kernel
theorem dX6_drop_14 : decode cX6_drop 14 = .ok (.aload_n 0, 1) := by decide +kernel
theorem dX6_drop_15 : decode cX6_drop 15 = .ok (.getfield 10, 3) := by decide +kernel
theorem dX6_drop_18 : decode cX6_drop 18 = .ok (.iload_n 1, 1) := by decide +kernel
theorem dX6_drop_19 : decode cX6_drop 19 = .ok (.invokevirtual 77, 3) := by decide +kernel
theorem dX6_drop_22 : decode cX6_drop 22 = .ok (.ifCond .eq 9, 3) := by decide +kernel
theorem dX6_drop_25 : decode cX6_drop 25 = .ok (.aload_n 0, 1) := by decide +kernel
theorem dX6_drop_26 : decode cX6_drop 26 = .ok (.iconst 1, 1) := by decide +kernel
theorem dX6_drop_27 : decode cX6_drop 27 = .ok (.invokevirtual 66, 3) := by decide +kernel
theorem dX6_drop_30 : decode cX6_drop 30 = .ok (.ireturn, 1) := by decide +kernel
theorem dX6_drop_31 : decode cX6_drop 31 = .ok (.aload_n 0, 1) := by decide +kernel
theorem dX6_drop_32 : decode cX6_drop 32 = .ok (.aload_n 0, 1) := by decide +kernel
theorem dX6_drop_33 : decode cX6_drop 33 = .ok (.getfield 10, 3) := by decide +kernel
theorem dX6_drop_36 : decode cX6_drop 36 = .ok (.iload_n 1, 1) := by decide +kernel
theorem dX6_drop_37 : decode cX6_drop 37 = .ok (.invokevirtual 101, 3) := by decide +kernel
theorem dX6_drop_40 : decode cX6_drop 40 = .ok (.invokevirtual 74, 3) := by decide +kernel
theorem dX6_drop_43 : decode cX6_drop 43 = .ok (.ireturn, 1) := by decide +kernel
theorem dX6_feed_0 : decode cX6_feed 0 = .ok (.iload_n 1, 1) := by decide +kernel
theorem dX6_feed_1 : decode cX6_feed 1 = .ok (.iconst 0, 1) := by decide +kernel
theorem dX6_feed_2 : decode cX6_feed 2 = .ok (.sipush 255, 3) := by decide +kernel
theorem dX6_feed_5 : decode cX6_feed 5 = .ok (.invokestatic 61, 3) := by decide +kernel
theorem dX6_feed_8 : decode cX6_feed 8 = .ok (.ifCond .ne 6, 3) := by decide +kernel
theorem dX6_feed_11 : decode cX6_feed 11 = .ok (.ldc 65, 2) := by decide +kernel
theorem dX6_feed_13 : decode cX6_feed 13 = .ok (.ireturn, 1) := by decide +kernel
theorem dX6_feed_14 : decode cX6_feed 14 = .ok (.aload_n 0, 1) := by decide +kernel
theorem dX6_feed_15 : decode cX6_feed 15 = .ok (.getfield 19, 3) := by decide +kernel
theorem dX6_feed_18 : decode cX6_feed 18 = .ok (.getfield 104, 3) := by decide +kernel
theorem dX6_feed_21 : decode cX6_feed 21 = .ok (.sipush 130, 3) := by decide +kernel
theorem dX6_feed_24 : decode cX6_feed 24 = .ok (.if_icmp .lt 6, 3) := by decide +kernel
theorem dX6_feed_27 : decode cX6_feed 27 = .ok (.ldc 108, 2) := by decide +kernel
theorem dX6_feed_29 : decode cX6_feed 29 = .ok (.ireturn, 1) := by decide +kernel
theorem dX6_feed_30 : decode cX6_feed 30 = .ok (.aload_n 0, 1) := by decide +kernel
theorem dX6_feed_31 : decode cX6_feed 31 = .ok (.getfield 19, 3) := by decide +kernel
theorem dX6_feed_34 : decode cX6_feed 34 = .ok (.iload_n 1, 1) := by decide +kernel
theorem dX6_feed_35 : decode cX6_feed 35 = .ok (.invokevirtual 109, 3) := by decide +kernel
theorem dX6_feed_38 : decode cX6_feed 38 = .ok (.ireturn, 1) := by decide +kernel
theorem dX6_map_0 : decode cX6_map 0 = .ok (.aload_n 0, 1) := by decide +kernel
theorem dX6_map_1 : decode cX6_map 1 = .ok (.getfield 19, 3) := by decide +kernel
theorem dX6_map_4 : decode cX6_map 4 = .ok (.aload_n 0, 1) := by decide +kernel
theorem dX6_map_5 : decode cX6_map 5 = .ok (.getfield 35, 3) := by decide +kernel
theorem dX6_map_8 : decode cX6_map 8 = .ok (.getfield 112, 3) := by decide +kernel
theorem dX6_map_11 : decode cX6_map 11 = .ok (.invokevirtual 115, 3) := by decide +kernel
theorem dX6_map_14 : decode cX6_map 14 = .ok (.istore_n 1, 1) := by decide +kernel
theorem dX6_map_15 : decode cX6_map 15 = .ok (.aload_n 0, 1) := by decide +kernel
theorem dX6_map_16 : decode cX6_map 16 = .ok (.getfield 19, 3) := by decide +kernel
theorem dX6_map_19 : decode cX6_map 19 = .ok (.invokevirtual 119, 3) := by decide +kernel
theorem dX6_map_22 : decode cX6_map 22 = .ok (.iload_n 1, 1) := by decide +kernel
theorem dX6_map_23 : decode cX6_map 23 = .ok (.ifCond .ne 14, 3) := by decide +kernel
theorem dX6_map_26 : decode cX6_map 26 = .ok (.ldc 122, 2) := by decide +kernel
theorem dX6_map_28 : decode cX6_map 28 = .ok (.aload_n 0, 1) := by decide +kernel
theorem dX6_map_29 : decode cX6_map 29 = .ok (.getfield 19, 3) := by decide +kernel
theorem dX6_map_32 : decode cX6_map 32 = .ok (.getfield 123, 3) := by decide +kernel
theorem dX6_map_35 : decode cX6_map 35 = .ok (.isub, 1) := by decide +kernel
theorem dX6_map_36 : decode cX6_map 36 = .ok (.ireturn, 1) := by decide +kernel
theorem dX6_map_37 : decode cX6_map 37 = .ok (.aload_n 0, 1) := by decide +kernel
theorem dX6_map_38 : decode cX6_map 38 = .ok (.getfield 26, 3) := by decide +kernel
theorem dX6_map_41 : decode cX6_map 41 = .ok (.aload_n 0, 1) := by decide +kernel
theorem dX6_map_42 : decode cX6_map 42 = .ok (.getfield 35, 3) := by decide +kernel
theorem dX6_map_45 : decode cX6_map 45 = .ok (.getfield 112, 3) := by decide +kernel
theorem dX6_map_48 : decode cX6_map 48 = .ok (.invokevirtual 126, 3) := by decide +kernel
theorem dX6_map_51 : decode cX6_map 51 = .ok (.aload_n 0, 1) := by decide +kernel
theorem dX6_map_52 : decode cX6_map 52 = .ok (.getfield 42, 3) := by decide +kernel
theorem dX6_map_55 : decode cX6_map 55 = .ok (.invokevirtual 129, 3) := by decide +kernel
theorem dX6_map_58 : decode cX6_map 58 = .ok (.aload_n 0, 1) := by decide +kernel
theorem dX6_map_59 : decode cX6_map 59 = .ok (.getfield 26, 3) := by decide +kernel
theorem dX6_map_62 : decode cX6_map 62 = .ok (.getfield 132, 3) := by decide +kernel
theorem dX6_map_65 : decode cX6_map 65 = .ok (.ireturn, 1) := by decide +kernel
theorem dX6_fault_0 : decode cX6_fault 0 = .ok (.aload_n 0, 1) := by decide +kernel
theorem dX6_fault_1 : decode cX6_fault 1 = .ok (.getfield 19, 3) := by decide +kernel
theorem dX6_fault_4 : decode cX6_fault 4 = .ok (.getfield 135, 3) := by decide +kernel
theorem dX6_fault_7 : decode cX6_fault 7 = .ok (.ireturn, 1) := by decide +kernel
theorem dX6_times_0 : decode cX6_times 0 = .ok (.aload_n 0, 1) := by decide +kernel
theorem dX6_times_1 : decode cX6_times 1 = .ok (.getfield 26, 3) := by decide +kernel
theorem dX6_times_4 : decode cX6_times 4 = .ok (.invokevirtual 138, 3) := by decide +kernel
theorem dX6_times_7 : decode cX6_times 7 = .ok (.ifCond .ne 6, 3) := by decide +kernel
theorem dX6_times_10 : decode cX6_times 10 = .ok (.ldc 142, 2) := by decide +kernel
theorem dX6_times_12 : decode cX6_times 12 = .ok (.ireturn, 1) := by decide +kernel
theorem dX6_times_13 : decode cX6_times 13 = .ok (.iload_n 1, 1) := by decide +kernel
theorem dX6_times_14 : decode cX6_times 14 = .ok (.iconst 1, 1) := by decide +kernel
theorem dX6_times_15 : decode cX6_times 15 = .ok (.bipush 24, 2) := by decide +kernel
theorem dX6_times_17 : decode cX6_times 17 = .ok (.invokestatic 61, 3) := by decide +kernel
theorem dX6_times_20 : decode cX6_times 20 = .ok (.ifCond .ne 6, 3) := by decide +kernel
theorem dX6_times_23 : decode cX6_times 23 = .ok (.ldc 65, 2) := by decide +kernel
theorem dX6_times_25 : decode cX6_times 25 = .ok (.ireturn, 1) := by decide +kernel
theorem dX6_times_26 : decode cX6_times 26 = .ok (.aload_n 0, 1) := by decide +kernel
theorem dX6_times_27 : decode cX6_times 27 = .ok (.getfield 26, 3) := by decide +kernel
theorem dX6_times_30 : decode cX6_times 30 = .ok (.getfield 143, 3) := by decide +kernel
theorem dX6_times_33 : decode cX6_times 33 = .ok (.iload_n 1, 1) := by decide +kernel
theorem dX6_times_34 : decode cX6_times 34 = .ok (.iadd, 1) := by decide +kernel
theorem dX6_times_35 : decode cX6_times 35 = .ok (.sipush 9999, 3) := by decide +kernel
theorem dX6_times_38 : decode cX6_times 38 = .ok (.if_icmp .le 6, 3) := by decide +kernel
theorem dX6_times_41 : decode cX6_times 41 = .ok (.ldc 108, 2) := by decide +kernel
theorem dX6_times_43 : decode cX6_times 43 = .ok (.ireturn, 1) := by decide +kernel
theorem dX6_times_44 : decode cX6_times 44 = .ok (.iconst 0, 1) := by decide +kernel
theorem dX6_times_45 : decode cX6_times 45 = .ok (.istore_n 2, 1) := by decide +kernel
theorem dX6_times_46 : decode cX6_times 46 = .ok (.iload_n 2, 1) := by decide +kernel
theorem dX6_times_47 : decode cX6_times 47 = .ok (.iload_n 1, 1) := by decide +kernel
theorem dX6_times_48 : decode cX6_times 48 = .ok (.if_icmp .ge 27, 3) := by decide +kernel
theorem dX6_times_51 : decode cX6_times 51 = .ok (.aload_n 0, 1) := by decide +kernel
theorem dX6_times_52 : decode cX6_times 52 = .ok (.getfield 42, 3) := by decide +kernel
theorem dX6_times_55 : decode cX6_times 55 = .ok (.aload_n 0, 1) := by decide +kernel
theorem dX6_times_56 : decode cX6_times 56 = .ok (.getfield 26, 3) := by decide +kernel
theorem dX6_times_59 : decode cX6_times 59 = .ok (.invokevirtual 146, 3) := by decide +kernel
theorem dX6_times_62 : decode cX6_times 62 = .ok (.aload_n 0, 1) := by decide +kernel
theorem dX6_times_63 : decode cX6_times 63 = .ok (.getfield 26, 3) := by decide +kernel
theorem dX6_times_66 : decode cX6_times 66 = .ok (.invokevirtual 149, 3) := by decide +kernel
theorem dX6_times_69 : decode cX6_times 69 = .ok (.iinc 2 1, 3) := by decide +kernel
theorem dX6_times_72 : decode cX6_times 72 = .ok (.goto (-26), 3) := by decide +kernel
theorem dX6_times_75 : decode cX6_times 75 = .ok (.aload_n 0, 1) := by decide +kernel
theorem dX6_times_76 : decode cX6_times 76 = .ok (.getfield 26, 3) := by decide +kernel
theorem dX6_times_79 : decode cX6_times 79 = .ok (.getfield 152, 3) := by decide +kernel
theorem dX6_times_82 : decode cX6_times 82 = .ok (.ifCond .eq 7, 3) := by decide +kernel
theorem dX6_times_85 : decode cX6_times 85 = .ok (.iconst 1, 1) := by decide +kernel
theorem dX6_times_86 : decode cX6_times 86 = .ok (.goto 4, 3) := by decide +kernel
theorem dX6_times_89 : decode cX6_times 89 = .ok (.iconst 0, 1) := by decide +kernel
theorem dX6_times_90 : decode cX6_times 90 = .ok (.ireturn, 1) := by decide +kernel
theorem dX6_move_0 : decode cX6_move 0 = .ok (.aload_n 0, 1) := by decide +kernel
theorem dX6_move_1 : decode cX6_move 1 = .ok (.getfield 26, 3) := by decide +kernel
theorem dX6_move_4 : decode cX6_move 4 = .ok (.iload_n 1, 1) := by decide +kernel
theorem dX6_move_5 : decode cX6_move 5 = .ok (.invokevirtual 156, 3) := by decide +kernel
theorem dX6_move_8 : decode cX6_move 8 = .ok (.ifCond .eq 14, 3) := by decide +kernel
theorem dX6_move_11 : decode cX6_move 11 = .ok (.aload_n 0, 1) := by decide +kernel
theorem dX6_move_12 : decode cX6_move 12 = .ok (.getfield 26, 3) := by decide +kernel
theorem dX6_move_15 : decode cX6_move 15 = .ok (.iload_n 2, 1) := by decide +kernel
theorem dX6_move_16 : decode cX6_move 16 = .ok (.invokevirtual 159, 3) := by decide +kernel
theorem dX6_move_19 : decode cX6_move 19 = .ok (.ifCond .ne 6, 3) := by decide +kernel
theorem dX6_move_22 : decode cX6_move 22 = .ok (.ldc 65, 2) := by decide +kernel
theorem dX6_move_24 : decode cX6_move 24 = .ok (.ireturn, 1) := by decide +kernel
theorem dX6_move_25 : decode cX6_move 25 = .ok (.aload_n 0, 1) := by decide +kernel
theorem dX6_move_26 : decode cX6_move 26 = .ok (.getfield 26, 3) := by decide +kernel
theorem dX6_move_29 : decode cX6_move 29 = .ok (.getfield 152, 3) := by decide +kernel
theorem dX6_move_32 : decode cX6_move 32 = .ok (.ifCond .eq 16, 3) := by decide +kernel
theorem dX6_move_35 : decode cX6_move 35 = .ok (.aload_n 0, 1) := by decide +kernel
theorem dX6_move_36 : decode cX6_move 36 = .ok (.getfield 26, 3) := by decide +kernel
theorem dX6_move_39 : decode cX6_move 39 = .ok (.getfield 162, 3) := by decide +kernel
theorem dX6_move_42 : decode cX6_move 42 = .ok (.iload_n 1, 1) := by decide +kernel
theorem dX6_move_43 : decode cX6_move 43 = .ok (.iaload, 1) := by decide +kernel
theorem dX6_move_44 : decode cX6_move 44 = .ok (.iload_n 2, 1) := by decide +kernel
theorem dX6_move_45 : decode cX6_move 45 = .ok (.if_icmp .ne 6, 3) := by decide +kernel
theorem dX6_move_48 : decode cX6_move 48 = .ok (.ldc 142, 2) := by decide +kernel
theorem dX6_move_50 : decode cX6_move 50 = .ok (.ireturn, 1) := by decide +kernel
theorem dX6_move_51 : decode cX6_move 51 = .ok (.aload_n 0, 1) := by decide +kernel
theorem dX6_move_52 : decode cX6_move 52 = .ok (.getfield 42, 3) := by decide +kernel
theorem dX6_move_55 : decode cX6_move 55 = .ok (.aload_n 0, 1) := by decide +kernel
theorem dX6_move_56 : decode cX6_move 56 = .ok (.getfield 26, 3) := by decide +kernel
theorem dX6_move_59 : decode cX6_move 59 = .ok (.invokevirtual 146, 3) := by decide +kernel
theorem dX6_move_62 : decode cX6_move 62 = .ok (.aload_n 0, 1) := by decide +kernel
theorem dX6_move_63 : decode cX6_move 63 = .ok (.getfield 26, 3) := by decide +kernel
theorem dX6_move_66 : decode cX6_move 66 = .ok (.getfield 162, 3) := by decide +kernel
theorem dX6_move_69 : decode cX6_move 69 = .ok (.iload_n 1, 1) := by decide +kernel
theorem dX6_move_70 : decode cX6_move 70 = .ok (.iaload, 1) := by decide +kernel
theorem dX6_move_71 : decode cX6_move 71 = .ok (.istore_n 3, 1) := by decide +kernel
theorem dX6_move_72 : decode cX6_move 72 = .ok (.aload_n 0, 1) := by decide +kernel
theorem dX6_move_73 : decode cX6_move 73 = .ok (.getfield 26, 3) := by decide +kernel
theorem dX6_move_76 : decode cX6_move 76 = .ok (.getfield 162, 3) := by decide +kernel
theorem dX6_move_79 : decode cX6_move 79 = .ok (.iload_n 1, 1) := by decide +kernel
theorem dX6_move_80 : decode cX6_move 80 = .ok (.iload_n 2, 1) := by decide +kernel
theorem dX6_move_81 : decode cX6_move 81 = .ok (.iastore, 1) := by decide +kernel
theorem dX6_move_82 : decode cX6_move 82 = .ok (.iload_n 3, 1) := by decide +kernel
theorem dX6_move_83 : decode cX6_move 83 = .ok (.ireturn, 1) := by decide +kernel
theorem dX6_swap_0 : decode cX6_swap 0 = .ok (.aload_n 0, 1) := by decide +kernel
theorem dX6_swap_1 : decode cX6_swap 1 = .ok (.getfield 26, 3) := by decide +kernel
theorem dX6_swap_4 : decode cX6_swap 4 = .ok (.iload_n 1, 1) := by decide +kernel
theorem dX6_swap_5 : decode cX6_swap 5 = .ok (.invokevirtual 156, 3) := by decide +kernel
theorem dX6_swap_8 : decode cX6_swap 8 = .ok (.ifCond .eq 19, 3) := by decide +kernel
theorem dX6_swap_11 : decode cX6_swap 11 = .ok (.aload_n 0, 1) := by decide +kernel
theorem dX6_swap_12 : decode cX6_swap 12 = .ok (.getfield 26, 3) := by decide +kernel
theorem dX6_swap_15 : decode cX6_swap 15 = .ok (.iload_n 2, 1) := by decide +kernel
theorem dX6_swap_16 : decode cX6_swap 16 = .ok (.invokevirtual 156, 3) := by decide +kernel
theorem dX6_swap_19 : decode cX6_swap 19 = .ok (.ifCond .eq 8, 3) := by decide +kernel
theorem dX6_swap_22 : decode cX6_swap 22 = .ok (.iload_n 1, 1) := by decide +kernel
theorem dX6_swap_23 : decode cX6_swap 23 = .ok (.iload_n 2, 1) := by decide +kernel
theorem dX6_swap_24 : decode cX6_swap 24 = .ok (.if_icmp .ne 6, 3) := by decide +kernel
theorem dX6_swap_27 : decode cX6_swap 27 = .ok (.ldc 65, 2) := by decide +kernel
theorem dX6_swap_29 : decode cX6_swap 29 = .ok (.ireturn, 1) := by decide +kernel
theorem dX6_swap_30 : decode cX6_swap 30 = .ok (.aload_n 0, 1) := by decide +kernel
theorem dX6_swap_31 : decode cX6_swap 31 = .ok (.getfield 26, 3) := by decide +kernel
theorem dX6_swap_34 : decode cX6_swap 34 = .ok (.getfield 152, 3) := by decide +kernel
theorem dX6_swap_37 : decode cX6_swap 37 = .ok (.ifCond .ne 6, 3) := by decide +kernel
theorem dX6_swap_40 : decode cX6_swap 40 = .ok (.ldc 142, 2) := by decide +kernel
theorem dX6_swap_42 : decode cX6_swap 42 = .ok (.ireturn, 1) := by decide +kernel
theorem dX6_swap_43 : decode cX6_swap 43 = .ok (.aload_n 0, 1) := by decide +kernel
theorem dX6_swap_44 : decode cX6_swap 44 = .ok (.getfield 42, 3) := by decide +kernel
theorem dX6_swap_47 : decode cX6_swap 47 = .ok (.aload_n 0, 1) := by decide +kernel
theorem dX6_swap_48 : decode cX6_swap 48 = .ok (.getfield 26, 3) := by decide +kernel
theorem dX6_swap_51 : decode cX6_swap 51 = .ok (.invokevirtual 146, 3) := by decide +kernel
theorem dX6_swap_54 : decode cX6_swap 54 = .ok (.aload_n 0, 1) := by decide +kernel
theorem dX6_swap_55 : decode cX6_swap 55 = .ok (.getfield 26, 3) := by decide +kernel
theorem dX6_swap_58 : decode cX6_swap 58 = .ok (.iload_n 1, 1) := by decide +kernel
theorem dX6_swap_59 : decode cX6_swap 59 = .ok (.iload_n 2, 1) := by decide +kernel
theorem dX6_swap_60 : decode cX6_swap 60 = .ok (.invokevirtual 165, 3) := by decide +kernel
theorem dX6_swap_63 : decode cX6_swap 63 = .ok (.aload_n 0, 1) := by decide +kernel
theorem dX6_swap_64 : decode cX6_swap 64 = .ok (.getfield 26, 3) := by decide +kernel
theorem dX6_swap_67 : decode cX6_swap 67 = .ok (.getfield 162, 3) := by decide +kernel
theorem dX6_swap_70 : decode cX6_swap 70 = .ok (.iload_n 1, 1) := by decide +kernel
theorem dX6_swap_71 : decode cX6_swap 71 = .ok (.iaload, 1) := by decide +kernel
theorem dX6_swap_72 : decode cX6_swap 72 = .ok (.ireturn, 1) := by decide +kernel
theorem dX6_work_0 : decode cX6_work 0 = .ok (.aload_n 0, 1) := by decide +kernel
theorem dX6_work_1 : decode cX6_work 1 = .ok (.getfield 26, 3) := by decide +kernel
theorem dX6_work_4 : decode cX6_work 4 = .ok (.iload_n 1, 1) := by decide +kernel
theorem dX6_work_5 : decode cX6_work 5 = .ok (.invokevirtual 159, 3) := by decide +kernel
theorem dX6_work_8 : decode cX6_work 8 = .ok (.ifCond .eq 13, 3) := by decide +kernel
theorem dX6_work_11 : decode cX6_work 11 = .ok (.iload_n 2, 1) := by decide +kernel
theorem dX6_work_12 : decode cX6_work 12 = .ok (.iconst 0, 1) := by decide +kernel
theorem dX6_work_13 : decode cX6_work 13 = .ok (.bipush 9, 2) := by decide +kernel
theorem dX6_work_15 : decode cX6_work 15 = .ok (.invokestatic 61, 3) := by decide +kernel
theorem dX6_work_18 : decode cX6_work 18 = .ok (.ifCond .ne 6, 3) := by decide +kernel
theorem dX6_work_21 : decode cX6_work 21 = .ok (.ldc 65, 2) := by decide +kernel
theorem dX6_work_23 : decode cX6_work 23 = .ok (.ireturn, 1) := by decide +kernel
theorem dX6_work_24 : decode cX6_work 24 = .ok (.aload_n 0, 1) := by decide +kernel
theorem dX6_work_25 : decode cX6_work 25 = .ok (.getfield 42, 3) := by decide +kernel
theorem dX6_work_28 : decode cX6_work 28 = .ok (.aload_n 0, 1) := by decide +kernel
theorem dX6_work_29 : decode cX6_work 29 = .ok (.getfield 26, 3) := by decide +kernel
theorem dX6_work_32 : decode cX6_work 32 = .ok (.invokevirtual 146, 3) := by decide +kernel
theorem dX6_work_35 : decode cX6_work 35 = .ok (.aload_n 0, 1) := by decide +kernel
theorem dX6_work_36 : decode cX6_work 36 = .ok (.getfield 26, 3) := by decide +kernel
theorem dX6_work_39 : decode cX6_work 39 = .ok (.getfield 169, 3) := by decide +kernel
theorem dX6_work_42 : decode cX6_work 42 = .ok (.iload_n 1, 1) := by decide +kernel
theorem dX6_work_43 : decode cX6_work 43 = .ok (.iaload, 1) := by decide +kernel
theorem dX6_work_44 : decode cX6_work 44 = .ok (.istore_n 3, 1) := by decide +kernel
theorem dX6_work_45 : decode cX6_work 45 = .ok (.aload_n 0, 1) := by decide +kernel
theorem dX6_work_46 : decode cX6_work 46 = .ok (.getfield 26, 3) := by decide +kernel
theorem dX6_work_49 : decode cX6_work 49 = .ok (.getfield 169, 3) := by decide +kernel
theorem dX6_work_52 : decode cX6_work 52 = .ok (.iload_n 1, 1) := by decide +kernel
theorem dX6_work_53 : decode cX6_work 53 = .ok (.iload_n 2, 1) := by decide +kernel
theorem dX6_work_54 : decode cX6_work 54 = .ok (.iastore, 1) := by decide +kernel
theorem dX6_work_55 : decode cX6_work 55 = .ok (.iload_n 3, 1) := by decide +kernel
theorem dX6_work_56 : decode cX6_work 56 = .ok (.ireturn, 1) := by decide +kernel
theorem dX6_slip_0 : decode cX6_slip 0 = .ok (.aload_n 0, 1) := by decide +kernel
theorem dX6_slip_1 : decode cX6_slip 1 = .ok (.getfield 26, 3) := by decide +kernel
theorem dX6_slip_4 : decode cX6_slip 4 = .ok (.invokevirtual 138, 3) := by decide +kernel
theorem dX6_slip_7 : decode cX6_slip 7 = .ok (.ifCond .ne 6, 3) := by decide +kernel
theorem dX6_slip_10 : decode cX6_slip 10 = .ok (.ldc 142, 2) := by decide +kernel
theorem dX6_slip_12 : decode cX6_slip 12 = .ok (.ireturn, 1) := by decide +kernel
theorem dX6_slip_13 : decode cX6_slip 13 = .ok (.iload_n 1, 1) := by decide +kernel
theorem dX6_slip_14 : decode cX6_slip 14 = .ok (.iconst 0, 1) := by decide +kernel
theorem dX6_slip_15 : decode cX6_slip 15 = .ok (.bipush 15, 2) := by decide +kernel
theorem dX6_slip_17 : decode cX6_slip 17 = .ok (.invokestatic 61, 3) := by decide +kernel
theorem dX6_slip_20 : decode cX6_slip 20 = .ok (.ifCond .ne 6, 3) := by decide +kernel
theorem dX6_slip_23 : decode cX6_slip 23 = .ok (.ldc 65, 2) := by decide +kernel
theorem dX6_slip_25 : decode cX6_slip 25 = .ok (.ireturn, 1) := by decide +kernel
theorem dX6_slip_26 : decode cX6_slip 26 = .ok (.aload_n 0, 1) := by decide +kernel
theorem dX6_slip_27 : decode cX6_slip 27 = .ok (.getfield 42, 3) := by decide +kernel
theorem dX6_slip_30 : decode cX6_slip 30 = .ok (.aload_n 0, 1) := by decide +kernel
theorem dX6_slip_31 : decode cX6_slip 31 = .ok (.getfield 26, 3) := by decide +kernel
theorem dX6_slip_34 : decode cX6_slip 34 = .ok (.invokevirtual 146, 3) := by decide +kernel
theorem dX6_slip_37 : decode cX6_slip 37 = .ok (.aload_n 0, 1) := by decide +kernel
theorem dX6_slip_38 : decode cX6_slip 38 = .ok (.getfield 26, 3) := by decide +kernel
theorem dX6_slip_41 : decode cX6_slip 41 = .ok (.getfield 172, 3) := by decide +kernel
theorem dX6_slip_44 : decode cX6_slip 44 = .ok (.istore_n 2, 1) := by decide +kernel
theorem dX6_slip_45 : decode cX6_slip 45 = .ok (.aload_n 0, 1) := by decide +kernel
theorem dX6_slip_46 : decode cX6_slip 46 = .ok (.getfield 26, 3) := by decide +kernel
theorem dX6_slip_49 : decode cX6_slip 49 = .ok (.iload_n 1, 1) := by decide +kernel
theorem dX6_slip_50 : decode cX6_slip 50 = .ok (.putfield 172, 3) := by decide +kernel
theorem dX6_slip_53 : decode cX6_slip 53 = .ok (.iload_n 2, 1) := by decide +kernel
theorem dX6_slip_54 : decode cX6_slip 54 = .ok (.ireturn, 1) := by decide +kernel
theorem dX6_undo_0 : decode cX6_undo 0 = .ok (.aload_n 0, 1) := by decide +kernel
theorem dX6_undo_1 : decode cX6_undo 1 = .ok (.getfield 42, 3) := by decide +kernel
theorem dX6_undo_4 : decode cX6_undo 4 = .ok (.getfield 175, 3) := by decide +kernel
theorem dX6_undo_7 : decode cX6_undo 7 = .ok (.iconst 1, 1) := by decide +kernel
theorem dX6_undo_8 : decode cX6_undo 8 = .ok (.if_icmp .ge 6, 3) := by decide +kernel
theorem dX6_undo_11 : decode cX6_undo 11 = .ok (.ldc 142, 2) := by decide +kernel
theorem dX6_undo_13 : decode cX6_undo 13 = .ok (.ireturn, 1) := by decide +kernel
theorem dX6_undo_14 : decode cX6_undo 14 = .ok (.aload_n 0, 1) := by decide +kernel
theorem dX6_undo_15 : decode cX6_undo 15 = .ok (.getfield 42, 3) := by decide +kernel
theorem dX6_undo_18 : decode cX6_undo 18 = .ok (.aload_n 0, 1) := by decide +kernel
theorem dX6_undo_19 : decode cX6_undo 19 = .ok (.getfield 26, 3) := by decide +kernel
theorem dX6_undo_22 : decode cX6_undo 22 = .ok (.invokevirtual 178, 3) := by decide +kernel
theorem dX6_undo_25 : decode cX6_undo 25 = .ok (.aload_n 0, 1) := by decide +kernel
theorem dX6_undo_26 : decode cX6_undo 26 = .ok (.getfield 42, 3) := by decide +kernel
theorem dX6_undo_29 : decode cX6_undo 29 = .ok (.getfield 175, 3) := by decide +kernel
theorem dX6_undo_32 : decode cX6_undo 32 = .ok (.ireturn, 1) := by decide +kernel
theorem dX6_pin_0 : decode cX6_pin 0 = .ok (.aload_n 0, 1) := by decide +kernel
theorem dX6_pin_1 : decode cX6_pin 1 = .ok (.getfield 26, 3) := by decide +kernel
theorem dX6_pin_4 : decode cX6_pin 4 = .ok (.iload_n 1, 1) := by decide +kernel
theorem dX6_pin_5 : decode cX6_pin 5 = .ok (.invokevirtual 156, 3) := by decide +kernel
theorem dX6_pin_8 : decode cX6_pin 8 = .ok (.ifCond .ne 6, 3) := by decide +kernel
theorem dX6_pin_11 : decode cX6_pin 11 = .ok (.ldc 65, 2) := by decide +kernel
theorem dX6_pin_13 : decode cX6_pin 13 = .ok (.ireturn, 1) := by decide +kernel
theorem dX6_pin_14 : decode cX6_pin 14 = .ok (.iload_n 2, 1) := by decide +kernel
theorem dX6_pin_15 : decode cX6_pin 15 = .ok (.tableswitch 82 0 4 #[33, 43, 53, 63, 72], 33) := by decide +kernel
theorem dX6_pin_48 : decode cX6_pin 48 = .ok (.aload_n 0, 1) := by decide +kernel
theorem dX6_pin_49 : decode cX6_pin 49 = .ok (.getfield 26, 3) := by decide +kernel
theorem dX6_pin_52 : decode cX6_pin 52 = .ok (.getfield 181, 3) := by decide +kernel
theorem dX6_pin_55 : decode cX6_pin 55 = .ok (.iload_n 1, 1) := by decide +kernel
theorem dX6_pin_56 : decode cX6_pin 56 = .ok (.iaload, 1) := by decide +kernel
theorem dX6_pin_57 : decode cX6_pin 57 = .ok (.ireturn, 1) := by decide +kernel
theorem dX6_pin_58 : decode cX6_pin 58 = .ok (.aload_n 0, 1) := by decide +kernel
theorem dX6_pin_59 : decode cX6_pin 59 = .ok (.getfield 26, 3) := by decide +kernel
theorem dX6_pin_62 : decode cX6_pin 62 = .ok (.getfield 184, 3) := by decide +kernel
theorem dX6_pin_65 : decode cX6_pin 65 = .ok (.iload_n 1, 1) := by decide +kernel
theorem dX6_pin_66 : decode cX6_pin 66 = .ok (.iaload, 1) := by decide +kernel
theorem dX6_pin_67 : decode cX6_pin 67 = .ok (.ireturn, 1) := by decide +kernel
theorem dX6_pin_68 : decode cX6_pin 68 = .ok (.aload_n 0, 1) := by decide +kernel
theorem dX6_pin_69 : decode cX6_pin 69 = .ok (.getfield 26, 3) := by decide +kernel
theorem dX6_pin_72 : decode cX6_pin 72 = .ok (.getfield 187, 3) := by decide +kernel
theorem dX6_pin_75 : decode cX6_pin 75 = .ok (.iload_n 1, 1) := by decide +kernel
theorem dX6_pin_76 : decode cX6_pin 76 = .ok (.iaload, 1) := by decide +kernel
theorem dX6_pin_77 : decode cX6_pin 77 = .ok (.ireturn, 1) := by decide +kernel
theorem dX6_pin_78 : decode cX6_pin 78 = .ok (.aload_n 0, 1) := by decide +kernel
theorem dX6_pin_79 : decode cX6_pin 79 = .ok (.getfield 26, 3) := by decide +kernel
theorem dX6_pin_82 : decode cX6_pin 82 = .ok (.iload_n 1, 1) := by decide +kernel
theorem dX6_pin_83 : decode cX6_pin 83 = .ok (.invokevirtual 190, 3) := by decide +kernel
theorem dX6_pin_86 : decode cX6_pin 86 = .ok (.ireturn, 1) := by decide +kernel
theorem dX6_pin_87 : decode cX6_pin 87 = .ok (.aload_n 0, 1) := by decide +kernel
theorem dX6_pin_88 : decode cX6_pin 88 = .ok (.getfield 26, 3) := by decide +kernel
theorem dX6_pin_91 : decode cX6_pin 91 = .ok (.getfield 162, 3) := by decide +kernel
theorem dX6_pin_94 : decode cX6_pin 94 = .ok (.iload_n 1, 1) := by decide +kernel
theorem dX6_pin_95 : decode cX6_pin 95 = .ok (.iaload, 1) := by decide +kernel
theorem dX6_pin_96 : decode cX6_pin 96 = .ok (.ireturn, 1) := by decide +kernel
theorem dX6_pin_97 : decode cX6_pin 97 = .ok (.ldc 65, 2) := by decide +kernel
theorem dX6_pin_99 : decode cX6_pin 99 = .ok (.ireturn, 1) := by decide +kernel
theorem dX6_cell_0 : decode cX6_cell 0 = .ok (.aload_n 0, 1) := by decide +kernel
theorem dX6_cell_1 : decode cX6_cell 1 = .ok (.getfield 26, 3) := by decide +kernel
theorem dX6_cell_4 : decode cX6_cell 4 = .ok (.iload_n 1, 1) := by decide +kernel
theorem dX6_cell_5 : decode cX6_cell 5 = .ok (.invokevirtual 159, 3) := by decide +kernel
theorem dX6_cell_8 : decode cX6_cell 8 = .ok (.ifCond .ne 6, 3) := by decide +kernel
theorem dX6_cell_11 : decode cX6_cell 11 = .ok (.ldc 65, 2) := by decide +kernel
theorem dX6_cell_13 : decode cX6_cell 13 = .ok (.ireturn, 1) := by decide +kernel
theorem dX6_cell_14 : decode cX6_cell 14 = .ok (.iload_n 2, 1) := by decide +kernel
theorem dX6_cell_15 : decode cX6_cell 15 = .ok (.tableswitch 53 0 2 #[25, 35, 44], 25) := by decide +kernel
theorem dX6_cell_40 : decode cX6_cell 40 = .ok (.aload_n 0, 1) := by decide +kernel
theorem dX6_cell_41 : decode cX6_cell 41 = .ok (.getfield 26, 3) := by decide +kernel
theorem dX6_cell_44 : decode cX6_cell 44 = .ok (.getfield 169, 3) := by decide +kernel
theorem dX6_cell_47 : decode cX6_cell 47 = .ok (.iload_n 1, 1) := by decide +kernel
theorem dX6_cell_48 : decode cX6_cell 48 = .ok (.iaload, 1) := by decide +kernel
theorem dX6_cell_49 : decode cX6_cell 49 = .ok (.ireturn, 1) := by decide +kernel
theorem dX6_cell_50 : decode cX6_cell 50 = .ok (.aload_n 0, 1) := by decide +kernel
theorem dX6_cell_51 : decode cX6_cell 51 = .ok (.getfield 26, 3) := by decide +kernel
theorem dX6_cell_54 : decode cX6_cell 54 = .ok (.iload_n 1, 1) := by decide +kernel
theorem dX6_cell_55 : decode cX6_cell 55 = .ok (.invokevirtual 193, 3) := by decide +kernel
theorem dX6_cell_58 : decode cX6_cell 58 = .ok (.ireturn, 1) := by decide +kernel
theorem dX6_cell_59 : decode cX6_cell 59 = .ok (.aload_n 0, 1) := by decide +kernel
theorem dX6_cell_60 : decode cX6_cell 60 = .ok (.getfield 26, 3) := by decide +kernel
theorem dX6_cell_63 : decode cX6_cell 63 = .ok (.iload_n 1, 1) := by decide +kernel
theorem dX6_cell_64 : decode cX6_cell 64 = .ok (.invokevirtual 196, 3) := by decide +kernel
theorem dX6_cell_67 : decode cX6_cell 67 = .ok (.ireturn, 1) := by decide +kernel
theorem dX6_cell_68 : decode cX6_cell 68 = .ok (.ldc 65, 2) := by decide +kernel
theorem dX6_cell_70 : decode cX6_cell 70 = .ok (.ireturn, 1) := by decide +kernel
theorem dX6_ahead_0 : decode cX6_ahead 0 = .ok (.aload_n 0, 1) := by decide +kernel
theorem dX6_ahead_1 : decode cX6_ahead 1 = .ok (.getfield 26, 3) := by decide +kernel
theorem dX6_ahead_4 : decode cX6_ahead 4 = .ok (.iload_n 1, 1) := by decide +kernel
theorem dX6_ahead_5 : decode cX6_ahead 5 = .ok (.invokevirtual 156, 3) := by decide +kernel
theorem dX6_ahead_8 : decode cX6_ahead 8 = .ok (.ifCond .eq 13, 3) := by decide +kernel
theorem dX6_ahead_11 : decode cX6_ahead 11 = .ok (.iload_n 2, 1) := by decide +kernel
theorem dX6_ahead_12 : decode cX6_ahead 12 = .ok (.iconst 0, 1) := by decide +kernel
theorem dX6_ahead_13 : decode cX6_ahead 13 = .ok (.bipush 60, 2) := by decide +kernel
theorem dX6_ahead_15 : decode cX6_ahead 15 = .ok (.invokestatic 61, 3) := by decide +kernel
theorem dX6_ahead_18 : decode cX6_ahead 18 = .ok (.ifCond .ne 6, 3) := by decide +kernel
theorem dX6_ahead_21 : decode cX6_ahead 21 = .ok (.ldc 65, 2) := by decide +kernel
theorem dX6_ahead_23 : decode cX6_ahead 23 = .ok (.ireturn, 1) := by decide +kernel
theorem dX6_ahead_24 : decode cX6_ahead 24 = .ok (.aload_n 0, 1) := by decide +kernel
theorem dX6_ahead_25 : decode cX6_ahead 25 = .ok (.getfield 35, 3) := by decide +kernel
theorem dX6_ahead_28 : decode cX6_ahead 28 = .ok (.iload_n 2, 1) := by decide +kernel
theorem dX6_ahead_29 : decode cX6_ahead 29 = .ok (.invokevirtual 199, 3) := by decide +kernel
theorem dX6_ahead_32 : decode cX6_ahead 32 = .ok (.aload_n 0, 1) := by decide +kernel
theorem dX6_ahead_33 : decode cX6_ahead 33 = .ok (.getfield 35, 3) := by decide +kernel
theorem dX6_ahead_36 : decode cX6_ahead 36 = .ok (.getfield 112, 3) := by decide +kernel
theorem dX6_ahead_39 : decode cX6_ahead 39 = .ok (.iload_n 1, 1) := by decide +kernel
theorem dX6_ahead_40 : decode cX6_ahead 40 = .ok (.invokevirtual 190, 3) := by decide +kernel
theorem dX6_ahead_43 : decode cX6_ahead 43 = .ok (.ireturn, 1) := by decide +kernel
theorem dX6_earned_0 : decode cX6_earned 0 = .ok (.aload_n 0, 1) := by decide +kernel
theorem dX6_earned_1 : decode cX6_earned 1 = .ok (.getfield 26, 3) := by decide +kernel
theorem dX6_earned_4 : decode cX6_earned 4 = .ok (.invokevirtual 138, 3) := by decide +kernel
theorem dX6_earned_7 : decode cX6_earned 7 = .ok (.ifCond .ne 6, 3) := by decide +kernel
theorem dX6_earned_10 : decode cX6_earned 10 = .ok (.ldc 142, 2) := by decide +kernel
theorem dX6_earned_12 : decode cX6_earned 12 = .ok (.ireturn, 1) := by decide +kernel
theorem dX6_earned_13 : decode cX6_earned 13 = .ok (.iload_n 1, 1) := by decide +kernel
theorem dX6_earned_14 : decode cX6_earned 14 = .ok (.iconst 0, 1) := by decide +kernel
theorem dX6_earned_15 : decode cX6_earned 15 = .ok (.bipush 60, 2) := by decide +kernel
theorem dX6_earned_17 : decode cX6_earned 17 = .ok (.invokestatic 61, 3) := by decide +kernel
theorem dX6_earned_20 : decode cX6_earned 20 = .ok (.ifCond .ne 6, 3) := by decide +kernel
theorem dX6_earned_23 : decode cX6_earned 23 = .ok (.ldc 65, 2) := by decide +kernel
theorem dX6_earned_25 : decode cX6_earned 25 = .ok (.ireturn, 1) := by decide +kernel
theorem dX6_earned_26 : decode cX6_earned 26 = .ok (.aload_n 0, 1) := by decide +kernel
theorem dX6_earned_27 : decode cX6_earned 27 = .ok (.getfield 35, 3) := by decide +kernel
theorem dX6_earned_30 : decode cX6_earned 30 = .ok (.iload_n 1, 1) := by decide +kernel
theorem dX6_earned_31 : decode cX6_earned 31 = .ok (.invokevirtual 199, 3) := by decide +kernel
theorem dX6_earned_34 : decode cX6_earned 34 = .ok (.aload_n 0, 1) := by decide +kernel
theorem dX6_earned_35 : decode cX6_earned 35 = .ok (.getfield 35, 3) := by decide +kernel
theorem dX6_earned_38 : decode cX6_earned 38 = .ok (.getfield 112, 3) := by decide +kernel
theorem dX6_earned_41 : decode cX6_earned 41 = .ok (.getfield 203, 3) := by decide +kernel
theorem dX6_earned_44 : decode cX6_earned 44 = .ok (.ireturn, 1) := by decide +kernel
theorem dX6_tomsk_0 : decode cX6_tomsk 0 = .ok (.aload_n 0, 1) := by decide +kernel
theorem dX6_tomsk_1 : decode cX6_tomsk 1 = .ok (.getfield 26, 3) := by decide +kernel
theorem dX6_tomsk_4 : decode cX6_tomsk 4 = .ok (.iload_n 1, 1) := by decide +kernel
theorem dX6_tomsk_5 : decode cX6_tomsk 5 = .ok (.invokevirtual 156, 3) := by decide +kernel
theorem dX6_tomsk_8 : decode cX6_tomsk 8 = .ok (.ifCond .eq 26, 3) := by decide +kernel
theorem dX6_tomsk_11 : decode cX6_tomsk 11 = .ok (.aload_n 0, 1) := by decide +kernel
theorem dX6_tomsk_12 : decode cX6_tomsk 12 = .ok (.getfield 26, 3) := by decide +kernel
theorem dX6_tomsk_15 : decode cX6_tomsk 15 = .ok (.iload_n 2, 1) := by decide +kernel
theorem dX6_tomsk_16 : decode cX6_tomsk 16 = .ok (.invokevirtual 159, 3) := by decide +kernel
theorem dX6_tomsk_19 : decode cX6_tomsk 19 = .ok (.ifCond .eq 15, 3) := by decide +kernel
theorem dX6_tomsk_22 : decode cX6_tomsk 22 = .ok (.aload_n 0, 1) := by decide +kernel
theorem dX6_tomsk_23 : decode cX6_tomsk 23 = .ok (.getfield 35, 3) := by decide +kernel
theorem dX6_tomsk_26 : decode cX6_tomsk 26 = .ok (.iload_n 1, 1) := by decide +kernel
theorem dX6_tomsk_27 : decode cX6_tomsk 27 = .ok (.iload_n 2, 1) := by decide +kernel
theorem dX6_tomsk_28 : decode cX6_tomsk 28 = .ok (.invokevirtual 206, 3) := by decide +kernel
theorem dX6_tomsk_31 : decode cX6_tomsk 31 = .ok (.goto 5, 3) := by decide +kernel
theorem dX6_tomsk_34 : decode cX6_tomsk 34 = .ok (.ldc 65, 2) := by decide +kernel
theorem dX6_tomsk_36 : decode cX6_tomsk 36 = .ok (.ireturn, 1) := by decide +kernel
theorem dX6_round_0 : decode cX6_round 0 = .ok (.aload_n 0, 1) := by decide +kernel
theorem dX6_round_1 : decode cX6_round 1 = .ok (.getfield 26, 3) := by decide +kernel
theorem dX6_round_4 : decode cX6_round 4 = .ok (.invokevirtual 138, 3) := by decide +kernel
theorem dX6_round_7 : decode cX6_round 7 = .ok (.ifCond .eq 13, 3) := by decide +kernel
theorem dX6_round_10 : decode cX6_round 10 = .ok (.aload_n 0, 1) := by decide +kernel
theorem dX6_round_11 : decode cX6_round 11 = .ok (.getfield 35, 3) := by decide +kernel
theorem dX6_round_14 : decode cX6_round 14 = .ok (.invokevirtual 210, 3) := by decide +kernel
theorem dX6_round_17 : decode cX6_round 17 = .ok (.goto 5, 3) := by decide +kernel
theorem dX6_round_20 : decode cX6_round 20 = .ok (.ldc 142, 2) := by decide +kernel
theorem dX6_round_22 : decode cX6_round 22 = .ok (.ireturn, 1) := by decide +kernel
theorem dX6_right_0 : decode cX6_right 0 = .ok (.aload_n 0, 1) := by decide +kernel
theorem dX6_right_1 : decode cX6_right 1 = .ok (.getfield 26, 3) := by decide +kernel
theorem dX6_right_4 : decode cX6_right 4 = .ok (.invokevirtual 138, 3) := by decide +kernel
theorem dX6_right_7 : decode cX6_right 7 = .ok (.ifCond .ne 6, 3) := by decide +kernel
theorem dX6_right_10 : decode cX6_right 10 = .ok (.ldc 142, 2) := by decide +kernel
theorem dX6_right_12 : decode cX6_right 12 = .ok (.ireturn, 1) := by decide +kernel
theorem dX6_right_13 : decode cX6_right 13 = .ok (.iload_n 1, 1) := by decide +kernel
theorem dX6_right_14 : decode cX6_right 14 = .ok (.lookupswitch 42 #[(0, 26), (1, 34)], 26) := by decide +kernel
theorem dX6_right_40 : decode cX6_right 40 = .ok (.aload_n 0, 1) := by decide +kernel
theorem dX6_right_41 : decode cX6_right 41 = .ok (.getfield 26, 3) := by decide +kernel
theorem dX6_right_44 : decode cX6_right 44 = .ok (.invokevirtual 214, 3) := by decide +kernel
theorem dX6_right_47 : decode cX6_right 47 = .ok (.ireturn, 1) := by decide +kernel
theorem dX6_right_48 : decode cX6_right 48 = .ok (.aload_n 0, 1) := by decide +kernel
theorem dX6_right_49 : decode cX6_right 49 = .ok (.getfield 26, 3) := by decide +kernel
theorem dX6_right_52 : decode cX6_right 52 = .ok (.invokevirtual 217, 3) := by decide +kernel
theorem dX6_right_55 : decode cX6_right 55 = .ok (.ireturn, 1) := by decide +kernel
theorem dX6_right_56 : decode cX6_right 56 = .ok (.ldc 65, 2) := by decide +kernel
theorem dX6_right_58 : decode cX6_right 58 = .ok (.ireturn, 1) := by decide +kernel
theorem dX6_best_0 : decode cX6_best 0 = .ok (.aload_n 0, 1) := by decide +kernel
theorem dX6_best_1 : decode cX6_best 1 = .ok (.getfield 26, 3) := by decide +kernel
theorem dX6_best_4 : decode cX6_best 4 = .ok (.invokevirtual 138, 3) := by decide +kernel
theorem dX6_best_7 : decode cX6_best 7 = .ok (.ifCond .ne 6, 3) := by decide +kernel
theorem dX6_best_10 : decode cX6_best 10 = .ok (.ldc 142, 2) := by decide +kernel
theorem dX6_best_12 : decode cX6_best 12 = .ok (.ireturn, 1) := by decide +kernel
theorem dX6_best_13 : decode cX6_best 13 = .ok (.iload_n 1, 1) := by decide +kernel
theorem dX6_best_14 : decode cX6_best 14 = .ok (.iconst (-1), 1) := by decide +kernel
theorem dX6_best_15 : decode cX6_best 15 = .ok (.if_icmp .eq 17, 3) := by decide +kernel
theorem dX6_best_18 : decode cX6_best 18 = .ok (.aload_n 0, 1) := by decide +kernel
theorem dX6_best_19 : decode cX6_best 19 = .ok (.getfield 26, 3) := by decide +kernel
theorem dX6_best_22 : decode cX6_best 22 = .ok (.iload_n 1, 1) := by decide +kernel
theorem dX6_best_23 : decode cX6_best 23 = .ok (.invokevirtual 156, 3) := by decide +kernel
theorem dX6_best_26 : decode cX6_best 26 = .ok (.ifCond .ne 6, 3) := by decide +kernel
theorem dX6_best_29 : decode cX6_best 29 = .ok (.ldc 65, 2) := by decide +kernel
theorem dX6_best_31 : decode cX6_best 31 = .ok (.ireturn, 1) := by decide +kernel
theorem dX6_best_32 : decode cX6_best 32 = .ok (.aload_n 0, 1) := by decide +kernel
theorem dX6_best_33 : decode cX6_best 33 = .ok (.getfield 26, 3) := by decide +kernel
theorem dX6_best_36 : decode cX6_best 36 = .ok (.getfield 132, 3) := by decide +kernel
theorem dX6_best_39 : decode cX6_best 39 = .ok (.aload_n 0, 1) := by decide +kernel
theorem dX6_best_40 : decode cX6_best 40 = .ok (.getfield 26, 3) := by decide +kernel
theorem dX6_best_43 : decode cX6_best 43 = .ok (.getfield 220, 3) := by decide +kernel
theorem dX6_best_46 : decode cX6_best 46 = .ok (.if_icmp .le 6, 3) := by decide +kernel
theorem dX6_best_49 : decode cX6_best 49 = .ok (.ldc 223, 2) := by decide +kernel
theorem dX6_best_51 : decode cX6_best 51 = .ok (.ireturn, 1) := by decide +kernel
theorem dX6_best_52 : decode cX6_best 52 = .ok (.iload_n 1, 1) := by decide +kernel
theorem dX6_best_53 : decode cX6_best 53 = .ok (.iconst (-1), 1) := by decide +kernel
theorem dX6_best_54 : decode cX6_best 54 = .ok (.if_icmp .ne 15, 3) := by decide +kernel
theorem dX6_best_57 : decode cX6_best 57 = .ok (.aload_n 0, 1) := by decide +kernel
theorem dX6_best_58 : decode cX6_best 58 = .ok (.getfield 35, 3) := by decide +kernel
theorem dX6_best_61 : decode cX6_best 61 = .ok (.iconst 0, 1) := by decide +kernel
theorem dX6_best_62 : decode cX6_best 62 = .ok (.iconst 0, 1) := by decide +kernel
theorem dX6_best_63 : decode cX6_best 63 = .ok (.invokevirtual 224, 3) := by decide +kernel
theorem dX6_best_66 : decode cX6_best 66 = .ok (.goto 11, 3) := by decide +kernel
theorem dX6_best_69 : decode cX6_best 69 = .ok (.aload_n 0, 1) := by decide +kernel
theorem dX6_best_70 : decode cX6_best 70 = .ok (.getfield 35, 3) := by decide +kernel
theorem dX6_best_73 : decode cX6_best 73 = .ok (.iload_n 1, 1) := by decide +kernel
theorem dX6_best_74 : decode cX6_best 74 = .ok (.invokevirtual 227, 3) := by decide +kernel
theorem dX6_best_77 : decode cX6_best 77 = .ok (.ireturn, 1) := by decide +kernel
theorem dX6_fits_0 : decode cX6_fits 0 = .ok (.aload_n 0, 1) := by decide +kernel
theorem dX6_fits_1 : decode cX6_fits 1 = .ok (.getfield 26, 3) := by decide +kernel
theorem dX6_fits_4 : decode cX6_fits 4 = .ok (.iload_n 1, 1) := by decide +kernel
theorem dX6_fits_5 : decode cX6_fits 5 = .ok (.invokevirtual 156, 3) := by decide +kernel
theorem dX6_fits_8 : decode cX6_fits 8 = .ok (.ifCond .eq 18, 3) := by decide +kernel
theorem dX6_fits_11 : decode cX6_fits 11 = .ok (.aload_n 0, 1) := by decide +kernel
theorem dX6_fits_12 : decode cX6_fits 12 = .ok (.getfield 10, 3) := by decide +kernel
theorem dX6_fits_15 : decode cX6_fits 15 = .ok (.iload_n 2, 1) := by decide +kernel
theorem dX6_fits_16 : decode cX6_fits 16 = .ok (.invokevirtual 57, 3) := by decide +kernel
theorem dX6_fits_19 : decode cX6_fits 19 = .ok (.ifCond .eq 7, 3) := by decide +kernel
theorem dX6_fits_22 : decode cX6_fits 22 = .ok (.iconst 1, 1) := by decide +kernel
theorem dX6_fits_23 : decode cX6_fits 23 = .ok (.goto 4, 3) := by decide +kernel
theorem dX6_fits_26 : decode cX6_fits 26 = .ok (.iconst 0, 1) := by decide +kernel
theorem dX6_fits_27 : decode cX6_fits 27 = .ok (.istore 6, 2) := by decide +kernel
theorem dX6_fits_29 : decode cX6_fits 29 = .ok (.iload 6, 2) := by decide +kernel
theorem dX6_fits_31 : decode cX6_fits 31 = .ok (.ifCond .eq 24, 3) := by decide +kernel
theorem dX6_fits_34 : decode cX6_fits 34 = .ok (.iload 4, 2) := by decide +kernel
theorem dX6_fits_36 : decode cX6_fits 36 = .ok (.iconst 1, 1) := by decide +kernel
theorem dX6_fits_37 : decode cX6_fits 37 = .ok (.bipush 12, 2) := by decide +kernel
theorem dX6_fits_39 : decode cX6_fits 39 = .ok (.invokestatic 61, 3) := by decide +kernel
theorem dX6_fits_42 : decode cX6_fits 42 = .ok (.ifCond .eq 13, 3) := by decide +kernel
theorem dX6_fits_45 : decode cX6_fits 45 = .ok (.iload 5, 2) := by decide +kernel
theorem dX6_fits_47 : decode cX6_fits 47 = .ok (.iconst 0, 1) := by decide +kernel
theorem dX6_fits_48 : decode cX6_fits 48 = .ok (.iconst 3, 1) := by decide +kernel
theorem dX6_fits_49 : decode cX6_fits 49 = .ok (.invokestatic 61, 3) := by decide +kernel
theorem dX6_fits_52 : decode cX6_fits 52 = .ok (.ifCond .ne 6, 3) := by decide +kernel
theorem dX6_fits_55 : decode cX6_fits 55 = .ok (.ldc 65, 2) := by decide +kernel
theorem dX6_fits_57 : decode cX6_fits 57 = .ok (.ireturn, 1) := by decide +kernel
theorem dX6_fits_58 : decode cX6_fits 58 = .ok (.aload_n 0, 1) := by decide +kernel
theorem dX6_fits_59 : decode cX6_fits 59 = .ok (.getfield 10, 3) := by decide +kernel
theorem dX6_fits_62 : decode cX6_fits 62 = .ok (.iload_n 2, 1) := by decide +kernel
theorem dX6_fits_63 : decode cX6_fits 63 = .ok (.invokevirtual 77, 3) := by decide +kernel
theorem dX6_fits_66 : decode cX6_fits 66 = .ok (.ifCond .eq 9, 3) := by decide +kernel
theorem dX6_fits_69 : decode cX6_fits 69 = .ok (.aload_n 0, 1) := by decide +kernel
theorem dX6_fits_70 : decode cX6_fits 70 = .ok (.iconst 1, 1) := by decide +kernel
theorem dX6_fits_71 : decode cX6_fits 71 = .ok (.invokevirtual 66, 3) := by decide +kernel
theorem dX6_fits_74 : decode cX6_fits 74 = .ok (.ireturn, 1) := by decide +kernel
theorem dX6_fits_75 : decode cX6_fits 75 = .ok (.aload_n 0, 1) := by decide +kernel
theorem dX6_fits_76 : decode cX6_fits 76 = .ok (.getfield 10, 3) := by decide +kernel
theorem dX6_fits_79 : decode cX6_fits 79 = .ok (.iload_n 2, 1) := by decide +kernel
theorem dX6_fits_80 : decode cX6_fits 80 = .ok (.iload_n 3, 1) := by decide +kernel
theorem dX6_fits_81 : decode cX6_fits 81 = .ok (.iload 4, 2) := by decide +kernel
theorem dX6_fits_83 : decode cX6_fits 83 = .ok (.invokevirtual 80, 3) := by decide +kernel
theorem dX6_fits_86 : decode cX6_fits 86 = .ok (.ifCond .ne 9, 3) := by decide +kernel
theorem dX6_fits_89 : decode cX6_fits 89 = .ok (.aload_n 0, 1) := by decide +kernel
theorem dX6_fits_90 : decode cX6_fits 90 = .ok (.iconst 2, 1) := by decide +kernel
theorem dX6_fits_91 : decode cX6_fits 91 = .ok (.invokevirtual 66, 3) := by decide +kernel
theorem dX6_fits_94 : decode cX6_fits 94 = .ok (.ireturn, 1) := by decide +kernel
theorem dX6_fits_95 : decode cX6_fits 95 = .ok (.aload_n 0, 1) := by decide +kernel
theorem dX6_fits_96 : decode cX6_fits 96 = .ok (.aload_n 0, 1) := by decide +kernel
theorem dX6_fits_97 : decode cX6_fits 97 = .ok (.getfield 35, 3) := by decide +kernel
theorem dX6_fits_100 : decode cX6_fits 100 = .ok (.iload_n 1, 1) := by decide +kernel
theorem dX6_fits_101 : decode cX6_fits 101 = .ok (.iload 5, 2) := by decide +kernel
theorem dX6_fits_103 : decode cX6_fits 103 = .ok (.aload_n 0, 1) := by decide +kernel
theorem dX6_fits_104 : decode cX6_fits 104 = .ok (.getfield 10, 3) := by decide +kernel
theorem dX6_fits_107 : decode cX6_fits 107 = .ok (.getfield 91, 3) := by decide +kernel
theorem dX6_fits_110 : decode cX6_fits 110 = .ok (.iload_n 2, 1) := by decide +kernel
theorem dX6_fits_111 : decode cX6_fits 111 = .ok (.aaload, 1) := by decide +kernel
theorem dX6_fits_112 : decode cX6_fits 112 = .ok (.iload_n 3, 1) := by decide +kernel
theorem dX6_fits_113 : decode cX6_fits 113 = .ok (.iload 4, 2) := by decide +kernel
theorem dX6_fits_115 : decode cX6_fits 115 = .ok (.invokevirtual 230, 3) := by decide +kernel
theorem dX6_fits_118 : decode cX6_fits 118 = .ok (.invokevirtual 74, 3) := by decide +kernel
theorem dX6_fits_121 : decode cX6_fits 121 = .ok (.ireturn, 1) := by decide +kernel
theorem dX6_left_0 : decode cX6_left 0 = .ok (.aload_n 0, 1) := by decide +kernel
theorem dX6_left_1 : decode cX6_left 1 = .ok (.getfield 26, 3) := by decide +kernel
theorem dX6_left_4 : decode cX6_left 4 = .ok (.iload_n 1, 1) := by decide +kernel
theorem dX6_left_5 : decode cX6_left 5 = .ok (.invokevirtual 159, 3) := by decide +kernel
theorem dX6_left_8 : decode cX6_left 8 = .ok (.ifCond .eq 22, 3) := by decide +kernel
theorem dX6_left_11 : decode cX6_left 11 = .ok (.iload_n 2, 1) := by decide +kernel
theorem dX6_left_12 : decode cX6_left 12 = .ok (.iconst 0, 1) := by decide +kernel
theorem dX6_left_13 : decode cX6_left 13 = .ok (.bipush 10, 2) := by decide +kernel
theorem dX6_left_15 : decode cX6_left 15 = .ok (.invokestatic 61, 3) := by decide +kernel
theorem dX6_left_18 : decode cX6_left 18 = .ok (.ifCond .eq 12, 3) := by decide +kernel
theorem dX6_left_21 : decode cX6_left 21 = .ok (.iload_n 3, 1) := by decide +kernel
theorem dX6_left_22 : decode cX6_left 22 = .ok (.iconst 0, 1) := by decide +kernel
theorem dX6_left_23 : decode cX6_left 23 = .ok (.iconst 1, 1) := by decide +kernel
theorem dX6_left_24 : decode cX6_left 24 = .ok (.invokestatic 61, 3) := by decide +kernel
theorem dX6_left_27 : decode cX6_left 27 = .ok (.ifCond .ne 6, 3) := by decide +kernel
theorem dX6_left_30 : decode cX6_left 30 = .ok (.ldc 65, 2) := by decide +kernel
theorem dX6_left_32 : decode cX6_left 32 = .ok (.ireturn, 1) := by decide +kernel
theorem dX6_left_33 : decode cX6_left 33 = .ok (.aload_n 0, 1) := by decide +kernel
theorem dX6_left_34 : decode cX6_left 34 = .ok (.getfield 35, 3) := by decide +kernel
theorem dX6_left_37 : decode cX6_left 37 = .ok (.iload_n 1, 1) := by decide +kernel
theorem dX6_left_38 : decode cX6_left 38 = .ok (.iload_n 2, 1) := by decide +kernel
theorem dX6_left_39 : decode cX6_left 39 = .ok (.iload_n 3, 1) := by decide +kernel
theorem dX6_left_40 : decode cX6_left 40 = .ok (.invokevirtual 234, 3) := by decide +kernel
theorem dX6_left_43 : decode cX6_left 43 = .ok (.ireturn, 1) := by decide +kernel
theorem dX6_drawn_0 : decode cX6_drawn 0 = .ok (.aload_n 0, 1) := by decide +kernel
theorem dX6_drawn_1 : decode cX6_drawn 1 = .ok (.getfield 26, 3) := by decide +kernel
theorem dX6_drawn_4 : decode cX6_drawn 4 = .ok (.invokevirtual 138, 3) := by decide +kernel
theorem dX6_drawn_7 : decode cX6_drawn 7 = .ok (.ifCond .ne 6, 3) := by decide +kernel
theorem dX6_drawn_10 : decode cX6_drawn 10 = .ok (.ldc 142, 2) := by decide +kernel
theorem dX6_drawn_12 : decode cX6_drawn 12 = .ok (.ireturn, 1) := by decide +kernel
theorem dX6_drawn_13 : decode cX6_drawn 13 = .ok (.iload_n 1, 1) := by decide +kernel
theorem dX6_drawn_14 : decode cX6_drawn 14 = .ok (.iconst 0, 1) := by decide +kernel
theorem dX6_drawn_15 : decode cX6_drawn 15 = .ok (.bipush 30, 2) := by decide +kernel
theorem dX6_drawn_17 : decode cX6_drawn 17 = .ok (.invokestatic 61, 3) := by decide +kernel
theorem dX6_drawn_20 : decode cX6_drawn 20 = .ok (.ifCond .eq 22, 3) := by decide +kernel
theorem dX6_drawn_23 : decode cX6_drawn 23 = .ok (.iload_n 2, 1) := by decide +kernel
theorem dX6_drawn_24 : decode cX6_drawn 24 = .ok (.iconst 1, 1) := by decide +kernel
theorem dX6_drawn_25 : decode cX6_drawn 25 = .ok (.ldc 237, 2) := by decide +kernel
theorem dX6_drawn_27 : decode cX6_drawn 27 = .ok (.invokestatic 61, 3) := by decide +kernel
theorem dX6_drawn_30 : decode cX6_drawn 30 = .ok (.ifCond .eq 12, 3) := by decide +kernel
theorem dX6_drawn_33 : decode cX6_drawn 33 = .ok (.iload_n 3, 1) := by decide +kernel
theorem dX6_drawn_34 : decode cX6_drawn 34 = .ok (.iconst 0, 1) := by decide +kernel
theorem dX6_drawn_35 : decode cX6_drawn 35 = .ok (.iconst 1, 1) := by decide +kernel
theorem dX6_drawn_36 : decode cX6_drawn 36 = .ok (.invokestatic 61, 3) := by decide +kernel
theorem dX6_drawn_39 : decode cX6_drawn 39 = .ok (.ifCond .ne 6, 3) := by decide +kernel
theorem dX6_drawn_42 : decode cX6_drawn 42 = .ok (.ldc 65, 2) := by decide +kernel
theorem dX6_drawn_44 : decode cX6_drawn 44 = .ok (.ireturn, 1) := by decide +kernel
theorem dX6_drawn_45 : decode cX6_drawn 45 = .ok (.aload_n 0, 1) := by decide +kernel
theorem dX6_drawn_46 : decode cX6_drawn 46 = .ok (.getfield 35, 3) := by decide +kernel
theorem dX6_drawn_49 : decode cX6_drawn 49 = .ok (.iload_n 1, 1) := by decide +kernel
theorem dX6_drawn_50 : decode cX6_drawn 50 = .ok (.iload_n 2, 1) := by decide +kernel
theorem dX6_drawn_51 : decode cX6_drawn 51 = .ok (.invokevirtual 238, 3) := by decide +kernel
theorem dX6_drawn_54 : decode cX6_drawn 54 = .ok (.iload_n 3, 1) := by decide +kernel
theorem dX6_drawn_55 : decode cX6_drawn 55 = .ok (.ifCond .ne 16, 3) := by decide +kernel
theorem dX6_drawn_58 : decode cX6_drawn 58 = .ok (.aload_n 0, 1) := by decide +kernel
theorem dX6_drawn_59 : decode cX6_drawn 59 = .ok (.getfield 35, 3) := by decide +kernel
theorem dX6_drawn_62 : decode cX6_drawn 62 = .ok (.getfield 112, 3) := by decide +kernel
theorem dX6_drawn_65 : decode cX6_drawn 65 = .ok (.getfield 203, 3) := by decide +kernel
theorem dX6_drawn_68 : decode cX6_drawn 68 = .ok (.goto 16, 3) := by decide +kernel
theorem dX6_drawn_71 : decode cX6_drawn 71 = .ok (.aload_n 0, 1) := by decide +kernel
theorem dX6_drawn_72 : decode cX6_drawn 72 = .ok (.getfield 35, 3) := by decide +kernel
theorem dX6_drawn_75 : decode cX6_drawn 75 = .ok (.getfield 112, 3) := by decide +kernel
theorem dX6_drawn_78 : decode cX6_drawn 78 = .ok (.invokevirtual 214, 3) := by decide +kernel
theorem dX6_drawn_81 : decode cX6_drawn 81 = .ok (.invokestatic 241, 3) := by decide +kernel
theorem dX6_drawn_84 : decode cX6_drawn 84 = .ok (.ireturn, 1) := by decide +kernel
theorem dX6_image_0 : decode cX6_image 0 = .ok (.iload_n 1, 1) := by decide +kernel
theorem dX6_image_1 : decode cX6_image 1 = .ok (.iconst 0, 1) := by decide +kernel
theorem dX6_image_2 : decode cX6_image 2 = .ok (.iconst 1, 1) := by decide +kernel
theorem dX6_image_3 : decode cX6_image 3 = .ok (.invokestatic 61, 3) := by decide +kernel
theorem dX6_image_6 : decode cX6_image 6 = .ok (.ifCond .ne 6, 3) := by decide +kernel
theorem dX6_image_9 : decode cX6_image 9 = .ok (.ldc 65, 2) := by decide +kernel
theorem dX6_image_11 : decode cX6_image 11 = .ok (.ireturn, 1) := by decide +kernel
theorem dX6_image_12 : decode cX6_image 12 = .ok (.aload_n 0, 1) := by decide +kernel
theorem dX6_image_13 : decode cX6_image 13 = .ok (.getfield 26, 3) := by decide +kernel
theorem dX6_image_16 : decode cX6_image 16 = .ok (.invokevirtual 138, 3) := by decide +kernel
theorem dX6_image_19 : decode cX6_image 19 = .ok (.ifCond .ne 6, 3) := by decide +kernel
theorem dX6_image_22 : decode cX6_image 22 = .ok (.ldc 142, 2) := by decide +kernel
theorem dX6_image_24 : decode cX6_image 24 = .ok (.ireturn, 1) := by decide +kernel
theorem dX6_image_25 : decode cX6_image 25 = .ok (.aload_n 0, 1) := by decide +kernel
theorem dX6_image_26 : decode cX6_image 26 = .ok (.getfield 53, 3) := by decide +kernel
theorem dX6_image_29 : decode cX6_image 29 = .ok (.iload_n 1, 1) := by decide +kernel
theorem dX6_image_30 : decode cX6_image 30 = .ok (.aaload, 1) := by decide +kernel
theorem dX6_image_31 : decode cX6_image 31 = .ok (.aload_n 0, 1) := by decide +kernel
theorem dX6_image_32 : decode cX6_image 32 = .ok (.getfield 26, 3) := by decide +kernel
theorem dX6_image_35 : decode cX6_image 35 = .ok (.invokevirtual 126, 3) := by decide +kernel
theorem dX6_image_38 : decode cX6_image 38 = .ok (.iconst 1, 1) := by decide +kernel
theorem dX6_image_39 : decode cX6_image 39 = .ok (.ireturn, 1) := by decide +kernel
theorem dX6_restore_0 : decode cX6_restore 0 = .ok (.iload_n 1, 1) := by decide +kernel
theorem dX6_restore_1 : decode cX6_restore 1 = .ok (.iconst 0, 1) := by decide +kernel
theorem dX6_restore_2 : decode cX6_restore 2 = .ok (.iconst 1, 1) := by decide +kernel
theorem dX6_restore_3 : decode cX6_restore 3 = .ok (.invokestatic 61, 3) := by decide +kernel
theorem dX6_restore_6 : decode cX6_restore 6 = .ok (.ifCond .ne 6, 3) := by decide +kernel
theorem dX6_restore_9 : decode cX6_restore 9 = .ok (.ldc 65, 2) := by decide +kernel
theorem dX6_restore_11 : decode cX6_restore 11 = .ok (.ireturn, 1) := by decide +kernel
theorem dX6_restore_12 : decode cX6_restore 12 = .ok (.aload_n 0, 1) := by decide +kernel
theorem dX6_restore_13 : decode cX6_restore 13 = .ok (.getfield 53, 3) := by decide +kernel
theorem dX6_restore_16 : decode cX6_restore 16 = .ok (.iload_n 1, 1) := by decide +kernel
theorem dX6_restore_17 : decode cX6_restore 17 = .ok (.aaload, 1) := by decide +kernel
theorem dX6_restore_18 : decode cX6_restore 18 = .ok (.invokevirtual 138, 3) := by decide +kernel
theorem dX6_restore_21 : decode cX6_restore 21 = .ok (.ifCond .ne 6, 3) := by decide +kernel
theorem dX6_restore_24 : decode cX6_restore 24 = .ok (.ldc 142, 2) := by decide +kernel
theorem dX6_restore_26 : decode cX6_restore 26 = .ok (.ireturn, 1) := by decide +kernel
theorem dX6_restore_27 : decode cX6_restore 27 = .ok (.aload_n 0, 1) := by decide +kernel
theorem dX6_restore_28 : decode cX6_restore 28 = .ok (.getfield 26, 3) := by decide +kernel
theorem dX6_restore_31 : decode cX6_restore 31 = .ok (.aload_n 0, 1) := by decide +kernel
theorem dX6_restore_32 : decode cX6_restore 32 = .ok (.getfield 53, 3) := by decide +kernel
theorem dX6_restore_35 : decode cX6_restore 35 = .ok (.iload_n 1, 1) := by decide +kernel
theorem dX6_restore_36 : decode cX6_restore 36 = .ok (.aaload, 1) := by decide +kernel
theorem dX6_restore_37 : decode cX6_restore 37 = .ok (.invokevirtual 126, 3) := by decide +kernel
theorem dX6_restore_40 : decode cX6_restore 40 = .ok (.aload_n 0, 1) := by decide +kernel
theorem dX6_restore_41 : decode cX6_restore 41 = .ok (.getfield 42, 3) := by decide +kernel
theorem dX6_restore_44 : decode cX6_restore 44 = .ok (.invokevirtual 129, 3) := by decide +kernel
theorem dX6_restore_47 : decode cX6_restore 47 = .ok (.iconst 1, 1) := by decide +kernel
theorem dX6_restore_48 : decode cX6_restore 48 = .ok (.ireturn, 1) := by decide +kernel
theorem dX6_kind_0 : decode cX6_kind 0 = .ok (.aload_n 0, 1) := by decide +kernel
theorem dX6_kind_1 : decode cX6_kind 1 = .ok (.getfield 26, 3) := by decide +kernel
theorem dX6_kind_4 : decode cX6_kind 4 = .ok (.iload_n 1, 1) := by decide +kernel
theorem dX6_kind_5 : decode cX6_kind 5 = .ok (.invokevirtual 156, 3) := by decide +kernel
theorem dX6_kind_8 : decode cX6_kind 8 = .ok (.ifCond .eq 15, 3) := by decide +kernel
theorem dX6_kind_11 : decode cX6_kind 11 = .ok (.aload_n 0, 1) := by decide +kernel
theorem dX6_kind_12 : decode cX6_kind 12 = .ok (.getfield 26, 3) := by decide +kernel
theorem dX6_kind_15 : decode cX6_kind 15 = .ok (.getfield 246, 3) := by decide +kernel
theorem dX6_kind_18 : decode cX6_kind 18 = .ok (.iload_n 1, 1) := by decide +kernel
theorem dX6_kind_19 : decode cX6_kind 19 = .ok (.iaload, 1) := by decide +kernel
theorem dX6_kind_20 : decode cX6_kind 20 = .ok (.goto 5, 3) := by decide +kernel
theorem dX6_kind_23 : decode cX6_kind 23 = .ok (.ldc 65, 2) := by decide +kernel
theorem dX6_kind_25 : decode cX6_kind 25 = .ok (.ireturn, 1) := by decide +kernel
theorem dX6_as_0 : decode cX6_as 0 = .ok (.aload_n 0, 1) := by decide +kernel
theorem dX6_as_1 : decode cX6_as 1 = .ok (.getfield 26, 3) := by decide +kernel
theorem dX6_as_4 : decode cX6_as 4 = .ok (.iload_n 1, 1) := by decide +kernel
theorem dX6_as_5 : decode cX6_as 5 = .ok (.invokevirtual 156, 3) := by decide +kernel
theorem dX6_as_8 : decode cX6_as 8 = .ok (.ifCond .eq 12, 3) := by decide +kernel
theorem dX6_as_11 : decode cX6_as 11 = .ok (.iload_n 2, 1) := by decide +kernel
theorem dX6_as_12 : decode cX6_as 12 = .ok (.iconst 0, 1) := by decide +kernel
theorem dX6_as_13 : decode cX6_as 13 = .ok (.iconst 5, 1) := by decide +kernel
theorem dX6_as_14 : decode cX6_as 14 = .ok (.invokestatic 61, 3) := by decide +kernel
theorem dX6_as_17 : decode cX6_as 17 = .ok (.ifCond .ne 6, 3) := by decide +kernel
theorem dX6_as_20 : decode cX6_as 20 = .ok (.ldc 65, 2) := by decide +kernel
theorem dX6_as_22 : decode cX6_as 22 = .ok (.ireturn, 1) := by decide +kernel
theorem dX6_as_23 : decode cX6_as 23 = .ok (.aload_n 0, 1) := by decide +kernel
theorem dX6_as_24 : decode cX6_as 24 = .ok (.getfield 26, 3) := by decide +kernel
theorem dX6_as_27 : decode cX6_as 27 = .ok (.getfield 246, 3) := by decide +kernel
theorem dX6_as_30 : decode cX6_as 30 = .ok (.iload_n 1, 1) := by decide +kernel
theorem dX6_as_31 : decode cX6_as 31 = .ok (.iaload, 1) := by decide +kernel
theorem dX6_as_32 : decode cX6_as 32 = .ok (.iload_n 2, 1) := by decide +kernel
theorem dX6_as_33 : decode cX6_as 33 = .ok (.invokestatic 249, 3) := by decide +kernel
theorem dX6_as_36 : decode cX6_as 36 = .ok (.ifCond .ne 9, 3) := by decide +kernel
theorem dX6_as_39 : decode cX6_as 39 = .ok (.aload_n 0, 1) := by decide +kernel
theorem dX6_as_40 : decode cX6_as 40 = .ok (.iconst 3, 1) := by decide +kernel
theorem dX6_as_41 : decode cX6_as 41 = .ok (.invokevirtual 66, 3) := by decide +kernel
theorem dX6_as_44 : decode cX6_as 44 = .ok (.ireturn, 1) := by decide +kernel
theorem dX6_as_45 : decode cX6_as 45 = .ok (.aload_n 0, 1) := by decide +kernel
theorem dX6_as_46 : decode cX6_as 46 = .ok (.iload_n 1, 1) := by decide +kernel
theorem dX6_as_47 : decode cX6_as 47 = .ok (.invokevirtual 74, 3) := by decide +kernel
theorem dX6_as_50 : decode cX6_as 50 = .ok (.ireturn, 1) := by decide +kernel
theorem dX6_ask_0 : decode cX6_ask 0 = .ok (.aload_n 0, 1) := by decide +kernel
theorem dX6_ask_1 : decode cX6_ask 1 = .ok (.getfield 26, 3) := by decide +kernel
theorem dX6_ask_4 : decode cX6_ask 4 = .ok (.iload_n 1, 1) := by decide +kernel
theorem dX6_ask_5 : decode cX6_ask 5 = .ok (.invokevirtual 156, 3) := by decide +kernel
theorem dX6_ask_8 : decode cX6_ask 8 = .ok (.ifCond .eq 12, 3) := by decide +kernel
theorem dX6_ask_11 : decode cX6_ask 11 = .ok (.iload_n 2, 1) := by decide +kernel
theorem dX6_ask_12 : decode cX6_ask 12 = .ok (.iconst 0, 1) := by decide +kernel
theorem dX6_ask_13 : decode cX6_ask 13 = .ok (.iconst 1, 1) := by decide +kernel
theorem dX6_ask_14 : decode cX6_ask 14 = .ok (.invokestatic 61, 3) := by decide +kernel
theorem dX6_ask_17 : decode cX6_ask 17 = .ok (.ifCond .ne 6, 3) := by decide +kernel
theorem dX6_ask_20 : decode cX6_ask 20 = .ok (.ldc 65, 2) := by decide +kernel
theorem dX6_ask_22 : decode cX6_ask 22 = .ok (.ireturn, 1) := by decide +kernel
theorem dX6_ask_23 : decode cX6_ask 23 = .ok (.aload_n 0, 1) := by decide +kernel
theorem dX6_ask_24 : decode cX6_ask 24 = .ok (.getfield 49, 3) := by decide +kernel
theorem dX6_ask_27 : decode cX6_ask 27 = .ok (.invokevirtual 253, 3) := by decide +kernel
theorem dX6_ask_30 : decode cX6_ask 30 = .ok (.iload_n 2, 1) := by decide +kernel
theorem dX6_ask_31 : decode cX6_ask 31 = .ok (.ifCond .ne 14, 3) := by decide +kernel
theorem dX6_ask_34 : decode cX6_ask 34 = .ok (.aload_n 0, 1) := by decide +kernel
theorem dX6_ask_35 : decode cX6_ask 35 = .ok (.getfield 49, 3) := by decide +kernel
theorem dX6_ask_38 : decode cX6_ask 38 = .ok (.iload_n 1, 1) := by decide +kernel
theorem dX6_ask_39 : decode cX6_ask 39 = .ok (.invokevirtual 256, 3) := by decide +kernel
theorem dX6_ask_42 : decode cX6_ask 42 = .ok (.goto 11, 3) := by decide +kernel
theorem dX6_ask_45 : decode cX6_ask 45 = .ok (.aload_n 0, 1) := by decide +kernel
theorem dX6_ask_46 : decode cX6_ask 46 = .ok (.getfield 49, 3) := by decide +kernel
theorem dX6_ask_49 : decode cX6_ask 49 = .ok (.iload_n 1, 1) := by decide +kernel
theorem dX6_ask_50 : decode cX6_ask 50 = .ok (.invokevirtual 259, 3) := by decide +kernel
theorem dX6_ask_53 : decode cX6_ask 53 = .ok (.ireturn, 1) := by decide +kernel
theorem dX6_trace_0 : decode cX6_trace 0 = .ok (.iload_n 1, 1) := by decide +kernel
theorem dX6_trace_1 : decode cX6_trace 1 = .ok (.iconst 0, 1) := by decide +kernel
theorem dX6_trace_2 : decode cX6_trace 2 = .ok (.aload_n 0, 1) := by decide +kernel
theorem dX6_trace_3 : decode cX6_trace 3 = .ok (.getfield 49, 3) := by decide +kernel
theorem dX6_trace_6 : decode cX6_trace 6 = .ok (.getfield 262, 3) := by decide +kernel
theorem dX6_trace_9 : decode cX6_trace 9 = .ok (.iconst 1, 1) := by decide +kernel
theorem dX6_trace_10 : decode cX6_trace 10 = .ok (.isub, 1) := by decide +kernel
theorem dX6_trace_11 : decode cX6_trace 11 = .ok (.invokestatic 61, 3) := by decide +kernel
theorem dX6_trace_14 : decode cX6_trace 14 = .ok (.ifCond .eq 15, 3) := by decide +kernel
theorem dX6_trace_17 : decode cX6_trace 17 = .ok (.aload_n 0, 1) := by decide +kernel
theorem dX6_trace_18 : decode cX6_trace 18 = .ok (.getfield 49, 3) := by decide +kernel
theorem dX6_trace_21 : decode cX6_trace 21 = .ok (.getfield 265, 3) := by decide +kernel
theorem dX6_trace_24 : decode cX6_trace 24 = .ok (.iload_n 1, 1) := by decide +kernel
theorem dX6_trace_25 : decode cX6_trace 25 = .ok (.iaload, 1) := by decide +kernel
theorem dX6_trace_26 : decode cX6_trace 26 = .ok (.goto 5, 3) := by decide +kernel
theorem dX6_trace_29 : decode cX6_trace 29 = .ok (.ldc 223, 2) := by decide +kernel
theorem dX6_trace_31 : decode cX6_trace 31 = .ok (.ireturn, 1) := by decide +kernel
theorem dX6_count_0 : decode cX6_count 0 = .ok (.iload_n 1, 1) := by decide +kernel
theorem dX6_count_1 : decode cX6_count 1 = .ok (.tableswitch 143 0 9 #[55, 63, 71, 79, 87, 103, 111, 119, 127, 135], 55) := by decide +kernel
theorem dX6_count_56 : decode cX6_count 56 = .ok (.aload_n 0, 1) := by decide +kernel
theorem dX6_count_57 : decode cX6_count 57 = .ok (.getfield 10, 3) := by decide +kernel
theorem dX6_count_60 : decode cX6_count 60 = .ok (.invokevirtual 268, 3) := by decide +kernel
theorem dX6_count_63 : decode cX6_count 63 = .ok (.ireturn, 1) := by decide +kernel
theorem dX6_count_64 : decode cX6_count 64 = .ok (.aload_n 0, 1) := by decide +kernel
theorem dX6_count_65 : decode cX6_count 65 = .ok (.getfield 26, 3) := by decide +kernel
theorem dX6_count_68 : decode cX6_count 68 = .ok (.getfield 220, 3) := by decide +kernel
theorem dX6_count_71 : decode cX6_count 71 = .ok (.ireturn, 1) := by decide +kernel
theorem dX6_count_72 : decode cX6_count 72 = .ok (.aload_n 0, 1) := by decide +kernel
theorem dX6_count_73 : decode cX6_count 73 = .ok (.getfield 26, 3) := by decide +kernel
theorem dX6_count_76 : decode cX6_count 76 = .ok (.getfield 132, 3) := by decide +kernel
theorem dX6_count_79 : decode cX6_count 79 = .ok (.ireturn, 1) := by decide +kernel
theorem dX6_count_80 : decode cX6_count 80 = .ok (.aload_n 0, 1) := by decide +kernel
theorem dX6_count_81 : decode cX6_count 81 = .ok (.getfield 26, 3) := by decide +kernel
theorem dX6_count_84 : decode cX6_count 84 = .ok (.getfield 143, 3) := by decide +kernel
theorem dX6_count_87 : decode cX6_count 87 = .ok (.ireturn, 1) := by decide +kernel
theorem dX6_count_88 : decode cX6_count 88 = .ok (.aload_n 0, 1) := by decide +kernel
theorem dX6_count_89 : decode cX6_count 89 = .ok (.getfield 26, 3) := by decide +kernel
theorem dX6_count_92 : decode cX6_count 92 = .ok (.getfield 152, 3) := by decide +kernel
theorem dX6_count_95 : decode cX6_count 95 = .ok (.ifCond .eq 7, 3) := by decide +kernel
theorem dX6_count_98 : decode cX6_count 98 = .ok (.iconst 1, 1) := by decide +kernel
theorem dX6_count_99 : decode cX6_count 99 = .ok (.goto 4, 3) := by decide +kernel
theorem dX6_count_102 : decode cX6_count 102 = .ok (.iconst 0, 1) := by decide +kernel
theorem dX6_count_103 : decode cX6_count 103 = .ok (.ireturn, 1) := by decide +kernel
theorem dX6_count_104 : decode cX6_count 104 = .ok (.aload_n 0, 1) := by decide +kernel
theorem dX6_count_105 : decode cX6_count 105 = .ok (.getfield 26, 3) := by decide +kernel
theorem dX6_count_108 : decode cX6_count 108 = .ok (.getfield 172, 3) := by decide +kernel
theorem dX6_count_111 : decode cX6_count 111 = .ok (.ireturn, 1) := by decide +kernel
theorem dX6_count_112 : decode cX6_count 112 = .ok (.aload_n 0, 1) := by decide +kernel
theorem dX6_count_113 : decode cX6_count 113 = .ok (.getfield 26, 3) := by decide +kernel
theorem dX6_count_116 : decode cX6_count 116 = .ok (.getfield 203, 3) := by decide +kernel
theorem dX6_count_119 : decode cX6_count 119 = .ok (.ireturn, 1) := by decide +kernel
theorem dX6_count_120 : decode cX6_count 120 = .ok (.aload_n 0, 1) := by decide +kernel
theorem dX6_count_121 : decode cX6_count 121 = .ok (.getfield 26, 3) := by decide +kernel
theorem dX6_count_124 : decode cX6_count 124 = .ok (.invokevirtual 271, 3) := by decide +kernel
theorem dX6_count_127 : decode cX6_count 127 = .ok (.ireturn, 1) := by decide +kernel
theorem dX6_count_128 : decode cX6_count 128 = .ok (.aload_n 0, 1) := by decide +kernel
theorem dX6_count_129 : decode cX6_count 129 = .ok (.getfield 42, 3) := by decide +kernel
theorem dX6_count_132 : decode cX6_count 132 = .ok (.getfield 175, 3) := by decide +kernel
theorem dX6_count_135 : decode cX6_count 135 = .ok (.ireturn, 1) := by decide +kernel
theorem dX6_count_136 : decode cX6_count 136 = .ok (.aload_n 0, 1) := by decide +kernel
theorem dX6_count_137 : decode cX6_count 137 = .ok (.getfield 19, 3) := by decide +kernel
theorem dX6_count_140 : decode cX6_count 140 = .ok (.getfield 104, 3) := by decide +kernel
theorem dX6_count_143 : decode cX6_count 143 = .ok (.ireturn, 1) := by decide +kernel
theorem dX6_count_144 : decode cX6_count 144 = .ok (.ldc 65, 2) := by decide +kernel
theorem dX6_count_146 : decode cX6_count 146 = .ok (.ireturn, 1) := by decide +kernel
theorem dX6_status_0 : decode cX6_status 0 = .ok (.aload_n 0, 1) := by decide +kernel
theorem dX6_status_1 : decode cX6_status 1 = .ok (.getfield 274, 3) := by decide +kernel
theorem dX6_status_4 : decode cX6_status 4 = .ok (.ireturn, 1) := by decide +kernel
theorem dX6_finding_0 : decode cX6_finding 0 = .ok (.aload_n 0, 1) := by decide +kernel
theorem dX6_finding_1 : decode cX6_finding 1 = .ok (.iload_n 1, 1) := by decide +kernel
theorem dX6_finding_2 : decode cX6_finding 2 = .ok (.putfield 274, 3) := by decide +kernel
theorem dX6_finding_5 : decode cX6_finding 5 = .ok (.ldc_w 277, 3) := by decide +kernel
theorem dX6_finding_8 : decode cX6_finding 8 = .ok (.iload_n 1, 1) := by decide +kernel
theorem dX6_finding_9 : decode cX6_finding 9 = .ok (.isub, 1) := by decide +kernel
theorem dX6_finding_10 : decode cX6_finding 10 = .ok (.ireturn, 1) := by decide +kernel
theorem dX6_foundNothing_0 : decode cX6_foundNothing 0 = .ok (.aload_n 0, 1) := by decide +kernel
theorem dX6_foundNothing_1 : decode cX6_foundNothing 1 = .ok (.iconst 0, 1) := by decide +kernel
theorem dX6_foundNothing_2 : decode cX6_foundNothing 2 = .ok (.putfield 274, 3) := by decide +kernel
theorem dX6_foundNothing_5 : decode cX6_foundNothing 5 = .ok (.iload_n 1, 1) := by decide +kernel
theorem dX6_foundNothing_6 : decode cX6_foundNothing 6 = .ok (.ireturn, 1) := by decide +kernel
theorem dX6_within_0 : decode cX6_within 0 = .ok (.iload_n 0, 1) := by decide +kernel
theorem dX6_within_1 : decode cX6_within 1 = .ok (.iload_n 1, 1) := by decide +kernel
theorem dX6_within_2 : decode cX6_within 2 = .ok (.if_icmp .lt 12, 3) := by decide +kernel
theorem dX6_within_5 : decode cX6_within 5 = .ok (.iload_n 0, 1) := by decide +kernel
theorem dX6_within_6 : decode cX6_within 6 = .ok (.iload_n 2, 1) := by decide +kernel
theorem dX6_within_7 : decode cX6_within 7 = .ok (.if_icmp .gt 7, 3) := by decide +kernel
theorem dX6_within_10 : decode cX6_within 10 = .ok (.iconst 1, 1) := by decide +kernel
theorem dX6_within_11 : decode cX6_within 11 = .ok (.goto 4, 3) := by decide +kernel
theorem dX6_within_14 : decode cX6_within 14 = .ok (.iconst 0, 1) := by decide +kernel
theorem dX6_within_15 : decode cX6_within 15 = .ok (.ireturn, 1) := by decide +kernel
theorem dX6_isSet_0 : decode cX6_isSet 0 = .ok (.iload_n 0, 1) := by decide +kernel
theorem dX6_isSet_1 : decode cX6_isSet 1 = .ok (.iload_n 1, 1) := by decide +kernel
theorem dX6_isSet_2 : decode cX6_isSet 2 = .ok (.ishr, 1) := by decide +kernel
theorem dX6_isSet_3 : decode cX6_isSet 3 = .ok (.iconst 1, 1) := by decide +kernel
theorem dX6_isSet_4 : decode cX6_isSet 4 = .ok (.iand, 1) := by decide +kernel
theorem dX6_isSet_5 : decode cX6_isSet 5 = .ok (.iconst 1, 1) := by decide +kernel
theorem dX6_isSet_6 : decode cX6_isSet 6 = .ok (.if_icmp .ne 7, 3) := by decide +kernel
theorem dX6_isSet_9 : decode cX6_isSet 9 = .ok (.iconst 1, 1) := by decide +kernel
theorem dX6_isSet_10 : decode cX6_isSet 10 = .ok (.goto 4, 3) := by decide +kernel
theorem dX6_isSet_13 : decode cX6_isSet 13 = .ok (.iconst 0, 1) := by decide +kernel
theorem dX6_isSet_14 : decode cX6_isSet 14 = .ok (.ireturn, 1) := by decide +kernel
theorem dX6_isA_0 : decode cX6_isA 0 = .ok (.iload_n 1, 1) := by decide +kernel
theorem dX6_isA_1 : decode cX6_isA 1 = .ok (.ifCond .eq 8, 3) := by decide +kernel
theorem dX6_isA_4 : decode cX6_isA 4 = .ok (.iload_n 1, 1) := by decide +kernel
theorem dX6_isA_5 : decode cX6_isA 5 = .ok (.iload_n 0, 1) := by decide +kernel
theorem dX6_isA_6 : decode cX6_isA 6 = .ok (.if_icmp .ne 5, 3) := by decide +kernel
theorem dX6_isA_9 : decode cX6_isA 9 = .ok (.iconst 1, 1) := by decide +kernel
theorem dX6_isA_10 : decode cX6_isA 10 = .ok (.ireturn, 1) := by decide +kernel
theorem dX6_isA_11 : decode cX6_isA 11 = .ok (.iload_n 1, 1) := by decide +kernel
theorem dX6_isA_12 : decode cX6_isA 12 = .ok (.iconst 1, 1) := by decide +kernel
theorem dX6_isA_13 : decode cX6_isA 13 = .ok (.if_icmp .ne 21, 3) := by decide +kernel
theorem dX6_isA_16 : decode cX6_isA 16 = .ok (.iload_n 0, 1) := by decide +kernel
theorem dX6_isA_17 : decode cX6_isA 17 = .ok (.iconst 2, 1) := by decide +kernel
theorem dX6_isA_18 : decode cX6_isA 18 = .ok (.if_icmp .eq 8, 3) := by decide +kernel
theorem dX6_isA_21 : decode cX6_isA 21 = .ok (.iload_n 0, 1) := by decide +kernel
theorem dX6_isA_22 : decode cX6_isA 22 = .ok (.iconst 3, 1) := by decide +kernel
theorem dX6_isA_23 : decode cX6_isA 23 = .ok (.if_icmp .ne 7, 3) := by decide +kernel
theorem dX6_isA_26 : decode cX6_isA 26 = .ok (.iconst 1, 1) := by decide +kernel
theorem dX6_isA_27 : decode cX6_isA 27 = .ok (.goto 22, 3) := by decide +kernel
theorem dX6_isA_30 : decode cX6_isA 30 = .ok (.iconst 0, 1) := by decide +kernel
theorem dX6_isA_31 : decode cX6_isA 31 = .ok (.goto 18, 3) := by decide +kernel
theorem dX6_isA_34 : decode cX6_isA 34 = .ok (.iload_n 1, 1) := by decide +kernel
theorem dX6_isA_35 : decode cX6_isA 35 = .ok (.iconst 4, 1) := by decide +kernel
theorem dX6_isA_36 : decode cX6_isA 36 = .ok (.if_icmp .ne 12, 3) := by decide +kernel
theorem dX6_isA_39 : decode cX6_isA 39 = .ok (.iload_n 0, 1) := by decide +kernel
theorem dX6_isA_40 : decode cX6_isA 40 = .ok (.iconst 5, 1) := by decide +kernel
theorem dX6_isA_41 : decode cX6_isA 41 = .ok (.if_icmp .ne 7, 3) := by decide +kernel
theorem dX6_isA_44 : decode cX6_isA 44 = .ok (.iconst 1, 1) := by decide +kernel
theorem dX6_isA_45 : decode cX6_isA 45 = .ok (.goto 4, 3) := by decide +kernel
theorem dX6_isA_48 : decode cX6_isA 48 = .ok (.iconst 0, 1) := by decide +kernel
theorem dX6_isA_49 : decode cX6_isA 49 = .ok (.ireturn, 1) := by decide +kernel
theorem dX7_init_0 : decode cX7_init 0 = .ok (.aload_n 0, 1) := by decide +kernel
theorem dX7_init_1 : decode cX7_init 1 = .ok (.invokespecial 1, 3) := by decide +kernel
theorem dX7_init_4 : decode cX7_init 4 = .ok (.aload_n 0, 1) := by decide +kernel
theorem dX7_init_5 : decode cX7_init 5 = .ok (.bipush 8, 2) := by decide +kernel
theorem dX7_init_7 : decode cX7_init 7 = .ok (.newarray .int, 2) := by decide +kernel
theorem dX7_init_9 : decode cX7_init 9 = .ok (.putfield 7, 3) := by decide +kernel
theorem dX7_init_12 : decode cX7_init 12 = .ok (.aload_n 0, 1) := by decide +kernel
theorem dX7_init_13 : decode cX7_init 13 = .ok (.bipush 8, 2) := by decide +kernel
theorem dX7_init_15 : decode cX7_init 15 = .ok (.newarray .int, 2) := by decide +kernel
theorem dX7_init_17 : decode cX7_init 17 = .ok (.putfield 13, 3) := by decide +kernel
theorem dX7_init_20 : decode cX7_init 20 = .ok (.aload_n 0, 1) := by decide +kernel
theorem dX7_init_21 : decode cX7_init 21 = .ok (.sipush 320, 3) := by decide +kernel
theorem dX7_init_24 : decode cX7_init 24 = .ok (.newarray .int, 2) := by decide +kernel
theorem dX7_init_26 : decode cX7_init 26 = .ok (.putfield 16, 3) := by decide +kernel
theorem dX7_init_29 : decode cX7_init 29 = .ok (.aload_n 0, 1) := by decide +kernel
theorem dX7_init_30 : decode cX7_init 30 = .ok (.bipush 40, 2) := by decide +kernel
theorem dX7_init_32 : decode cX7_init 32 = .ok (.newarray .int, 2) := by decide +kernel
theorem dX7_init_34 : decode cX7_init 34 = .ok (.putfield 19, 3) := by decide +kernel
theorem dX7_init_37 : decode cX7_init 37 = .ok (.aload_n 0, 1) := by decide +kernel
theorem dX7_init_38 : decode cX7_init 38 = .ok (.sipush 130, 3) := by decide +kernel
theorem dX7_init_41 : decode cX7_init 41 = .ok (.newarray .int, 2) := by decide +kernel
theorem dX7_init_43 : decode cX7_init 43 = .ok (.putfield 22, 3) := by decide +kernel
theorem dX7_init_46 : decode cX7_init 46 = .ok (.aload_n 0, 1) := by decide +kernel
theorem dX7_init_47 : decode cX7_init 47 = .ok (.bipush 64, 2) := by decide +kernel
theorem dX7_init_49 : decode cX7_init 49 = .ok (.newarray .int, 2) := by decide +kernel
theorem dX7_init_51 : decode cX7_init 51 = .ok (.putfield 25, 3) := by decide +kernel
theorem dX7_init_54 : decode cX7_init 54 = .ok (.aload_n 0, 1) := by decide +kernel
theorem dX7_init_55 : decode cX7_init 55 = .ok (.bipush 64, 2) := by decide +kernel
theorem dX7_init_57 : decode cX7_init 57 = .ok (.newarray .int, 2) := by decide +kernel
theorem dX7_init_59 : decode cX7_init 59 = .ok (.putfield 28, 3) := by decide +kernel
theorem dX7_init_62 : decode cX7_init 62 = .ok (.aload_n 0, 1) := by decide +kernel
theorem dX7_init_63 : decode cX7_init 63 = .ok (.bipush 64, 2) := by decide +kernel
theorem dX7_init_65 : decode cX7_init 65 = .ok (.newarray .int, 2) := by decide +kernel
theorem dX7_init_67 : decode cX7_init 67 = .ok (.putfield 31, 3) := by decide +kernel
theorem dX7_init_70 : decode cX7_init 70 = .ok (.aload_n 0, 1) := by decide +kernel
theorem dX7_init_71 : decode cX7_init 71 = .ok (.sipush 1536, 3) := by decide +kernel
theorem dX7_init_74 : decode cX7_init 74 = .ok (.newarray .int, 2) := by decide +kernel
theorem dX7_init_76 : decode cX7_init 76 = .ok (.putfield 34, 3) := by decide +kernel
theorem dX7_init_79 : decode cX7_init 79 = .ok (.aload_n 0, 1) := by decide +kernel
theorem dX7_init_80 : decode cX7_init 80 = .ok (.sipush 128, 3) := by decide +kernel
theorem dX7_init_83 : decode cX7_init 83 = .ok (.newarray .int, 2) := by decide +kernel
theorem dX7_init_85 : decode cX7_init 85 = .ok (.putfield 37, 3) := by decide +kernel
theorem dX7_init_88 : decode cX7_init 88 = .ok (.aload_n 0, 1) := by decide +kernel
theorem dX7_init_89 : decode cX7_init 89 = .ok (.iconst 2, 1) := by decide +kernel
theorem dX7_init_90 : decode cX7_init 90 = .ok (.newarray .boolean, 2) := by decide +kernel
theorem dX7_init_92 : decode cX7_init 92 = .ok (.putfield 40, 3) := by decide +kernel
theorem dX7_init_95 : decode cX7_init 95 = .ok (.aload_n 0, 1) := by decide +kernel
theorem dX7_init_96 : decode cX7_init 96 = .ok (.bipush 7, 2) := by decide +kernel
theorem dX7_init_98 : decode cX7_init 98 = .ok (.newarray .int, 2) := by decide +kernel
theorem dX7_init_100 : decode cX7_init 100 = .ok (.putfield 44, 3) := by decide +kernel
theorem dX7_init_103 : decode cX7_init 103 = .ok (.aload_n 0, 1) := by decide +kernel
theorem dX7_init_104 : decode cX7_init 104 = .ok (.bipush 16, 2) := by decide +kernel
theorem dX7_init_106 : decode cX7_init 106 = .ok (.newarray .int, 2) := by decide +kernel
theorem dX7_init_108 : decode cX7_init 108 = .ok (.putfield 47, 3) := by decide +kernel
theorem dX7_init_111 : decode cX7_init 111 = .ok (.aload_n 0, 1) := by decide +kernel
theorem dX7_init_112 : decode cX7_init 112 = .ok (.bipush 7, 2) := by decide +kernel
theorem dX7_init_114 : decode cX7_init 114 = .ok (.newarray .int, 2) := by decide +kernel
theorem dX7_init_116 : decode cX7_init 116 = .ok (.putfield 50, 3) := by decide +kernel
theorem dX7_init_119 : decode cX7_init 119 = .ok (.aload_n 0, 1) := by decide +kernel
theorem dX7_init_120 : decode cX7_init 120 = .ok (.bipush 16, 2) := by decide +kernel
theorem dX7_init_122 : decode cX7_init 122 = .ok (.newarray .int, 2) := by decide +kernel
theorem dX7_init_124 : decode cX7_init 124 = .ok (.putfield 53, 3) := by decide +kernel
theorem dX7_init_127 : decode cX7_init 127 = .ok (.iconst 0, 1) := by decide +kernel
theorem dX7_init_128 : decode cX7_init 128 = .ok (.istore_n 1, 1) := by decide +kernel
theorem dX7_init_129 : decode cX7_init 129 = .ok (.iload_n 1, 1) := by decide +kernel
theorem dX7_init_130 : decode cX7_init 130 = .ok (.bipush 8, 2) := by decide +kernel
theorem dX7_init_132 : decode cX7_init 132 = .ok (.if_icmp .ge 17, 3) := by decide +kernel
theorem dX7_init_135 : decode cX7_init 135 = .ok (.aload_n 0, 1) := by decide +kernel
theorem dX7_init_136 : decode cX7_init 136 = .ok (.getfield 7, 3) := by decide +kernel
theorem dX7_init_139 : decode cX7_init 139 = .ok (.iload_n 1, 1) := by decide +kernel
theorem dX7_init_140 : decode cX7_init 140 = .ok (.ldc 56, 2) := by decide +kernel
theorem dX7_init_142 : decode cX7_init 142 = .ok (.iastore, 1) := by decide +kernel
theorem dX7_init_143 : decode cX7_init 143 = .ok (.iinc 1 1, 3) := by decide +kernel
theorem dX7_init_146 : decode cX7_init 146 = .ok (.goto (-17), 3) := by decide +kernel
theorem dX7_init_149 : decode cX7_init 149 = .ok (.return_, 1) := by decide +kernel
theorem dX7_in_0 : decode cX7_in 0 = .ok (.iload_n 0, 1) := by decide +kernel
theorem dX7_in_1 : decode cX7_in 1 = .ok (.iload_n 1, 1) := by decide +kernel
theorem dX7_in_2 : decode cX7_in 2 = .ok (.if_icmp .lt 12, 3) := by decide +kernel
theorem dX7_in_5 : decode cX7_in 5 = .ok (.iload_n 0, 1) := by decide +kernel
theorem dX7_in_6 : decode cX7_in 6 = .ok (.iload_n 2, 1) := by decide +kernel
theorem dX7_in_7 : decode cX7_in 7 = .ok (.if_icmp .gt 7, 3) := by decide +kernel
theorem dX7_in_10 : decode cX7_in 10 = .ok (.iconst 1, 1) := by decide +kernel
theorem dX7_in_11 : decode cX7_in 11 = .ok (.goto 4, 3) := by decide +kernel
theorem dX7_in_14 : decode cX7_in 14 = .ok (.iconst 0, 1) := by decide +kernel
theorem dX7_in_15 : decode cX7_in 15 = .ok (.ireturn, 1) := by decide +kernel
theorem dX7_has_0 : decode cX7_has 0 = .ok (.iload_n 0, 1) := by decide +kernel
theorem dX7_has_1 : decode cX7_has 1 = .ok (.iload_n 1, 1) := by decide +kernel
theorem dX7_has_2 : decode cX7_has 2 = .ok (.ishr, 1) := by decide +kernel
theorem dX7_has_3 : decode cX7_has 3 = .ok (.iconst 1, 1) := by decide +kernel
theorem dX7_has_4 : decode cX7_has 4 = .ok (.iand, 1) := by decide +kernel
theorem dX7_has_5 : decode cX7_has 5 = .ok (.iconst 1, 1) := by decide +kernel
theorem dX7_has_6 : decode cX7_has 6 = .ok (.if_icmp .ne 7, 3) := by decide +kernel
theorem dX7_has_9 : decode cX7_has 9 = .ok (.iconst 1, 1) := by decide +kernel
theorem dX7_has_10 : decode cX7_has 10 = .ok (.goto 4, 3) := by decide +kernel
theorem dX7_has_13 : decode cX7_has 13 = .ok (.iconst 0, 1) := by decide +kernel
theorem dX7_has_14 : decode cX7_has 14 = .ok (.ireturn, 1) := by decide +kernel
theorem dX7_ones_0 : decode cX7_ones 0 = .ok (.iconst 0, 1) := by decide +kernel
theorem dX7_ones_1 : decode cX7_ones 1 = .ok (.istore_n 1, 1) := by decide +kernel
theorem dX7_ones_2 : decode cX7_ones 2 = .ok (.iconst 0, 1) := by decide +kernel
theorem dX7_ones_3 : decode cX7_ones 3 = .ok (.istore_n 2, 1) := by decide +kernel
theorem dX7_ones_4 : decode cX7_ones 4 = .ok (.iload_n 2, 1) := by decide +kernel
theorem dX7_ones_5 : decode cX7_ones 5 = .ok (.bipush 16, 2) := by decide +kernel
theorem dX7_ones_7 : decode cX7_ones 7 = .ok (.if_icmp .ge 17, 3) := by decide +kernel
theorem dX7_ones_10 : decode cX7_ones 10 = .ok (.iload_n 1, 1) := by decide +kernel
theorem dX7_ones_11 : decode cX7_ones 11 = .ok (.iload_n 0, 1) := by decide +kernel
theorem dX7_ones_12 : decode cX7_ones 12 = .ok (.iload_n 2, 1) := by decide +kernel
theorem dX7_ones_13 : decode cX7_ones 13 = .ok (.ishr, 1) := by decide +kernel
theorem dX7_ones_14 : decode cX7_ones 14 = .ok (.iconst 1, 1) := by decide +kernel
theorem dX7_ones_15 : decode cX7_ones 15 = .ok (.iand, 1) := by decide +kernel
theorem dX7_ones_16 : decode cX7_ones 16 = .ok (.iadd, 1) := by decide +kernel
theorem dX7_ones_17 : decode cX7_ones 17 = .ok (.istore_n 1, 1) := by decide +kernel
theorem dX7_ones_18 : decode cX7_ones 18 = .ok (.iinc 2 1, 3) := by decide +kernel
theorem dX7_ones_21 : decode cX7_ones 21 = .ok (.goto (-17), 3) := by decide +kernel
theorem dX7_ones_24 : decode cX7_ones 24 = .ok (.iload_n 1, 1) := by decide +kernel
theorem dX7_ones_25 : decode cX7_ones 25 = .ok (.ireturn, 1) := by decide +kernel
theorem dX7_found_0 : decode cX7_found 0 = .ok (.aload_n 0, 1) := by decide +kernel
theorem dX7_found_1 : decode cX7_found 1 = .ok (.iload_n 1, 1) := by decide +kernel
theorem dX7_found_2 : decode cX7_found 2 = .ok (.putfield 57, 3) := by decide +kernel
theorem dX7_found_5 : decode cX7_found 5 = .ok (.ldc 61, 2) := by decide +kernel
theorem dX7_found_7 : decode cX7_found 7 = .ok (.iload_n 1, 1) := by decide +kernel
theorem dX7_found_8 : decode cX7_found 8 = .ok (.isub, 1) := by decide +kernel
theorem dX7_found_9 : decode cX7_found 9 = .ok (.ireturn, 1) := by decide +kernel
theorem dX7_well_0 : decode cX7_well 0 = .ok (.aload_n 0, 1) := by decide +kernel
theorem dX7_well_1 : decode cX7_well 1 = .ok (.iconst 0, 1) := by decide +kernel
theorem dX7_well_2 : decode cX7_well 2 = .ok (.putfield 57, 3) := by decide +kernel
theorem dX7_well_5 : decode cX7_well 5 = .ok (.iload_n 1, 1) := by decide +kernel
theorem dX7_well_6 : decode cX7_well 6 = .ok (.ireturn, 1) := by decide +kernel
theorem dX7_copies_0 : decode cX7_copies 0 = .ok (.iconst 0, 1) := by decide +kernel
theorem dX7_copies_1 : decode cX7_copies 1 = .ok (.istore 4, 2) := by decide +kernel
theorem dX7_copies_3 : decode cX7_copies 3 = .ok (.iload 4, 2) := by decide +kernel
theorem dX7_copies_5 : decode cX7_copies 5 = .ok (.bipush 64, 2) := by decide +kernel
theorem dX7_copies_7 : decode cX7_copies 7 = .ok (.if_icmp .ge 21, 3) := by decide +kernel
theorem dX7_copies_10 : decode cX7_copies 10 = .ok (.aload_n 2, 1) := by decide +kernel
theorem dX7_copies_11 : decode cX7_copies 11 = .ok (.iload_n 3, 1) := by decide +kernel
theorem dX7_copies_12 : decode cX7_copies 12 = .ok (.iload 4, 2) := by decide +kernel
theorem dX7_copies_14 : decode cX7_copies 14 = .ok (.iadd, 1) := by decide +kernel
theorem dX7_copies_15 : decode cX7_copies 15 = .ok (.aload_n 0, 1) := by decide +kernel
theorem dX7_copies_16 : decode cX7_copies 16 = .ok (.iload_n 1, 1) := by decide +kernel
theorem dX7_copies_17 : decode cX7_copies 17 = .ok (.iload 4, 2) := by decide +kernel
theorem dX7_copies_19 : decode cX7_copies 19 = .ok (.iadd, 1) := by decide +kernel
theorem dX7_copies_20 : decode cX7_copies 20 = .ok (.iaload, 1) := by decide +kernel
theorem dX7_copies_21 : decode cX7_copies 21 = .ok (.iastore, 1) := by decide +kernel
theorem dX7_copies_22 : decode cX7_copies 22 = .ok (.iinc 4 1, 3) := by decide +kernel
theorem dX7_copies_25 : decode cX7_copies 25 = .ok (.goto (-22), 3) := by decide +kernel
theorem dX7_copies_28 : decode cX7_copies 28 = .ok (.return_, 1) := by decide +kernel
theorem dX7_isRow_0 : decode cX7_isRow 0 = .ok (.iload_n 0, 1) := by decide +kernel
theorem dX7_isRow_1 : decode cX7_isRow 1 = .ok (.iconst 0, 1) := by decide +kernel
theorem dX7_isRow_2 : decode cX7_isRow 2 = .ok (.bipush 7, 2) := by decide +kernel
theorem dX7_isRow_4 : decode cX7_isRow 4 = .ok (.invokestatic 62, 3) := by decide +kernel
theorem dX7_isRow_7 : decode cX7_isRow 7 = .ok (.ireturn, 1) := by decide +kernel
theorem dX7_isMissing_0 : decode cX7_isMissing 0 = .ok (.aload_n 0, 1) := by decide +kernel
theorem dX7_isMissing_1 : decode cX7_isMissing 1 = .ok (.getfield 7, 3) := by decide +kernel
theorem dX7_isMissing_4 : decode cX7_isMissing 4 = .ok (.iload_n 1, 1) := by decide +kernel
theorem dX7_isMissing_5 : decode cX7_isMissing 5 = .ok (.iaload, 1) := by decide +kernel
theorem dX7_isMissing_6 : decode cX7_isMissing 6 = .ok (.ldc 56, 2) := by decide +kernel
theorem dX7_isMissing_8 : decode cX7_isMissing 8 = .ok (.if_icmp .ne 7, 3) := by decide +kernel
theorem dX7_isMissing_11 : decode cX7_isMissing 11 = .ok (.iconst 1, 1) := by decide +kernel
theorem dX7_isMissing_12 : decode cX7_isMissing 12 = .ok (.goto 4, 3) := by decide +kernel
theorem dX7_isMissing_15 : decode cX7_isMissing 15 = .ok (.iconst 0, 1) := by decide +kernel
theorem dX7_isMissing_16 : decode cX7_isMissing 16 = .ok (.ireturn, 1) := by decide +kernel
theorem dX7_cut_0 : decode cX7_cut 0 = .ok (.iload_n 0, 1) := by decide +kernel
theorem dX7_cut_1 : decode cX7_cut 1 = .ok (.ifCond .ne 13, 3) := by decide +kernel
theorem dX7_cut_4 : decode cX7_cut 4 = .ok (.iload_n 1, 1) := by decide +kernel
theorem dX7_cut_5 : decode cX7_cut 5 = .ok (.bipush 24, 2) := by decide +kernel
theorem dX7_cut_7 : decode cX7_cut 7 = .ok (.ishl, 1) := by decide +kernel
theorem dX7_cut_8 : decode cX7_cut 8 = .ok (.bipush 24, 2) := by decide +kernel
theorem dX7_cut_10 : decode cX7_cut 10 = .ok (.ishr, 1) := by decide +kernel
theorem dX7_cut_11 : decode cX7_cut 11 = .ok (.goto 19, 3) := by decide +kernel
theorem dX7_cut_14 : decode cX7_cut 14 = .ok (.iload_n 0, 1) := by decide +kernel
theorem dX7_cut_15 : decode cX7_cut 15 = .ok (.iconst 1, 1) := by decide +kernel
theorem dX7_cut_16 : decode cX7_cut 16 = .ok (.if_icmp .ne 13, 3) := by decide +kernel
theorem dX7_cut_19 : decode cX7_cut 19 = .ok (.iload_n 1, 1) := by decide +kernel
theorem dX7_cut_20 : decode cX7_cut 20 = .ok (.bipush 16, 2) := by decide +kernel
theorem dX7_cut_22 : decode cX7_cut 22 = .ok (.ishl, 1) := by decide +kernel
theorem dX7_cut_23 : decode cX7_cut 23 = .ok (.bipush 16, 2) := by decide +kernel
theorem dX7_cut_25 : decode cX7_cut 25 = .ok (.ishr, 1) := by decide +kernel
theorem dX7_cut_26 : decode cX7_cut 26 = .ok (.goto 4, 3) := by decide +kernel
theorem dX7_cut_29 : decode cX7_cut 29 = .ok (.iload_n 1, 1) := by decide +kernel
theorem dX7_cut_30 : decode cX7_cut 30 = .ok (.ireturn, 1) := by decide +kernel
theorem dX7_row_0 : decode cX7_row 0 = .ok (.iload_n 1, 1) := by decide +kernel
theorem dX7_row_1 : decode cX7_row 1 = .ok (.invokestatic 66, 3) := by decide +kernel
theorem dX7_row_4 : decode cX7_row 4 = .ok (.ifCond .eq 18, 3) := by decide +kernel
theorem dX7_row_7 : decode cX7_row 7 = .ok (.iload_n 2, 1) := by decide +kernel
theorem dX7_row_8 : decode cX7_row 8 = .ok (.iconst 0, 1) := by decide +kernel
theorem dX7_row_9 : decode cX7_row 9 = .ok (.iconst 2, 1) := by decide +kernel
theorem dX7_row_10 : decode cX7_row 10 = .ok (.invokestatic 62, 3) := by decide +kernel
theorem dX7_row_13 : decode cX7_row 13 = .ok (.ifCond .eq 9, 3) := by decide +kernel
theorem dX7_row_16 : decode cX7_row 16 = .ok (.iload_n 3, 1) := by decide +kernel
theorem dX7_row_17 : decode cX7_row 17 = .ok (.bipush 40, 2) := by decide +kernel
theorem dX7_row_19 : decode cX7_row 19 = .ok (.if_icmp .le 6, 3) := by decide +kernel
theorem dX7_row_22 : decode cX7_row 22 = .ok (.ldc 70, 2) := by decide +kernel
theorem dX7_row_24 : decode cX7_row 24 = .ok (.ireturn, 1) := by decide +kernel
theorem dX7_row_25 : decode cX7_row 25 = .ok (.iload_n 3, 1) := by decide +kernel
theorem dX7_row_26 : decode cX7_row 26 = .ok (.ifCond .ge 9, 3) := by decide +kernel
theorem dX7_row_29 : decode cX7_row 29 = .ok (.aload_n 0, 1) := by decide +kernel
theorem dX7_row_30 : decode cX7_row 30 = .ok (.iconst 4, 1) := by decide +kernel
theorem dX7_row_31 : decode cX7_row 31 = .ok (.invokevirtual 71, 3) := by decide +kernel
theorem dX7_row_34 : decode cX7_row 34 = .ok (.ireturn, 1) := by decide +kernel
theorem dX7_row_35 : decode cX7_row 35 = .ok (.aload_n 0, 1) := by decide +kernel
theorem dX7_row_36 : decode cX7_row 36 = .ok (.getfield 7, 3) := by decide +kernel
theorem dX7_row_39 : decode cX7_row 39 = .ok (.iload_n 1, 1) := by decide +kernel
theorem dX7_row_40 : decode cX7_row 40 = .ok (.iload_n 2, 1) := by decide +kernel
theorem dX7_row_41 : decode cX7_row 41 = .ok (.iastore, 1) := by decide +kernel
theorem dX7_row_42 : decode cX7_row 42 = .ok (.aload_n 0, 1) := by decide +kernel
theorem dX7_row_43 : decode cX7_row 43 = .ok (.getfield 13, 3) := by decide +kernel
theorem dX7_row_46 : decode cX7_row 46 = .ok (.iload_n 1, 1) := by decide +kernel
theorem dX7_row_47 : decode cX7_row 47 = .ok (.iload_n 3, 1) := by decide +kernel
theorem dX7_row_48 : decode cX7_row 48 = .ok (.iastore, 1) := by decide +kernel
theorem dX7_row_49 : decode cX7_row 49 = .ok (.iconst 0, 1) := by decide +kernel
theorem dX7_row_50 : decode cX7_row 50 = .ok (.istore 4, 2) := by decide +kernel
theorem dX7_row_52 : decode cX7_row 52 = .ok (.iload 4, 2) := by decide +kernel
theorem dX7_row_54 : decode cX7_row 54 = .ok (.bipush 40, 2) := by decide +kernel
theorem dX7_row_56 : decode cX7_row 56 = .ok (.if_icmp .ge 22, 3) := by decide +kernel
theorem dX7_row_59 : decode cX7_row 59 = .ok (.aload_n 0, 1) := by decide +kernel
theorem dX7_row_60 : decode cX7_row 60 = .ok (.getfield 16, 3) := by decide +kernel
theorem dX7_row_63 : decode cX7_row 63 = .ok (.bipush 40, 2) := by decide +kernel
theorem dX7_row_65 : decode cX7_row 65 = .ok (.iload_n 1, 1) := by decide +kernel
theorem dX7_row_66 : decode cX7_row 66 = .ok (.imul, 1) := by decide +kernel
theorem dX7_row_67 : decode cX7_row 67 = .ok (.iload 4, 2) := by decide +kernel
theorem dX7_row_69 : decode cX7_row 69 = .ok (.iadd, 1) := by decide +kernel
theorem dX7_row_70 : decode cX7_row 70 = .ok (.iconst 0, 1) := by decide +kernel
theorem dX7_row_71 : decode cX7_row 71 = .ok (.iastore, 1) := by decide +kernel
theorem dX7_row_72 : decode cX7_row 72 = .ok (.iinc 4 1, 3) := by decide +kernel
theorem dX7_row_75 : decode cX7_row 75 = .ok (.goto (-23), 3) := by decide +kernel
theorem dX7_row_78 : decode cX7_row 78 = .ok (.aload_n 0, 1) := by decide +kernel
theorem dX7_row_79 : decode cX7_row 79 = .ok (.iload_n 3, 1) := by decide +kernel
theorem dX7_row_80 : decode cX7_row 80 = .ok (.invokevirtual 75, 3) := by decide +kernel
theorem dX7_row_83 : decode cX7_row 83 = .ok (.ireturn, 1) := by decide +kernel
theorem dX7_set_0 : decode cX7_set 0 = .ok (.iload_n 1, 1) := by decide +kernel
theorem dX7_set_1 : decode cX7_set 1 = .ok (.invokestatic 66, 3) := by decide +kernel
theorem dX7_set_4 : decode cX7_set 4 = .ok (.ifCond .ne 6, 3) := by decide +kernel
theorem dX7_set_7 : decode cX7_set 7 = .ok (.ldc 70, 2) := by decide +kernel
theorem dX7_set_9 : decode cX7_set 9 = .ok (.ireturn, 1) := by decide +kernel
theorem dX7_set_10 : decode cX7_set 10 = .ok (.aload_n 0, 1) := by decide +kernel
theorem dX7_set_11 : decode cX7_set 11 = .ok (.iload_n 1, 1) := by decide +kernel
theorem dX7_set_12 : decode cX7_set 12 = .ok (.invokevirtual 78, 3) := by decide +kernel
theorem dX7_set_15 : decode cX7_set 15 = .ok (.ifCond .eq 9, 3) := by decide +kernel
theorem dX7_set_18 : decode cX7_set 18 = .ok (.aload_n 0, 1) := by decide +kernel
theorem dX7_set_19 : decode cX7_set 19 = .ok (.iconst 1, 1) := by decide +kernel
theorem dX7_set_20 : decode cX7_set 20 = .ok (.invokevirtual 71, 3) := by decide +kernel
theorem dX7_set_23 : decode cX7_set 23 = .ok (.ireturn, 1) := by decide +kernel
theorem dX7_set_24 : decode cX7_set 24 = .ok (.iload_n 2, 1) := by decide +kernel
theorem dX7_set_25 : decode cX7_set 25 = .ok (.iconst 0, 1) := by decide +kernel
theorem dX7_set_26 : decode cX7_set 26 = .ok (.aload_n 0, 1) := by decide +kernel
theorem dX7_set_27 : decode cX7_set 27 = .ok (.getfield 13, 3) := by decide +kernel
theorem dX7_set_30 : decode cX7_set 30 = .ok (.iload_n 1, 1) := by decide +kernel
theorem dX7_set_31 : decode cX7_set 31 = .ok (.iaload, 1) := by decide +kernel
theorem dX7_set_32 : decode cX7_set 32 = .ok (.iconst 1, 1) := by decide +kernel
theorem dX7_set_33 : decode cX7_set 33 = .ok (.isub, 1) := by decide +kernel
theorem dX7_set_34 : decode cX7_set 34 = .ok (.invokestatic 62, 3) := by decide +kernel
theorem dX7_set_37 : decode cX7_set 37 = .ok (.ifCond .ne 9, 3) := by decide +kernel
theorem dX7_set_40 : decode cX7_set 40 = .ok (.aload_n 0, 1) := by decide +kernel
theorem dX7_set_41 : decode cX7_set 41 = .ok (.iconst 2, 1) := by decide +kernel
theorem dX7_set_42 : decode cX7_set 42 = .ok (.invokevirtual 71, 3) := by decide +kernel
theorem dX7_set_45 : decode cX7_set 45 = .ok (.ireturn, 1) := by decide +kernel
theorem dX7_set_46 : decode cX7_set 46 = .ok (.aload_n 0, 1) := by decide +kernel
theorem dX7_set_47 : decode cX7_set 47 = .ok (.getfield 16, 3) := by decide +kernel
theorem dX7_set_50 : decode cX7_set 50 = .ok (.bipush 40, 2) := by decide +kernel
theorem dX7_set_52 : decode cX7_set 52 = .ok (.iload_n 1, 1) := by decide +kernel
theorem dX7_set_53 : decode cX7_set 53 = .ok (.imul, 1) := by decide +kernel
theorem dX7_set_54 : decode cX7_set 54 = .ok (.iload_n 2, 1) := by decide +kernel
theorem dX7_set_55 : decode cX7_set 55 = .ok (.iadd, 1) := by decide +kernel
theorem dX7_set_56 : decode cX7_set 56 = .ok (.aload_n 0, 1) := by decide +kernel
theorem dX7_set_57 : decode cX7_set 57 = .ok (.getfield 7, 3) := by decide +kernel
theorem dX7_set_60 : decode cX7_set 60 = .ok (.iload_n 1, 1) := by decide +kernel
theorem dX7_set_61 : decode cX7_set 61 = .ok (.iaload, 1) := by decide +kernel
theorem dX7_set_62 : decode cX7_set 62 = .ok (.iload_n 3, 1) := by decide +kernel
theorem dX7_set_63 : decode cX7_set 63 = .ok (.invokestatic 81, 3) := by decide +kernel
theorem dX7_set_66 : decode cX7_set 66 = .ok (.iastore, 1) := by decide +kernel
theorem dX7_set_67 : decode cX7_set 67 = .ok (.aload_n 0, 1) := by decide +kernel
theorem dX7_set_68 : decode cX7_set 68 = .ok (.aload_n 0, 1) := by decide +kernel
theorem dX7_set_69 : decode cX7_set 69 = .ok (.getfield 16, 3) := by decide +kernel
theorem dX7_set_72 : decode cX7_set 72 = .ok (.bipush 40, 2) := by decide +kernel
theorem dX7_set_74 : decode cX7_set 74 = .ok (.iload_n 1, 1) := by decide +kernel
theorem dX7_set_75 : decode cX7_set 75 = .ok (.imul, 1) := by decide +kernel
theorem dX7_set_76 : decode cX7_set 76 = .ok (.iload_n 2, 1) := by decide +kernel
theorem dX7_set_77 : decode cX7_set 77 = .ok (.iadd, 1) := by decide +kernel
theorem dX7_set_78 : decode cX7_set 78 = .ok (.iaload, 1) := by decide +kernel
theorem dX7_set_79 : decode cX7_set 79 = .ok (.invokevirtual 75, 3) := by decide +kernel
theorem dX7_set_82 : decode cX7_set 82 = .ok (.ireturn, 1) := by decide +kernel
theorem dX7_isPart_0 : decode cX7_isPart 0 = .ok (.iload_n 2, 1) := by decide +kernel
theorem dX7_isPart_1 : decode cX7_isPart 1 = .ok (.ifCond .lt 33, 3) := by decide +kernel
theorem dX7_isPart_4 : decode cX7_isPart 4 = .ok (.iload_n 3, 1) := by decide +kernel
theorem dX7_isPart_5 : decode cX7_isPart 5 = .ok (.ifCond .lt 29, 3) := by decide +kernel
theorem dX7_isPart_8 : decode cX7_isPart 8 = .ok (.iload_n 2, 1) := by decide +kernel
theorem dX7_isPart_9 : decode cX7_isPart 9 = .ok (.aload_n 0, 1) := by decide +kernel
theorem dX7_isPart_10 : decode cX7_isPart 10 = .ok (.getfield 13, 3) := by decide +kernel
theorem dX7_isPart_13 : decode cX7_isPart 13 = .ok (.iload_n 1, 1) := by decide +kernel
theorem dX7_isPart_14 : decode cX7_isPart 14 = .ok (.iaload, 1) := by decide +kernel
theorem dX7_isPart_15 : decode cX7_isPart 15 = .ok (.if_icmp .gt 19, 3) := by decide +kernel
theorem dX7_isPart_18 : decode cX7_isPart 18 = .ok (.iload_n 3, 1) := by decide +kernel
theorem dX7_isPart_19 : decode cX7_isPart 19 = .ok (.aload_n 0, 1) := by decide +kernel
theorem dX7_isPart_20 : decode cX7_isPart 20 = .ok (.getfield 13, 3) := by decide +kernel
theorem dX7_isPart_23 : decode cX7_isPart 23 = .ok (.iload_n 1, 1) := by decide +kernel
theorem dX7_isPart_24 : decode cX7_isPart 24 = .ok (.iaload, 1) := by decide +kernel
theorem dX7_isPart_25 : decode cX7_isPart 25 = .ok (.iload_n 2, 1) := by decide +kernel
theorem dX7_isPart_26 : decode cX7_isPart 26 = .ok (.isub, 1) := by decide +kernel
theorem dX7_isPart_27 : decode cX7_isPart 27 = .ok (.if_icmp .gt 7, 3) := by decide +kernel
theorem dX7_isPart_30 : decode cX7_isPart 30 = .ok (.iconst 1, 1) := by decide +kernel
theorem dX7_isPart_31 : decode cX7_isPart 31 = .ok (.goto 4, 3) := by decide +kernel
theorem dX7_isPart_34 : decode cX7_isPart 34 = .ok (.iconst 0, 1) := by decide +kernel
theorem dX7_isPart_35 : decode cX7_isPart 35 = .ok (.ireturn, 1) := by decide +kernel
theorem dX7_copy_0 : decode cX7_copy 0 = .ok (.iload_n 1, 1) := by decide +kernel
theorem dX7_copy_1 : decode cX7_copy 1 = .ok (.invokestatic 66, 3) := by decide +kernel
theorem dX7_copy_4 : decode cX7_copy 4 = .ok (.ifCond .eq 10, 3) := by decide +kernel
theorem dX7_copy_7 : decode cX7_copy 7 = .ok (.iload_n 3, 1) := by decide +kernel
theorem dX7_copy_8 : decode cX7_copy 8 = .ok (.invokestatic 66, 3) := by decide +kernel
theorem dX7_copy_11 : decode cX7_copy 11 = .ok (.ifCond .ne 6, 3) := by decide +kernel
theorem dX7_copy_14 : decode cX7_copy 14 = .ok (.ldc 70, 2) := by decide +kernel
theorem dX7_copy_16 : decode cX7_copy 16 = .ok (.ireturn, 1) := by decide +kernel
theorem dX7_copy_17 : decode cX7_copy 17 = .ok (.aload_n 0, 1) := by decide +kernel
theorem dX7_copy_18 : decode cX7_copy 18 = .ok (.iload_n 1, 1) := by decide +kernel
theorem dX7_copy_19 : decode cX7_copy 19 = .ok (.invokevirtual 78, 3) := by decide +kernel
theorem dX7_copy_22 : decode cX7_copy 22 = .ok (.ifCond .ne 11, 3) := by decide +kernel
theorem dX7_copy_25 : decode cX7_copy 25 = .ok (.aload_n 0, 1) := by decide +kernel
theorem dX7_copy_26 : decode cX7_copy 26 = .ok (.iload_n 3, 1) := by decide +kernel
theorem dX7_copy_27 : decode cX7_copy 27 = .ok (.invokevirtual 78, 3) := by decide +kernel
theorem dX7_copy_30 : decode cX7_copy 30 = .ok (.ifCond .eq 9, 3) := by decide +kernel
theorem dX7_copy_33 : decode cX7_copy 33 = .ok (.aload_n 0, 1) := by decide +kernel
theorem dX7_copy_34 : decode cX7_copy 34 = .ok (.iconst 1, 1) := by decide +kernel
theorem dX7_copy_35 : decode cX7_copy 35 = .ok (.invokevirtual 71, 3) := by decide +kernel
theorem dX7_copy_38 : decode cX7_copy 38 = .ok (.ireturn, 1) := by decide +kernel
theorem dX7_copy_39 : decode cX7_copy 39 = .ok (.aload_n 0, 1) := by decide +kernel
theorem dX7_copy_40 : decode cX7_copy 40 = .ok (.getfield 7, 3) := by decide +kernel
theorem dX7_copy_43 : decode cX7_copy 43 = .ok (.iload_n 1, 1) := by decide +kernel
theorem dX7_copy_44 : decode cX7_copy 44 = .ok (.iaload, 1) := by decide +kernel
theorem dX7_copy_45 : decode cX7_copy 45 = .ok (.aload_n 0, 1) := by decide +kernel
theorem dX7_copy_46 : decode cX7_copy 46 = .ok (.getfield 7, 3) := by decide +kernel
theorem dX7_copy_49 : decode cX7_copy 49 = .ok (.iload_n 3, 1) := by decide +kernel
theorem dX7_copy_50 : decode cX7_copy 50 = .ok (.iaload, 1) := by decide +kernel
theorem dX7_copy_51 : decode cX7_copy 51 = .ok (.if_icmp .eq 9, 3) := by decide +kernel
theorem dX7_copy_54 : decode cX7_copy 54 = .ok (.aload_n 0, 1) := by decide +kernel
theorem dX7_copy_55 : decode cX7_copy 55 = .ok (.iconst 5, 1) := by decide +kernel
theorem dX7_copy_56 : decode cX7_copy 56 = .ok (.invokevirtual 71, 3) := by decide +kernel
theorem dX7_copy_59 : decode cX7_copy 59 = .ok (.ireturn, 1) := by decide +kernel
theorem dX7_copy_60 : decode cX7_copy 60 = .ok (.aload_n 0, 1) := by decide +kernel
theorem dX7_copy_61 : decode cX7_copy 61 = .ok (.iload_n 1, 1) := by decide +kernel
theorem dX7_copy_62 : decode cX7_copy 62 = .ok (.iload_n 2, 1) := by decide +kernel
theorem dX7_copy_63 : decode cX7_copy 63 = .ok (.iload 5, 2) := by decide +kernel
theorem dX7_copy_65 : decode cX7_copy 65 = .ok (.invokevirtual 85, 3) := by decide +kernel
theorem dX7_copy_68 : decode cX7_copy 68 = .ok (.ifCond .eq 15, 3) := by decide +kernel
theorem dX7_copy_71 : decode cX7_copy 71 = .ok (.aload_n 0, 1) := by decide +kernel
theorem dX7_copy_72 : decode cX7_copy 72 = .ok (.iload_n 3, 1) := by decide +kernel
theorem dX7_copy_73 : decode cX7_copy 73 = .ok (.iload 4, 2) := by decide +kernel
theorem dX7_copy_75 : decode cX7_copy 75 = .ok (.iload 5, 2) := by decide +kernel
theorem dX7_copy_77 : decode cX7_copy 77 = .ok (.invokevirtual 85, 3) := by decide +kernel
theorem dX7_copy_80 : decode cX7_copy 80 = .ok (.ifCond .ne 9, 3) := by decide +kernel
theorem dX7_copy_83 : decode cX7_copy 83 = .ok (.aload_n 0, 1) := by decide +kernel
theorem dX7_copy_84 : decode cX7_copy 84 = .ok (.iconst 2, 1) := by decide +kernel
theorem dX7_copy_85 : decode cX7_copy 85 = .ok (.invokevirtual 71, 3) := by decide +kernel
theorem dX7_copy_88 : decode cX7_copy 88 = .ok (.ireturn, 1) := by decide +kernel
theorem dX7_copy_89 : decode cX7_copy 89 = .ok (.iconst 0, 1) := by decide +kernel
theorem dX7_copy_90 : decode cX7_copy 90 = .ok (.istore 6, 2) := by decide +kernel
theorem dX7_copy_92 : decode cX7_copy 92 = .ok (.iload 6, 2) := by decide +kernel
theorem dX7_copy_94 : decode cX7_copy 94 = .ok (.iload 5, 2) := by decide +kernel
theorem dX7_copy_96 : decode cX7_copy 96 = .ok (.if_icmp .ge 30, 3) := by decide +kernel
theorem dX7_copy_99 : decode cX7_copy 99 = .ok (.aload_n 0, 1) := by decide +kernel
theorem dX7_copy_100 : decode cX7_copy 100 = .ok (.getfield 19, 3) := by decide +kernel
theorem dX7_copy_103 : decode cX7_copy 103 = .ok (.iload 6, 2) := by decide +kernel
theorem dX7_copy_105 : decode cX7_copy 105 = .ok (.aload_n 0, 1) := by decide +kernel
theorem dX7_copy_106 : decode cX7_copy 106 = .ok (.getfield 16, 3) := by decide +kernel
theorem dX7_copy_109 : decode cX7_copy 109 = .ok (.bipush 40, 2) := by decide +kernel
theorem dX7_copy_111 : decode cX7_copy 111 = .ok (.iload_n 1, 1) := by decide +kernel
theorem dX7_copy_112 : decode cX7_copy 112 = .ok (.imul, 1) := by decide +kernel
theorem dX7_copy_113 : decode cX7_copy 113 = .ok (.iload_n 2, 1) := by decide +kernel
theorem dX7_copy_114 : decode cX7_copy 114 = .ok (.iadd, 1) := by decide +kernel
theorem dX7_copy_115 : decode cX7_copy 115 = .ok (.iload 6, 2) := by decide +kernel
theorem dX7_copy_117 : decode cX7_copy 117 = .ok (.iadd, 1) := by decide +kernel
theorem dX7_copy_118 : decode cX7_copy 118 = .ok (.iaload, 1) := by decide +kernel
theorem dX7_copy_119 : decode cX7_copy 119 = .ok (.iastore, 1) := by decide +kernel
theorem dX7_copy_120 : decode cX7_copy 120 = .ok (.iinc 6 1, 3) := by decide +kernel
theorem dX7_copy_123 : decode cX7_copy 123 = .ok (.goto (-31), 3) := by decide +kernel
theorem dX7_copy_126 : decode cX7_copy 126 = .ok (.iconst 0, 1) := by decide +kernel
theorem dX7_copy_127 : decode cX7_copy 127 = .ok (.istore 6, 2) := by decide +kernel
theorem dX7_copy_129 : decode cX7_copy 129 = .ok (.iload 6, 2) := by decide +kernel
theorem dX7_copy_131 : decode cX7_copy 131 = .ok (.iload 5, 2) := by decide +kernel
theorem dX7_copy_133 : decode cX7_copy 133 = .ok (.if_icmp .ge 31, 3) := by decide +kernel
theorem dX7_copy_136 : decode cX7_copy 136 = .ok (.aload_n 0, 1) := by decide +kernel
theorem dX7_copy_137 : decode cX7_copy 137 = .ok (.getfield 16, 3) := by decide +kernel
theorem dX7_copy_140 : decode cX7_copy 140 = .ok (.bipush 40, 2) := by decide +kernel
theorem dX7_copy_142 : decode cX7_copy 142 = .ok (.iload_n 3, 1) := by decide +kernel
theorem dX7_copy_143 : decode cX7_copy 143 = .ok (.imul, 1) := by decide +kernel
theorem dX7_copy_144 : decode cX7_copy 144 = .ok (.iload 4, 2) := by decide +kernel
theorem dX7_copy_146 : decode cX7_copy 146 = .ok (.iadd, 1) := by decide +kernel
theorem dX7_copy_147 : decode cX7_copy 147 = .ok (.iload 6, 2) := by decide +kernel
theorem dX7_copy_149 : decode cX7_copy 149 = .ok (.iadd, 1) := by decide +kernel
theorem dX7_copy_150 : decode cX7_copy 150 = .ok (.aload_n 0, 1) := by decide +kernel
theorem dX7_copy_151 : decode cX7_copy 151 = .ok (.getfield 19, 3) := by decide +kernel
theorem dX7_copy_154 : decode cX7_copy 154 = .ok (.iload 6, 2) := by decide +kernel
theorem dX7_copy_156 : decode cX7_copy 156 = .ok (.iaload, 1) := by decide +kernel
theorem dX7_copy_157 : decode cX7_copy 157 = .ok (.iastore, 1) := by decide +kernel
theorem dX7_copy_158 : decode cX7_copy 158 = .ok (.iinc 6 1, 3) := by decide +kernel
theorem dX7_copy_161 : decode cX7_copy 161 = .ok (.goto (-32), 3) := by decide +kernel
theorem dX7_copy_164 : decode cX7_copy 164 = .ok (.aload_n 0, 1) := by decide +kernel
theorem dX7_copy_165 : decode cX7_copy 165 = .ok (.iload 5, 2) := by decide +kernel
theorem dX7_copy_167 : decode cX7_copy 167 = .ok (.invokevirtual 75, 3) := by decide +kernel
theorem dX7_copy_170 : decode cX7_copy 170 = .ok (.ireturn, 1) := by decide +kernel
theorem dX7_drop_0 : decode cX7_drop 0 = .ok (.iload_n 1, 1) := by decide +kernel
theorem dX7_drop_1 : decode cX7_drop 1 = .ok (.invokestatic 66, 3) := by decide +kernel
theorem dX7_drop_4 : decode cX7_drop 4 = .ok (.ifCond .ne 6, 3) := by decide +kernel
theorem dX7_drop_7 : decode cX7_drop 7 = .ok (.ldc 70, 2) := by decide +kernel
theorem dX7_drop_9 : decode cX7_drop 9 = .ok (.ireturn, 1) := by decide +kernel
theorem dX7_drop_10 : decode cX7_drop 10 = .ok (.aload_n 0, 1) := by decide +kernel
theorem dX7_drop_11 : decode cX7_drop 11 = .ok (.iload_n 1, 1) := by decide +kernel
theorem dX7_drop_12 : decode cX7_drop 12 = .ok (.invokevirtual 78, 3) := by decide +kernel
theorem dX7_drop_15 : decode cX7_drop 15 = .ok (.ifCond .eq 9, 3) := by decide +kernel
theorem dX7_drop_18 : decode cX7_drop 18 = .ok (.aload_n 0, 1) := by decide +kernel
theorem dX7_drop_19 : decode cX7_drop 19 = .ok (.iconst 1, 1) := by decide +kernel
theorem dX7_drop_20 : decode cX7_drop 20 = .ok (.invokevirtual 71, 3) := by decide +kernel
theorem dX7_drop_23 : decode cX7_drop 23 = .ok (.ireturn, 1) := by decide +kernel
theorem dX7_drop_24 : decode cX7_drop 24 = .ok (.aload_n 0, 1) := by decide +kernel
theorem dX7_drop_25 : decode cX7_drop 25 = .ok (.getfield 7, 3) := by decide +kernel
theorem dX7_drop_28 : decode cX7_drop 28 = .ok (.iload_n 1, 1) := by decide +kernel
theorem dX7_drop_29 : decode cX7_drop 29 = .ok (.ldc 56, 2) := by decide +kernel
theorem dX7_drop_31 : decode cX7_drop 31 = .ok (.iastore, 1) := by decide +kernel
theorem dX7_drop_32 : decode cX7_drop 32 = .ok (.aload_n 0, 1) := by decide +kernel
theorem dX7_drop_33 : decode cX7_drop 33 = .ok (.aload_n 0, 1) := by decide +kernel
theorem dX7_drop_34 : decode cX7_drop 34 = .ok (.getfield 13, 3) := by decide +kernel
theorem dX7_drop_37 : decode cX7_drop 37 = .ok (.iload_n 1, 1) := by decide +kernel
theorem dX7_drop_38 : decode cX7_drop 38 = .ok (.iaload, 1) := by decide +kernel
theorem dX7_drop_39 : decode cX7_drop 39 = .ok (.invokevirtual 75, 3) := by decide +kernel
theorem dX7_drop_42 : decode cX7_drop 42 = .ok (.ireturn, 1) := by decide +kernel
theorem dX7_feed_0 : decode cX7_feed 0 = .ok (.iload_n 1, 1) := by decide +kernel
theorem dX7_feed_1 : decode cX7_feed 1 = .ok (.iconst 0, 1) := by decide +kernel
theorem dX7_feed_2 : decode cX7_feed 2 = .ok (.sipush 255, 3) := by decide +kernel
theorem dX7_feed_5 : decode cX7_feed 5 = .ok (.invokestatic 62, 3) := by decide +kernel
theorem dX7_feed_8 : decode cX7_feed 8 = .ok (.ifCond .ne 6, 3) := by decide +kernel
theorem dX7_feed_11 : decode cX7_feed 11 = .ok (.ldc 70, 2) := by decide +kernel
theorem dX7_feed_13 : decode cX7_feed 13 = .ok (.ireturn, 1) := by decide +kernel
theorem dX7_feed_14 : decode cX7_feed 14 = .ok (.aload_n 0, 1) := by decide +kernel
theorem dX7_feed_15 : decode cX7_feed 15 = .ok (.getfield 88, 3) := by decide +kernel
theorem dX7_feed_18 : decode cX7_feed 18 = .ok (.sipush 130, 3) := by decide +kernel
theorem dX7_feed_21 : decode cX7_feed 21 = .ok (.if_icmp .ne 6, 3) := by decide +kernel
theorem dX7_feed_24 : decode cX7_feed 24 = .ok (.ldc 91, 2) := by decide +kernel
theorem dX7_feed_26 : decode cX7_feed 26 = .ok (.ireturn, 1) := by decide +kernel
theorem dX7_feed_27 : decode cX7_feed 27 = .ok (.aload_n 0, 1) := by decide +kernel
theorem dX7_feed_28 : decode cX7_feed 28 = .ok (.getfield 22, 3) := by decide +kernel
theorem dX7_feed_31 : decode cX7_feed 31 = .ok (.aload_n 0, 1) := by decide +kernel
theorem dX7_feed_32 : decode cX7_feed 32 = .ok (.getfield 88, 3) := by decide +kernel
theorem dX7_feed_35 : decode cX7_feed 35 = .ok (.iload_n 1, 1) := by decide +kernel
theorem dX7_feed_36 : decode cX7_feed 36 = .ok (.iastore, 1) := by decide +kernel
theorem dX7_feed_37 : decode cX7_feed 37 = .ok (.aload_n 0, 1) := by decide +kernel
theorem dX7_feed_38 : decode cX7_feed 38 = .ok (.dup, 1) := by decide +kernel
theorem dX7_feed_39 : decode cX7_feed 39 = .ok (.getfield 88, 3) := by decide +kernel
theorem dX7_feed_42 : decode cX7_feed 42 = .ok (.iconst 1, 1) := by decide +kernel
theorem dX7_feed_43 : decode cX7_feed 43 = .ok (.iadd, 1) := by decide +kernel
theorem dX7_feed_44 : decode cX7_feed 44 = .ok (.putfield 88, 3) := by decide +kernel
theorem dX7_feed_47 : decode cX7_feed 47 = .ok (.aload_n 0, 1) := by decide +kernel
theorem dX7_feed_48 : decode cX7_feed 48 = .ok (.getfield 88, 3) := by decide +kernel
theorem dX7_feed_51 : decode cX7_feed 51 = .ok (.ireturn, 1) := by decide +kernel
theorem dX7_byteAt_0 : decode cX7_byteAt 0 = .ok (.iload_n 1, 1) := by decide +kernel
theorem dX7_byteAt_1 : decode cX7_byteAt 1 = .ok (.aload_n 0, 1) := by decide +kernel
theorem dX7_byteAt_2 : decode cX7_byteAt 2 = .ok (.getfield 88, 3) := by decide +kernel
theorem dX7_byteAt_5 : decode cX7_byteAt 5 = .ok (.if_icmp .ge 12, 3) := by decide +kernel
theorem dX7_byteAt_8 : decode cX7_byteAt 8 = .ok (.aload_n 0, 1) := by decide +kernel
theorem dX7_byteAt_9 : decode cX7_byteAt 9 = .ok (.getfield 22, 3) := by decide +kernel
theorem dX7_byteAt_12 : decode cX7_byteAt 12 = .ok (.iload_n 1, 1) := by decide +kernel
theorem dX7_byteAt_13 : decode cX7_byteAt 13 = .ok (.iaload, 1) := by decide +kernel
theorem dX7_byteAt_14 : decode cX7_byteAt 14 = .ok (.goto 4, 3) := by decide +kernel
theorem dX7_byteAt_17 : decode cX7_byteAt 17 = .ok (.iconst (-1), 1) := by decide +kernel
theorem dX7_byteAt_18 : decode cX7_byteAt 18 = .ok (.ireturn, 1) := by decide +kernel
theorem dX7_advances_0 : decode cX7_advances 0 = .ok (.aload_n 0, 1) := by decide +kernel
theorem dX7_advances_1 : decode cX7_advances 1 = .ok (.aload_n 0, 1) := by decide +kernel
theorem dX7_advances_2 : decode cX7_advances 2 = .ok (.getfield 92, 3) := by decide +kernel
theorem dX7_advances_5 : decode cX7_advances 5 = .ok (.putfield 95, 3) := by decide +kernel
theorem dX7_advances_8 : decode cX7_advances 8 = .ok (.aload_n 0, 1) := by decide +kernel
theorem dX7_advances_9 : decode cX7_advances 9 = .ok (.aload_n 0, 1) := by decide +kernel
theorem dX7_advances_10 : decode cX7_advances 10 = .ok (.getfield 92, 3) := by decide +kernel
theorem dX7_advances_13 : decode cX7_advances 13 = .ok (.invokevirtual 98, 3) := by decide +kernel
theorem dX7_advances_16 : decode cX7_advances 16 = .ok (.istore_n 1, 1) := by decide +kernel
theorem dX7_advances_17 : decode cX7_advances 17 = .ok (.aload_n 0, 1) := by decide +kernel
theorem dX7_advances_18 : decode cX7_advances 18 = .ok (.iload_n 1, 1) := by decide +kernel
theorem dX7_advances_19 : decode cX7_advances 19 = .ok (.putfield 101, 3) := by decide +kernel
theorem dX7_advances_22 : decode cX7_advances 22 = .ok (.iload_n 1, 1) := by decide +kernel
theorem dX7_advances_23 : decode cX7_advances 23 = .ok (.bipush 48, 2) := by decide +kernel
theorem dX7_advances_25 : decode cX7_advances 25 = .ok (.bipush 57, 2) := by decide +kernel
theorem dX7_advances_27 : decode cX7_advances 27 = .ok (.invokestatic 62, 3) := by decide +kernel
theorem dX7_advances_30 : decode cX7_advances 30 = .ok (.ifCond .eq 105, 3) := by decide +kernel
theorem dX7_advances_33 : decode cX7_advances 33 = .ok (.aload_n 0, 1) := by decide +kernel
theorem dX7_advances_34 : decode cX7_advances 34 = .ok (.iconst 0, 1) := by decide +kernel
theorem dX7_advances_35 : decode cX7_advances 35 = .ok (.putfield 101, 3) := by decide +kernel
theorem dX7_advances_38 : decode cX7_advances 38 = .ok (.aload_n 0, 1) := by decide +kernel
theorem dX7_advances_39 : decode cX7_advances 39 = .ok (.aload_n 0, 1) := by decide +kernel
theorem dX7_advances_40 : decode cX7_advances 40 = .ok (.getfield 92, 3) := by decide +kernel
theorem dX7_advances_43 : decode cX7_advances 43 = .ok (.invokevirtual 98, 3) := by decide +kernel
theorem dX7_advances_46 : decode cX7_advances 46 = .ok (.bipush 48, 2) := by decide +kernel
theorem dX7_advances_48 : decode cX7_advances 48 = .ok (.bipush 57, 2) := by decide +kernel
theorem dX7_advances_50 : decode cX7_advances 50 = .ok (.invokestatic 62, 3) := by decide +kernel
theorem dX7_advances_53 : decode cX7_advances 53 = .ok (.ifCond .eq 59, 3) := by decide +kernel
theorem dX7_advances_56 : decode cX7_advances 56 = .ok (.aload_n 0, 1) := by decide +kernel
theorem dX7_advances_57 : decode cX7_advances 57 = .ok (.aload_n 0, 1) := by decide +kernel
theorem dX7_advances_58 : decode cX7_advances 58 = .ok (.getfield 92, 3) := by decide +kernel
theorem dX7_advances_61 : decode cX7_advances 61 = .ok (.aload_n 0, 1) := by decide +kernel
theorem dX7_advances_62 : decode cX7_advances 62 = .ok (.getfield 95, 3) := by decide +kernel
theorem dX7_advances_65 : decode cX7_advances 65 = .ok (.isub, 1) := by decide +kernel
theorem dX7_advances_66 : decode cX7_advances 66 = .ok (.iconst 2, 1) := by decide +kernel
theorem dX7_advances_67 : decode cX7_advances 67 = .ok (.if_icmp .ge 25, 3) := by decide +kernel
theorem dX7_advances_70 : decode cX7_advances 70 = .ok (.bipush 10, 2) := by decide +kernel
theorem dX7_advances_72 : decode cX7_advances 72 = .ok (.aload_n 0, 1) := by decide +kernel
theorem dX7_advances_73 : decode cX7_advances 73 = .ok (.getfield 101, 3) := by decide +kernel
theorem dX7_advances_76 : decode cX7_advances 76 = .ok (.imul, 1) := by decide +kernel
theorem dX7_advances_77 : decode cX7_advances 77 = .ok (.aload_n 0, 1) := by decide +kernel
theorem dX7_advances_78 : decode cX7_advances 78 = .ok (.aload_n 0, 1) := by decide +kernel
theorem dX7_advances_79 : decode cX7_advances 79 = .ok (.getfield 92, 3) := by decide +kernel
theorem dX7_advances_82 : decode cX7_advances 82 = .ok (.invokevirtual 98, 3) := by decide +kernel
theorem dX7_advances_85 : decode cX7_advances 85 = .ok (.iadd, 1) := by decide +kernel
theorem dX7_advances_86 : decode cX7_advances 86 = .ok (.bipush 48, 2) := by decide +kernel
theorem dX7_advances_88 : decode cX7_advances 88 = .ok (.isub, 1) := by decide +kernel
theorem dX7_advances_89 : decode cX7_advances 89 = .ok (.goto 7, 3) := by decide +kernel
theorem dX7_advances_92 : decode cX7_advances 92 = .ok (.aload_n 0, 1) := by decide +kernel
theorem dX7_advances_93 : decode cX7_advances 93 = .ok (.getfield 101, 3) := by decide +kernel
theorem dX7_advances_96 : decode cX7_advances 96 = .ok (.putfield 101, 3) := by decide +kernel
theorem dX7_advances_99 : decode cX7_advances 99 = .ok (.aload_n 0, 1) := by decide +kernel
theorem dX7_advances_100 : decode cX7_advances 100 = .ok (.dup, 1) := by decide +kernel
theorem dX7_advances_101 : decode cX7_advances 101 = .ok (.getfield 92, 3) := by decide +kernel
theorem dX7_advances_104 : decode cX7_advances 104 = .ok (.iconst 1, 1) := by decide +kernel
theorem dX7_advances_105 : decode cX7_advances 105 = .ok (.iadd, 1) := by decide +kernel
theorem dX7_advances_106 : decode cX7_advances 106 = .ok (.putfield 92, 3) := by decide +kernel
theorem dX7_advances_109 : decode cX7_advances 109 = .ok (.goto (-71), 3) := by decide +kernel
theorem dX7_advances_112 : decode cX7_advances 112 = .ok (.aload_n 0, 1) := by decide +kernel
theorem dX7_advances_113 : decode cX7_advances 113 = .ok (.aload_n 0, 1) := by decide +kernel
theorem dX7_advances_114 : decode cX7_advances 114 = .ok (.getfield 92, 3) := by decide +kernel
theorem dX7_advances_117 : decode cX7_advances 117 = .ok (.aload_n 0, 1) := by decide +kernel
theorem dX7_advances_118 : decode cX7_advances 118 = .ok (.getfield 95, 3) := by decide +kernel
theorem dX7_advances_121 : decode cX7_advances 121 = .ok (.isub, 1) := by decide +kernel
theorem dX7_advances_122 : decode cX7_advances 122 = .ok (.iconst 3, 1) := by decide +kernel
theorem dX7_advances_123 : decode cX7_advances 123 = .ok (.if_icmp .ge 7, 3) := by decide +kernel
theorem dX7_advances_126 : decode cX7_advances 126 = .ok (.iconst 2, 1) := by decide +kernel
theorem dX7_advances_127 : decode cX7_advances 127 = .ok (.goto 4, 3) := by decide +kernel
theorem dX7_advances_130 : decode cX7_advances 130 = .ok (.iconst 5, 1) := by decide +kernel
theorem dX7_advances_131 : decode cX7_advances 131 = .ok (.putfield 104, 3) := by decide +kernel
theorem dX7_advances_134 : decode cX7_advances 134 = .ok (.return_, 1) := by decide +kernel
theorem dX7_advances_135 : decode cX7_advances 135 = .ok (.aload_n 0, 1) := by decide +kernel
theorem dX7_advances_136 : decode cX7_advances 136 = .ok (.iload_n 1, 1) := by decide +kernel
theorem dX7_advances_137 : decode cX7_advances 137 = .ok (.ifCond .ge 7, 3) := by decide +kernel
theorem dX7_advances_140 : decode cX7_advances 140 = .ok (.iconst 0, 1) := by decide +kernel
theorem dX7_advances_141 : decode cX7_advances 141 = .ok (.goto 39, 3) := by decide +kernel
theorem dX7_advances_144 : decode cX7_advances 144 = .ok (.iload_n 1, 1) := by decide +kernel
theorem dX7_advances_145 : decode cX7_advances 145 = .ok (.bipush 97, 2) := by decide +kernel
theorem dX7_advances_147 : decode cX7_advances 147 = .ok (.bipush 122, 2) := by decide +kernel
theorem dX7_advances_149 : decode cX7_advances 149 = .ok (.invokestatic 62, 3) := by decide +kernel
theorem dX7_advances_152 : decode cX7_advances 152 = .ok (.ifCond .eq 7, 3) := by decide +kernel
theorem dX7_advances_155 : decode cX7_advances 155 = .ok (.iconst 1, 1) := by decide +kernel
theorem dX7_advances_156 : decode cX7_advances 156 = .ok (.goto 24, 3) := by decide +kernel
theorem dX7_advances_159 : decode cX7_advances 159 = .ok (.iload_n 1, 1) := by decide +kernel
theorem dX7_advances_160 : decode cX7_advances 160 = .ok (.bipush 44, 2) := by decide +kernel
theorem dX7_advances_162 : decode cX7_advances 162 = .ok (.if_icmp .ne 7, 3) := by decide +kernel
theorem dX7_advances_165 : decode cX7_advances 165 = .ok (.iconst 3, 1) := by decide +kernel
theorem dX7_advances_166 : decode cX7_advances 166 = .ok (.goto 14, 3) := by decide +kernel
theorem dX7_advances_169 : decode cX7_advances 169 = .ok (.iload_n 1, 1) := by decide +kernel
theorem dX7_advances_170 : decode cX7_advances 170 = .ok (.bipush 59, 2) := by decide +kernel
theorem dX7_advances_172 : decode cX7_advances 172 = .ok (.if_icmp .ne 7, 3) := by decide +kernel
theorem dX7_advances_175 : decode cX7_advances 175 = .ok (.iconst 4, 1) := by decide +kernel
theorem dX7_advances_176 : decode cX7_advances 176 = .ok (.goto 4, 3) := by decide +kernel
theorem dX7_advances_179 : decode cX7_advances 179 = .ok (.iconst 5, 1) := by decide +kernel
theorem dX7_advances_180 : decode cX7_advances 180 = .ok (.putfield 104, 3) := by decide +kernel
theorem dX7_advances_183 : decode cX7_advances 183 = .ok (.aload_n 0, 1) := by decide +kernel
theorem dX7_advances_184 : decode cX7_advances 184 = .ok (.dup, 1) := by decide +kernel
theorem dX7_advances_185 : decode cX7_advances 185 = .ok (.getfield 92, 3) := by decide +kernel
theorem dX7_advances_188 : decode cX7_advances 188 = .ok (.aload_n 0, 1) := by decide +kernel
theorem dX7_advances_189 : decode cX7_advances 189 = .ok (.getfield 104, 3) := by decide +kernel
theorem dX7_advances_192 : decode cX7_advances 192 = .ok (.ifCond .ne 7, 3) := by decide +kernel
theorem dX7_advances_195 : decode cX7_advances 195 = .ok (.iconst 0, 1) := by decide +kernel
theorem dX7_advances_196 : decode cX7_advances 196 = .ok (.goto 4, 3) := by decide +kernel
theorem dX7_advances_199 : decode cX7_advances 199 = .ok (.iconst 1, 1) := by decide +kernel
theorem dX7_advances_200 : decode cX7_advances 200 = .ok (.iadd, 1) := by decide +kernel
theorem dX7_advances_201 : decode cX7_advances 201 = .ok (.putfield 92, 3) := by decide +kernel
theorem dX7_advances_204 : decode cX7_advances 204 = .ok (.return_, 1) := by decide +kernel
theorem dX7_isWell_0 : decode cX7_isWell 0 = .ok (.aload_n 0, 1) := by decide +kernel
theorem dX7_isWell_1 : decode cX7_isWell 1 = .ok (.getfield 107, 3) := by decide +kernel
theorem dX7_isWell_4 : decode cX7_isWell 4 = .ok (.ifCond .ge 7, 3) := by decide +kernel
theorem dX7_isWell_7 : decode cX7_isWell 7 = .ok (.iconst 1, 1) := by decide +kernel
theorem dX7_isWell_8 : decode cX7_isWell 8 = .ok (.goto 4, 3) := by decide +kernel
theorem dX7_isWell_11 : decode cX7_isWell 11 = .ok (.iconst 0, 1) := by decide +kernel
theorem dX7_isWell_12 : decode cX7_isWell 12 = .ok (.ireturn, 1) := by decide +kernel
theorem dX7_takes_0 : decode cX7_takes 0 = .ok (.aload_n 0, 1) := by decide +kernel
theorem dX7_takes_1 : decode cX7_takes 1 = .ok (.invokevirtual 110, 3) := by decide +kernel
theorem dX7_takes_4 : decode cX7_takes 4 = .ok (.ifCond .ne 5, 3) := by decide +kernel
theorem dX7_takes_7 : decode cX7_takes 7 = .ok (.iconst 0, 1) := by decide +kernel
theorem dX7_takes_8 : decode cX7_takes 8 = .ok (.ireturn, 1) := by decide +kernel
theorem dX7_takes_9 : decode cX7_takes 9 = .ok (.iload_n 1, 1) := by decide +kernel
theorem dX7_takes_10 : decode cX7_takes 10 = .ok (.ifCond .ne 18, 3) := by decide +kernel
theorem dX7_takes_13 : decode cX7_takes 13 = .ok (.aload_n 0, 1) := by decide +kernel
theorem dX7_takes_14 : decode cX7_takes 14 = .ok (.aload_n 0, 1) := by decide +kernel
theorem dX7_takes_15 : decode cX7_takes 15 = .ok (.getfield 95, 3) := by decide +kernel
theorem dX7_takes_18 : decode cX7_takes 18 = .ok (.putfield 107, 3) := by decide +kernel
theorem dX7_takes_21 : decode cX7_takes 21 = .ok (.aload_n 0, 1) := by decide +kernel
theorem dX7_takes_22 : decode cX7_takes 22 = .ok (.iload_n 2, 1) := by decide +kernel
theorem dX7_takes_23 : decode cX7_takes 23 = .ok (.putfield 114, 3) := by decide +kernel
theorem dX7_takes_26 : decode cX7_takes 26 = .ok (.iconst 0, 1) := by decide +kernel
theorem dX7_takes_27 : decode cX7_takes 27 = .ok (.ireturn, 1) := by decide +kernel
theorem dX7_takes_28 : decode cX7_takes 28 = .ok (.aload_n 0, 1) := by decide +kernel
theorem dX7_takes_29 : decode cX7_takes 29 = .ok (.getfield 101, 3) := by decide +kernel
theorem dX7_takes_32 : decode cX7_takes 32 = .ok (.istore_n 3, 1) := by decide +kernel
theorem dX7_takes_33 : decode cX7_takes 33 = .ok (.aload_n 0, 1) := by decide +kernel
theorem dX7_takes_34 : decode cX7_takes 34 = .ok (.invokevirtual 117, 3) := by decide +kernel
theorem dX7_takes_37 : decode cX7_takes 37 = .ok (.iload_n 3, 1) := by decide +kernel
theorem dX7_takes_38 : decode cX7_takes 38 = .ok (.ireturn, 1) := by decide +kernel
theorem dX7_figure_0 : decode cX7_figure 0 = .ok (.aload_n 0, 1) := by decide +kernel
theorem dX7_figure_1 : decode cX7_figure 1 = .ok (.invokevirtual 110, 3) := by decide +kernel
theorem dX7_figure_4 : decode cX7_figure 4 = .ok (.ifCond .eq 18, 3) := by decide +kernel
theorem dX7_figure_7 : decode cX7_figure 7 = .ok (.aload_n 0, 1) := by decide +kernel
theorem dX7_figure_8 : decode cX7_figure 8 = .ok (.getfield 104, 3) := by decide +kernel
theorem dX7_figure_11 : decode cX7_figure 11 = .ok (.iconst 2, 1) := by decide +kernel
theorem dX7_figure_12 : decode cX7_figure 12 = .ok (.if_icmp .eq 10, 3) := by decide +kernel
theorem dX7_figure_15 : decode cX7_figure 15 = .ok (.aload_n 0, 1) := by decide +kernel
theorem dX7_figure_16 : decode cX7_figure 16 = .ok (.iconst 0, 1) := by decide +kernel
theorem dX7_figure_17 : decode cX7_figure 17 = .ok (.iconst 1, 1) := by decide +kernel
theorem dX7_figure_18 : decode cX7_figure 18 = .ok (.invokevirtual 120, 3) := by decide +kernel
theorem dX7_figure_21 : decode cX7_figure 21 = .ok (.ireturn, 1) := by decide +kernel
theorem dX7_figure_22 : decode cX7_figure 22 = .ok (.aload_n 0, 1) := by decide +kernel
theorem dX7_figure_23 : decode cX7_figure 23 = .ok (.aload_n 0, 1) := by decide +kernel
theorem dX7_figure_24 : decode cX7_figure 24 = .ok (.getfield 101, 3) := by decide +kernel
theorem dX7_figure_27 : decode cX7_figure 27 = .ok (.iload_n 1, 1) := by decide +kernel
theorem dX7_figure_28 : decode cX7_figure 28 = .ok (.iload_n 2, 1) := by decide +kernel
theorem dX7_figure_29 : decode cX7_figure 29 = .ok (.invokestatic 62, 3) := by decide +kernel
theorem dX7_figure_32 : decode cX7_figure 32 = .ok (.iconst 2, 1) := by decide +kernel
theorem dX7_figure_33 : decode cX7_figure 33 = .ok (.invokevirtual 120, 3) := by decide +kernel
theorem dX7_figure_36 : decode cX7_figure 36 = .ok (.ireturn, 1) := by decide +kernel
theorem dX7_kindOf_0 : decode cX7_kindOf 0 = .ok (.iload_n 0, 1) := by decide +kernel
theorem dX7_kindOf_1 : decode cX7_kindOf 1 = .ok (.bipush 97, 2) := by decide +kernel
theorem dX7_kindOf_3 : decode cX7_kindOf 3 = .ok (.if_icmp .ne 7, 3) := by decide +kernel
theorem dX7_kindOf_6 : decode cX7_kindOf 6 = .ok (.iconst 1, 1) := by decide +kernel
theorem dX7_kindOf_7 : decode cX7_kindOf 7 = .ok (.goto 44, 3) := by decide +kernel
theorem dX7_kindOf_10 : decode cX7_kindOf 10 = .ok (.iload_n 0, 1) := by decide +kernel
theorem dX7_kindOf_11 : decode cX7_kindOf 11 = .ok (.bipush 115, 2) := by decide +kernel
theorem dX7_kindOf_13 : decode cX7_kindOf 13 = .ok (.if_icmp .ne 7, 3) := by decide +kernel
theorem dX7_kindOf_16 : decode cX7_kindOf 16 = .ok (.iconst 2, 1) := by decide +kernel
theorem dX7_kindOf_17 : decode cX7_kindOf 17 = .ok (.goto 34, 3) := by decide +kernel
theorem dX7_kindOf_20 : decode cX7_kindOf 20 = .ok (.iload_n 0, 1) := by decide +kernel
theorem dX7_kindOf_21 : decode cX7_kindOf 21 = .ok (.bipush 114, 2) := by decide +kernel
theorem dX7_kindOf_23 : decode cX7_kindOf 23 = .ok (.if_icmp .ne 7, 3) := by decide +kernel
theorem dX7_kindOf_26 : decode cX7_kindOf 26 = .ok (.iconst 3, 1) := by decide +kernel
theorem dX7_kindOf_27 : decode cX7_kindOf 27 = .ok (.goto 24, 3) := by decide +kernel
theorem dX7_kindOf_30 : decode cX7_kindOf 30 = .ok (.iload_n 0, 1) := by decide +kernel
theorem dX7_kindOf_31 : decode cX7_kindOf 31 = .ok (.bipush 111, 2) := by decide +kernel
theorem dX7_kindOf_33 : decode cX7_kindOf 33 = .ok (.if_icmp .ne 7, 3) := by decide +kernel
theorem dX7_kindOf_36 : decode cX7_kindOf 36 = .ok (.iconst 4, 1) := by decide +kernel
theorem dX7_kindOf_37 : decode cX7_kindOf 37 = .ok (.goto 14, 3) := by decide +kernel
theorem dX7_kindOf_40 : decode cX7_kindOf 40 = .ok (.iload_n 0, 1) := by decide +kernel
theorem dX7_kindOf_41 : decode cX7_kindOf 41 = .ok (.bipush 119, 2) := by decide +kernel
theorem dX7_kindOf_43 : decode cX7_kindOf 43 = .ok (.if_icmp .ne 7, 3) := by decide +kernel
theorem dX7_kindOf_46 : decode cX7_kindOf 46 = .ok (.iconst 5, 1) := by decide +kernel
theorem dX7_kindOf_47 : decode cX7_kindOf 47 = .ok (.goto 4, 3) := by decide +kernel
theorem dX7_kindOf_50 : decode cX7_kindOf 50 = .ok (.iconst 0, 1) := by decide +kernel
theorem dX7_kindOf_51 : decode cX7_kindOf 51 = .ok (.ireturn, 1) := by decide +kernel
theorem dX7_follows_0 : decode cX7_follows 0 = .ok (.aload_n 0, 1) := by decide +kernel
theorem dX7_follows_1 : decode cX7_follows 1 = .ok (.aload_n 0, 1) := by decide +kernel
theorem dX7_follows_2 : decode cX7_follows 2 = .ok (.getfield 104, 3) := by decide +kernel
theorem dX7_follows_5 : decode cX7_follows 5 = .ok (.iconst 3, 1) := by decide +kernel
theorem dX7_follows_6 : decode cX7_follows 6 = .ok (.if_icmp .ne 7, 3) := by decide +kernel
theorem dX7_follows_9 : decode cX7_follows 9 = .ok (.iconst 1, 1) := by decide +kernel
theorem dX7_follows_10 : decode cX7_follows 10 = .ok (.goto 4, 3) := by decide +kernel
theorem dX7_follows_13 : decode cX7_follows 13 = .ok (.iconst 0, 1) := by decide +kernel
theorem dX7_follows_14 : decode cX7_follows 14 = .ok (.iconst 1, 1) := by decide +kernel
theorem dX7_follows_15 : decode cX7_follows 15 = .ok (.invokevirtual 120, 3) := by decide +kernel
theorem dX7_follows_18 : decode cX7_follows 18 = .ok (.pop, 1) := by decide +kernel
theorem dX7_follows_19 : decode cX7_follows 19 = .ok (.aload_n 0, 1) := by decide +kernel
theorem dX7_follows_20 : decode cX7_follows 20 = .ok (.iload_n 1, 1) := by decide +kernel
theorem dX7_follows_21 : decode cX7_follows 21 = .ok (.iload_n 2, 1) := by decide +kernel
theorem dX7_follows_22 : decode cX7_follows 22 = .ok (.invokevirtual 124, 3) := by decide +kernel
theorem dX7_follows_25 : decode cX7_follows 25 = .ok (.ireturn, 1) := by decide +kernel
theorem dX7_readsCell_0 : decode cX7_readsCell 0 = .ok (.aload_n 0, 1) := by decide +kernel
theorem dX7_readsCell_1 : decode cX7_readsCell 1 = .ok (.aload_n 0, 1) := by decide +kernel
theorem dX7_readsCell_2 : decode cX7_readsCell 2 = .ok (.getfield 28, 3) := by decide +kernel
theorem dX7_readsCell_5 : decode cX7_readsCell 5 = .ok (.iconst 1, 1) := by decide +kernel
theorem dX7_readsCell_6 : decode cX7_readsCell 6 = .ok (.iaload, 1) := by decide +kernel
theorem dX7_readsCell_7 : decode cX7_readsCell 7 = .ok (.bipush 16, 2) := by decide +kernel
theorem dX7_readsCell_9 : decode cX7_readsCell 9 = .ok (.if_icmp .ge 7, 3) := by decide +kernel
theorem dX7_readsCell_12 : decode cX7_readsCell 12 = .ok (.iconst 1, 1) := by decide +kernel
theorem dX7_readsCell_13 : decode cX7_readsCell 13 = .ok (.goto 4, 3) := by decide +kernel
theorem dX7_readsCell_16 : decode cX7_readsCell 16 = .ok (.iconst 0, 1) := by decide +kernel
theorem dX7_readsCell_17 : decode cX7_readsCell 17 = .ok (.iconst 3, 1) := by decide +kernel
theorem dX7_readsCell_18 : decode cX7_readsCell 18 = .ok (.invokevirtual 120, 3) := by decide +kernel
theorem dX7_readsCell_21 : decode cX7_readsCell 21 = .ok (.pop, 1) := by decide +kernel
theorem dX7_readsCell_22 : decode cX7_readsCell 22 = .ok (.bipush 6, 2) := by decide +kernel
theorem dX7_readsCell_24 : decode cX7_readsCell 24 = .ok (.aload_n 0, 1) := by decide +kernel
theorem dX7_readsCell_25 : decode cX7_readsCell 25 = .ok (.getfield 28, 3) := by decide +kernel
theorem dX7_readsCell_28 : decode cX7_readsCell 28 = .ok (.iconst 1, 1) := by decide +kernel
theorem dX7_readsCell_29 : decode cX7_readsCell 29 = .ok (.iaload, 1) := by decide +kernel
theorem dX7_readsCell_30 : decode cX7_readsCell 30 = .ok (.bipush 16, 2) := by decide +kernel
theorem dX7_readsCell_32 : decode cX7_readsCell 32 = .ok (.if_icmp .ge 12, 3) := by decide +kernel
theorem dX7_readsCell_35 : decode cX7_readsCell 35 = .ok (.aload_n 0, 1) := by decide +kernel
theorem dX7_readsCell_36 : decode cX7_readsCell 36 = .ok (.getfield 28, 3) := by decide +kernel
theorem dX7_readsCell_39 : decode cX7_readsCell 39 = .ok (.iconst 1, 1) := by decide +kernel
theorem dX7_readsCell_40 : decode cX7_readsCell 40 = .ok (.iaload, 1) := by decide +kernel
theorem dX7_readsCell_41 : decode cX7_readsCell 41 = .ok (.goto 4, 3) := by decide +kernel
theorem dX7_readsCell_44 : decode cX7_readsCell 44 = .ok (.iconst 0, 1) := by decide +kernel
theorem dX7_readsCell_45 : decode cX7_readsCell 45 = .ok (.iadd, 1) := by decide +kernel
theorem dX7_readsCell_46 : decode cX7_readsCell 46 = .ok (.istore_n 1, 1) := by decide +kernel
theorem dX7_readsCell_47 : decode cX7_readsCell 47 = .ok (.aload_n 0, 1) := by decide +kernel
theorem dX7_readsCell_48 : decode cX7_readsCell 48 = .ok (.iconst 0, 1) := by decide +kernel
theorem dX7_readsCell_49 : decode cX7_readsCell 49 = .ok (.bipush 9, 2) := by decide +kernel
theorem dX7_readsCell_51 : decode cX7_readsCell 51 = .ok (.invokevirtual 124, 3) := by decide +kernel
theorem dX7_readsCell_54 : decode cX7_readsCell 54 = .ok (.istore_n 2, 1) := by decide +kernel
theorem dX7_readsCell_55 : decode cX7_readsCell 55 = .ok (.aload_n 0, 1) := by decide +kernel
theorem dX7_readsCell_56 : decode cX7_readsCell 56 = .ok (.aload_n 0, 1) := by decide +kernel
theorem dX7_readsCell_57 : decode cX7_readsCell 57 = .ok (.getfield 104, 3) := by decide +kernel
theorem dX7_readsCell_60 : decode cX7_readsCell 60 = .ok (.iconst 4, 1) := by decide +kernel
theorem dX7_readsCell_61 : decode cX7_readsCell 61 = .ok (.if_icmp .ne 7, 3) := by decide +kernel
theorem dX7_readsCell_64 : decode cX7_readsCell 64 = .ok (.iconst 1, 1) := by decide +kernel
theorem dX7_readsCell_65 : decode cX7_readsCell 65 = .ok (.goto 4, 3) := by decide +kernel
theorem dX7_readsCell_68 : decode cX7_readsCell 68 = .ok (.iconst 0, 1) := by decide +kernel
theorem dX7_readsCell_69 : decode cX7_readsCell 69 = .ok (.iconst 1, 1) := by decide +kernel
theorem dX7_readsCell_70 : decode cX7_readsCell 70 = .ok (.invokevirtual 120, 3) := by decide +kernel
theorem dX7_readsCell_73 : decode cX7_readsCell 73 = .ok (.pop, 1) := by decide +kernel
theorem dX7_readsCell_74 : decode cX7_readsCell 74 = .ok (.aload_n 0, 1) := by decide +kernel
theorem dX7_readsCell_75 : decode cX7_readsCell 75 = .ok (.invokevirtual 110, 3) := by decide +kernel
theorem dX7_readsCell_78 : decode cX7_readsCell 78 = .ok (.ifCond .eq 20, 3) := by decide +kernel
theorem dX7_readsCell_81 : decode cX7_readsCell 81 = .ok (.aload_n 0, 1) := by decide +kernel
theorem dX7_readsCell_82 : decode cX7_readsCell 82 = .ok (.getfield 28, 3) := by decide +kernel
theorem dX7_readsCell_85 : decode cX7_readsCell 85 = .ok (.iload_n 1, 1) := by decide +kernel
theorem dX7_readsCell_86 : decode cX7_readsCell 86 = .ok (.iload_n 2, 1) := by decide +kernel
theorem dX7_readsCell_87 : decode cX7_readsCell 87 = .ok (.iastore, 1) := by decide +kernel
theorem dX7_readsCell_88 : decode cX7_readsCell 88 = .ok (.aload_n 0, 1) := by decide +kernel
theorem dX7_readsCell_89 : decode cX7_readsCell 89 = .ok (.getfield 28, 3) := by decide +kernel
theorem dX7_readsCell_92 : decode cX7_readsCell 92 = .ok (.iconst 1, 1) := by decide +kernel
theorem dX7_readsCell_93 : decode cX7_readsCell 93 = .ok (.dup2, 1) := by decide +kernel
theorem dX7_readsCell_94 : decode cX7_readsCell 94 = .ok (.iaload, 1) := by decide +kernel
theorem dX7_readsCell_95 : decode cX7_readsCell 95 = .ok (.iconst 1, 1) := by decide +kernel
theorem dX7_readsCell_96 : decode cX7_readsCell 96 = .ok (.iadd, 1) := by decide +kernel
theorem dX7_readsCell_97 : decode cX7_readsCell 97 = .ok (.iastore, 1) := by decide +kernel
theorem dX7_readsCell_98 : decode cX7_readsCell 98 = .ok (.return_, 1) := by decide +kernel
theorem dX7_homeOf_0 : decode cX7_homeOf 0 = .ok (.iconst 0, 1) := by decide +kernel
theorem dX7_homeOf_1 : decode cX7_homeOf 1 = .ok (.istore_n 2, 1) := by decide +kernel
theorem dX7_homeOf_2 : decode cX7_homeOf 2 = .ok (.iload_n 2, 1) := by decide +kernel
theorem dX7_homeOf_3 : decode cX7_homeOf 3 = .ok (.aload_n 0, 1) := by decide +kernel
theorem dX7_homeOf_4 : decode cX7_homeOf 4 = .ok (.iconst 2, 1) := by decide +kernel
theorem dX7_homeOf_5 : decode cX7_homeOf 5 = .ok (.iaload, 1) := by decide +kernel
theorem dX7_homeOf_6 : decode cX7_homeOf 6 = .ok (.if_icmp .ge 26, 3) := by decide +kernel
theorem dX7_homeOf_9 : decode cX7_homeOf 9 = .ok (.aload_n 0, 1) := by decide +kernel
theorem dX7_homeOf_10 : decode cX7_homeOf 10 = .ok (.bipush 22, 2) := by decide +kernel
theorem dX7_homeOf_12 : decode cX7_homeOf 12 = .ok (.bipush 6, 2) := by decide +kernel
theorem dX7_homeOf_14 : decode cX7_homeOf 14 = .ok (.iload_n 2, 1) := by decide +kernel
theorem dX7_homeOf_15 : decode cX7_homeOf 15 = .ok (.imul, 1) := by decide +kernel
theorem dX7_homeOf_16 : decode cX7_homeOf 16 = .ok (.iadd, 1) := by decide +kernel
theorem dX7_homeOf_17 : decode cX7_homeOf 17 = .ok (.iconst 1, 1) := by decide +kernel
theorem dX7_homeOf_18 : decode cX7_homeOf 18 = .ok (.iadd, 1) := by decide +kernel
theorem dX7_homeOf_19 : decode cX7_homeOf 19 = .ok (.iaload, 1) := by decide +kernel
theorem dX7_homeOf_20 : decode cX7_homeOf 20 = .ok (.iload_n 1, 1) := by decide +kernel
theorem dX7_homeOf_21 : decode cX7_homeOf 21 = .ok (.if_icmp .ne 5, 3) := by decide +kernel
theorem dX7_homeOf_24 : decode cX7_homeOf 24 = .ok (.iload_n 2, 1) := by decide +kernel
theorem dX7_homeOf_25 : decode cX7_homeOf 25 = .ok (.ireturn, 1) := by decide +kernel
theorem dX7_homeOf_26 : decode cX7_homeOf 26 = .ok (.iinc 2 1, 3) := by decide +kernel
theorem dX7_homeOf_29 : decode cX7_homeOf 29 = .ok (.goto (-27), 3) := by decide +kernel
theorem dX7_homeOf_32 : decode cX7_homeOf 32 = .ok (.ldc 56, 2) := by decide +kernel
theorem dX7_homeOf_34 : decode cX7_homeOf 34 = .ok (.ireturn, 1) := by decide +kernel
theorem dX7_takes2_0 : decode cX7_takes2 0 = .ok (.aload_n 0, 1) := by decide +kernel
theorem dX7_takes2_1 : decode cX7_takes2 1 = .ok (.invokevirtual 110, 3) := by decide +kernel
theorem dX7_takes2_4 : decode cX7_takes2 4 = .ok (.ifCond .eq 14, 3) := by decide +kernel
theorem dX7_takes2_7 : decode cX7_takes2 7 = .ok (.iload_n 1, 1) := by decide +kernel
theorem dX7_takes2_8 : decode cX7_takes2 8 = .ok (.ifCond .ne 10, 3) := by decide +kernel
theorem dX7_takes2_11 : decode cX7_takes2 11 = .ok (.aload_n 0, 1) := by decide +kernel
theorem dX7_takes2_12 : decode cX7_takes2 12 = .ok (.iconst 0, 1) := by decide +kernel
theorem dX7_takes2_13 : decode cX7_takes2 13 = .ok (.iconst 2, 1) := by decide +kernel
theorem dX7_takes2_14 : decode cX7_takes2 14 = .ok (.invokevirtual 120, 3) := by decide +kernel
theorem dX7_takes2_17 : decode cX7_takes2 17 = .ok (.pop, 1) := by decide +kernel
theorem dX7_takes2_18 : decode cX7_takes2 18 = .ok (.return_, 1) := by decide +kernel
theorem dX7_readsPin_0 : decode cX7_readsPin 0 = .ok (.aload_n 0, 1) := by decide +kernel
theorem dX7_readsPin_1 : decode cX7_readsPin 1 = .ok (.getfield 101, 3) := by decide +kernel
theorem dX7_readsPin_4 : decode cX7_readsPin 4 = .ok (.invokestatic 127, 3) := by decide +kernel
theorem dX7_readsPin_7 : decode cX7_readsPin 7 = .ok (.istore_n 1, 1) := by decide +kernel
theorem dX7_readsPin_8 : decode cX7_readsPin 8 = .ok (.aload_n 0, 1) := by decide +kernel
theorem dX7_readsPin_9 : decode cX7_readsPin 9 = .ok (.aload_n 0, 1) := by decide +kernel
theorem dX7_readsPin_10 : decode cX7_readsPin 10 = .ok (.getfield 28, 3) := by decide +kernel
theorem dX7_readsPin_13 : decode cX7_readsPin 13 = .ok (.iconst 2, 1) := by decide +kernel
theorem dX7_readsPin_14 : decode cX7_readsPin 14 = .ok (.iaload, 1) := by decide +kernel
theorem dX7_readsPin_15 : decode cX7_readsPin 15 = .ok (.bipush 7, 2) := by decide +kernel
theorem dX7_readsPin_17 : decode cX7_readsPin 17 = .ok (.if_icmp .ge 7, 3) := by decide +kernel
theorem dX7_readsPin_20 : decode cX7_readsPin 20 = .ok (.iconst 1, 1) := by decide +kernel
theorem dX7_readsPin_21 : decode cX7_readsPin 21 = .ok (.goto 4, 3) := by decide +kernel
theorem dX7_readsPin_24 : decode cX7_readsPin 24 = .ok (.iconst 0, 1) := by decide +kernel
theorem dX7_readsPin_25 : decode cX7_readsPin 25 = .ok (.iconst 3, 1) := by decide +kernel
theorem dX7_readsPin_26 : decode cX7_readsPin 26 = .ok (.invokevirtual 120, 3) := by decide +kernel
theorem dX7_readsPin_29 : decode cX7_readsPin 29 = .ok (.pop, 1) := by decide +kernel
theorem dX7_readsPin_30 : decode cX7_readsPin 30 = .ok (.bipush 22, 2) := by decide +kernel
theorem dX7_readsPin_32 : decode cX7_readsPin 32 = .ok (.bipush 6, 2) := by decide +kernel
theorem dX7_readsPin_34 : decode cX7_readsPin 34 = .ok (.aload_n 0, 1) := by decide +kernel
theorem dX7_readsPin_35 : decode cX7_readsPin 35 = .ok (.getfield 28, 3) := by decide +kernel
theorem dX7_readsPin_38 : decode cX7_readsPin 38 = .ok (.iconst 2, 1) := by decide +kernel
theorem dX7_readsPin_39 : decode cX7_readsPin 39 = .ok (.iaload, 1) := by decide +kernel
theorem dX7_readsPin_40 : decode cX7_readsPin 40 = .ok (.bipush 7, 2) := by decide +kernel
theorem dX7_readsPin_42 : decode cX7_readsPin 42 = .ok (.if_icmp .ge 12, 3) := by decide +kernel
theorem dX7_readsPin_45 : decode cX7_readsPin 45 = .ok (.aload_n 0, 1) := by decide +kernel
theorem dX7_readsPin_46 : decode cX7_readsPin 46 = .ok (.getfield 28, 3) := by decide +kernel
theorem dX7_readsPin_49 : decode cX7_readsPin 49 = .ok (.iconst 2, 1) := by decide +kernel
theorem dX7_readsPin_50 : decode cX7_readsPin 50 = .ok (.iaload, 1) := by decide +kernel
theorem dX7_readsPin_51 : decode cX7_readsPin 51 = .ok (.goto 4, 3) := by decide +kernel
theorem dX7_readsPin_54 : decode cX7_readsPin 54 = .ok (.iconst 0, 1) := by decide +kernel
theorem dX7_readsPin_55 : decode cX7_readsPin 55 = .ok (.imul, 1) := by decide +kernel
theorem dX7_readsPin_56 : decode cX7_readsPin 56 = .ok (.iadd, 1) := by decide +kernel
theorem dX7_readsPin_57 : decode cX7_readsPin 57 = .ok (.istore_n 2, 1) := by decide +kernel
theorem dX7_readsPin_58 : decode cX7_readsPin 58 = .ok (.aload_n 0, 1) := by decide +kernel
theorem dX7_readsPin_59 : decode cX7_readsPin 59 = .ok (.aload_n 0, 1) := by decide +kernel
theorem dX7_readsPin_60 : decode cX7_readsPin 60 = .ok (.getfield 104, 3) := by decide +kernel
theorem dX7_readsPin_63 : decode cX7_readsPin 63 = .ok (.iconst 2, 1) := by decide +kernel
theorem dX7_readsPin_64 : decode cX7_readsPin 64 = .ok (.if_icmp .ne 19, 3) := by decide +kernel
theorem dX7_readsPin_67 : decode cX7_readsPin 67 = .ok (.aload_n 0, 1) := by decide +kernel
theorem dX7_readsPin_68 : decode cX7_readsPin 68 = .ok (.getfield 28, 3) := by decide +kernel
theorem dX7_readsPin_71 : decode cX7_readsPin 71 = .ok (.aload_n 0, 1) := by decide +kernel
theorem dX7_readsPin_72 : decode cX7_readsPin 72 = .ok (.getfield 101, 3) := by decide +kernel
theorem dX7_readsPin_75 : decode cX7_readsPin 75 = .ok (.invokestatic 130, 3) := by decide +kernel
theorem dX7_readsPin_78 : decode cX7_readsPin 78 = .ok (.ldc 56, 2) := by decide +kernel
theorem dX7_readsPin_80 : decode cX7_readsPin 80 = .ok (.if_icmp .ne 7, 3) := by decide +kernel
theorem dX7_readsPin_83 : decode cX7_readsPin 83 = .ok (.iconst 1, 1) := by decide +kernel
theorem dX7_readsPin_84 : decode cX7_readsPin 84 = .ok (.goto 4, 3) := by decide +kernel
theorem dX7_readsPin_87 : decode cX7_readsPin 87 = .ok (.iconst 0, 1) := by decide +kernel
theorem dX7_readsPin_88 : decode cX7_readsPin 88 = .ok (.invokevirtual 134, 3) := by decide +kernel
theorem dX7_readsPin_91 : decode cX7_readsPin 91 = .ok (.aload_n 0, 1) := by decide +kernel
theorem dX7_readsPin_92 : decode cX7_readsPin 92 = .ok (.iconst 0, 1) := by decide +kernel
theorem dX7_readsPin_93 : decode cX7_readsPin 93 = .ok (.aload_n 0, 1) := by decide +kernel
theorem dX7_readsPin_94 : decode cX7_readsPin 94 = .ok (.getfield 28, 3) := by decide +kernel
theorem dX7_readsPin_97 : decode cX7_readsPin 97 = .ok (.iconst 1, 1) := by decide +kernel
theorem dX7_readsPin_98 : decode cX7_readsPin 98 = .ok (.iaload, 1) := by decide +kernel
theorem dX7_readsPin_99 : decode cX7_readsPin 99 = .ok (.iconst 1, 1) := by decide +kernel
theorem dX7_readsPin_100 : decode cX7_readsPin 100 = .ok (.isub, 1) := by decide +kernel
theorem dX7_readsPin_101 : decode cX7_readsPin 101 = .ok (.invokevirtual 124, 3) := by decide +kernel
theorem dX7_readsPin_104 : decode cX7_readsPin 104 = .ok (.istore_n 3, 1) := by decide +kernel
theorem dX7_readsPin_105 : decode cX7_readsPin 105 = .ok (.aload_n 0, 1) := by decide +kernel
theorem dX7_readsPin_106 : decode cX7_readsPin 106 = .ok (.iconst 1, 1) := by decide +kernel
theorem dX7_readsPin_107 : decode cX7_readsPin 107 = .ok (.bipush 9, 2) := by decide +kernel
theorem dX7_readsPin_109 : decode cX7_readsPin 109 = .ok (.invokevirtual 138, 3) := by decide +kernel
theorem dX7_readsPin_112 : decode cX7_readsPin 112 = .ok (.istore 4, 2) := by decide +kernel
theorem dX7_readsPin_114 : decode cX7_readsPin 114 = .ok (.aload_n 0, 1) := by decide +kernel
theorem dX7_readsPin_115 : decode cX7_readsPin 115 = .ok (.iconst 0, 1) := by decide +kernel
theorem dX7_readsPin_116 : decode cX7_readsPin 116 = .ok (.iconst 3, 1) := by decide +kernel
theorem dX7_readsPin_117 : decode cX7_readsPin 117 = .ok (.invokevirtual 138, 3) := by decide +kernel
theorem dX7_readsPin_120 : decode cX7_readsPin 120 = .ok (.istore 5, 2) := by decide +kernel
theorem dX7_readsPin_122 : decode cX7_readsPin 122 = .ok (.aload_n 0, 1) := by decide +kernel
theorem dX7_readsPin_123 : decode cX7_readsPin 123 = .ok (.aload_n 0, 1) := by decide +kernel
theorem dX7_readsPin_124 : decode cX7_readsPin 124 = .ok (.getfield 104, 3) := by decide +kernel
theorem dX7_readsPin_127 : decode cX7_readsPin 127 = .ok (.iconst 4, 1) := by decide +kernel
theorem dX7_readsPin_128 : decode cX7_readsPin 128 = .ok (.if_icmp .ne 7, 3) := by decide +kernel
theorem dX7_readsPin_131 : decode cX7_readsPin 131 = .ok (.iconst 1, 1) := by decide +kernel
theorem dX7_readsPin_132 : decode cX7_readsPin 132 = .ok (.goto 4, 3) := by decide +kernel
theorem dX7_readsPin_135 : decode cX7_readsPin 135 = .ok (.iconst 0, 1) := by decide +kernel
theorem dX7_readsPin_136 : decode cX7_readsPin 136 = .ok (.iconst 1, 1) := by decide +kernel
theorem dX7_readsPin_137 : decode cX7_readsPin 137 = .ok (.invokevirtual 120, 3) := by decide +kernel
theorem dX7_readsPin_140 : decode cX7_readsPin 140 = .ok (.pop, 1) := by decide +kernel
theorem dX7_readsPin_141 : decode cX7_readsPin 141 = .ok (.aload_n 0, 1) := by decide +kernel
theorem dX7_readsPin_142 : decode cX7_readsPin 142 = .ok (.invokevirtual 110, 3) := by decide +kernel
theorem dX7_readsPin_145 : decode cX7_readsPin 145 = .ok (.ifCond .eq 67, 3) := by decide +kernel
theorem dX7_readsPin_148 : decode cX7_readsPin 148 = .ok (.aload_n 0, 1) := by decide +kernel
theorem dX7_readsPin_149 : decode cX7_readsPin 149 = .ok (.getfield 28, 3) := by decide +kernel
theorem dX7_readsPin_152 : decode cX7_readsPin 152 = .ok (.iload_n 2, 1) := by decide +kernel
theorem dX7_readsPin_153 : decode cX7_readsPin 153 = .ok (.iload_n 1, 1) := by decide +kernel
theorem dX7_readsPin_154 : decode cX7_readsPin 154 = .ok (.iastore, 1) := by decide +kernel
theorem dX7_readsPin_155 : decode cX7_readsPin 155 = .ok (.aload_n 0, 1) := by decide +kernel
theorem dX7_readsPin_156 : decode cX7_readsPin 156 = .ok (.getfield 28, 3) := by decide +kernel
theorem dX7_readsPin_159 : decode cX7_readsPin 159 = .ok (.iload_n 2, 1) := by decide +kernel
theorem dX7_readsPin_160 : decode cX7_readsPin 160 = .ok (.iconst 1, 1) := by decide +kernel
theorem dX7_readsPin_161 : decode cX7_readsPin 161 = .ok (.iadd, 1) := by decide +kernel
theorem dX7_readsPin_162 : decode cX7_readsPin 162 = .ok (.iload_n 3, 1) := by decide +kernel
theorem dX7_readsPin_163 : decode cX7_readsPin 163 = .ok (.iastore, 1) := by decide +kernel
theorem dX7_readsPin_164 : decode cX7_readsPin 164 = .ok (.aload_n 0, 1) := by decide +kernel
theorem dX7_readsPin_165 : decode cX7_readsPin 165 = .ok (.getfield 28, 3) := by decide +kernel
theorem dX7_readsPin_168 : decode cX7_readsPin 168 = .ok (.iload_n 2, 1) := by decide +kernel
theorem dX7_readsPin_169 : decode cX7_readsPin 169 = .ok (.iconst 2, 1) := by decide +kernel
theorem dX7_readsPin_170 : decode cX7_readsPin 170 = .ok (.iadd, 1) := by decide +kernel
theorem dX7_readsPin_171 : decode cX7_readsPin 171 = .ok (.iload 4, 2) := by decide +kernel
theorem dX7_readsPin_173 : decode cX7_readsPin 173 = .ok (.iastore, 1) := by decide +kernel
theorem dX7_readsPin_174 : decode cX7_readsPin 174 = .ok (.aload_n 0, 1) := by decide +kernel
theorem dX7_readsPin_175 : decode cX7_readsPin 175 = .ok (.getfield 28, 3) := by decide +kernel
theorem dX7_readsPin_178 : decode cX7_readsPin 178 = .ok (.iload_n 2, 1) := by decide +kernel
theorem dX7_readsPin_179 : decode cX7_readsPin 179 = .ok (.iconst 3, 1) := by decide +kernel
theorem dX7_readsPin_180 : decode cX7_readsPin 180 = .ok (.iadd, 1) := by decide +kernel
theorem dX7_readsPin_181 : decode cX7_readsPin 181 = .ok (.iload 5, 2) := by decide +kernel
theorem dX7_readsPin_183 : decode cX7_readsPin 183 = .ok (.iastore, 1) := by decide +kernel
theorem dX7_readsPin_184 : decode cX7_readsPin 184 = .ok (.aload_n 0, 1) := by decide +kernel
theorem dX7_readsPin_185 : decode cX7_readsPin 185 = .ok (.getfield 28, 3) := by decide +kernel
theorem dX7_readsPin_188 : decode cX7_readsPin 188 = .ok (.iload_n 2, 1) := by decide +kernel
theorem dX7_readsPin_189 : decode cX7_readsPin 189 = .ok (.iconst 4, 1) := by decide +kernel
theorem dX7_readsPin_190 : decode cX7_readsPin 190 = .ok (.iadd, 1) := by decide +kernel
theorem dX7_readsPin_191 : decode cX7_readsPin 191 = .ok (.iload_n 3, 1) := by decide +kernel
theorem dX7_readsPin_192 : decode cX7_readsPin 192 = .ok (.iastore, 1) := by decide +kernel
theorem dX7_readsPin_193 : decode cX7_readsPin 193 = .ok (.aload_n 0, 1) := by decide +kernel
theorem dX7_readsPin_194 : decode cX7_readsPin 194 = .ok (.getfield 28, 3) := by decide +kernel
theorem dX7_readsPin_197 : decode cX7_readsPin 197 = .ok (.iload_n 2, 1) := by decide +kernel
theorem dX7_readsPin_198 : decode cX7_readsPin 198 = .ok (.iconst 5, 1) := by decide +kernel
theorem dX7_readsPin_199 : decode cX7_readsPin 199 = .ok (.iadd, 1) := by decide +kernel
theorem dX7_readsPin_200 : decode cX7_readsPin 200 = .ok (.iload_n 3, 1) := by decide +kernel
theorem dX7_readsPin_201 : decode cX7_readsPin 201 = .ok (.iastore, 1) := by decide +kernel
theorem dX7_readsPin_202 : decode cX7_readsPin 202 = .ok (.aload_n 0, 1) := by decide +kernel
theorem dX7_readsPin_203 : decode cX7_readsPin 203 = .ok (.getfield 28, 3) := by decide +kernel
theorem dX7_readsPin_206 : decode cX7_readsPin 206 = .ok (.iconst 2, 1) := by decide +kernel
theorem dX7_readsPin_207 : decode cX7_readsPin 207 = .ok (.dup2, 1) := by decide +kernel
theorem dX7_readsPin_208 : decode cX7_readsPin 208 = .ok (.iaload, 1) := by decide +kernel
theorem dX7_readsPin_209 : decode cX7_readsPin 209 = .ok (.iconst 1, 1) := by decide +kernel
theorem dX7_readsPin_210 : decode cX7_readsPin 210 = .ok (.iadd, 1) := by decide +kernel
theorem dX7_readsPin_211 : decode cX7_readsPin 211 = .ok (.iastore, 1) := by decide +kernel
theorem dX7_readsPin_212 : decode cX7_readsPin 212 = .ok (.return_, 1) := by decide +kernel
theorem dX7_must_0 : decode cX7_must 0 = .ok (.aload_n 0, 1) := by decide +kernel
theorem dX7_must_1 : decode cX7_must 1 = .ok (.invokevirtual 110, 3) := by decide +kernel
theorem dX7_must_4 : decode cX7_must 4 = .ok (.ifCond .eq 14, 3) := by decide +kernel
theorem dX7_must_7 : decode cX7_must 7 = .ok (.iload_n 1, 1) := by decide +kernel
theorem dX7_must_8 : decode cX7_must 8 = .ok (.ifCond .ne 10, 3) := by decide +kernel
theorem dX7_must_11 : decode cX7_must 11 = .ok (.aload_n 0, 1) := by decide +kernel
theorem dX7_must_12 : decode cX7_must 12 = .ok (.iconst 0, 1) := by decide +kernel
theorem dX7_must_13 : decode cX7_must 13 = .ok (.iconst 1, 1) := by decide +kernel
theorem dX7_must_14 : decode cX7_must 14 = .ok (.invokevirtual 120, 3) := by decide +kernel
theorem dX7_must_17 : decode cX7_must 17 = .ok (.pop, 1) := by decide +kernel
theorem dX7_must_18 : decode cX7_must 18 = .ok (.return_, 1) := by decide +kernel
theorem dX7_map_0 : decode cX7_map 0 = .ok (.iconst 0, 1) := by decide +kernel
theorem dX7_map_1 : decode cX7_map 1 = .ok (.istore_n 1, 1) := by decide +kernel
theorem dX7_map_2 : decode cX7_map 2 = .ok (.iload_n 1, 1) := by decide +kernel
theorem dX7_map_3 : decode cX7_map 3 = .ok (.bipush 64, 2) := by decide +kernel
theorem dX7_map_5 : decode cX7_map 5 = .ok (.if_icmp .ge 16, 3) := by decide +kernel
theorem dX7_map_8 : decode cX7_map 8 = .ok (.aload_n 0, 1) := by decide +kernel
theorem dX7_map_9 : decode cX7_map 9 = .ok (.getfield 28, 3) := by decide +kernel
theorem dX7_map_12 : decode cX7_map 12 = .ok (.iload_n 1, 1) := by decide +kernel
theorem dX7_map_13 : decode cX7_map 13 = .ok (.iconst 0, 1) := by decide +kernel
theorem dX7_map_14 : decode cX7_map 14 = .ok (.iastore, 1) := by decide +kernel
theorem dX7_map_15 : decode cX7_map 15 = .ok (.iinc 1 1, 3) := by decide +kernel
theorem dX7_map_18 : decode cX7_map 18 = .ok (.goto (-16), 3) := by decide +kernel
theorem dX7_map_21 : decode cX7_map 21 = .ok (.aload_n 0, 1) := by decide +kernel
theorem dX7_map_22 : decode cX7_map 22 = .ok (.iconst 0, 1) := by decide +kernel
theorem dX7_map_23 : decode cX7_map 23 = .ok (.putfield 92, 3) := by decide +kernel
theorem dX7_map_26 : decode cX7_map 26 = .ok (.aload_n 0, 1) := by decide +kernel
theorem dX7_map_27 : decode cX7_map 27 = .ok (.iconst (-1), 1) := by decide +kernel
theorem dX7_map_28 : decode cX7_map 28 = .ok (.putfield 107, 3) := by decide +kernel
theorem dX7_map_31 : decode cX7_map 31 = .ok (.aload_n 0, 1) := by decide +kernel
theorem dX7_map_32 : decode cX7_map 32 = .ok (.invokevirtual 117, 3) := by decide +kernel
theorem dX7_map_35 : decode cX7_map 35 = .ok (.aload_n 0, 1) := by decide +kernel
theorem dX7_map_36 : decode cX7_map 36 = .ok (.aload_n 0, 1) := by decide +kernel
theorem dX7_map_37 : decode cX7_map 37 = .ok (.getfield 104, 3) := by decide +kernel
theorem dX7_map_40 : decode cX7_map 40 = .ok (.iconst 1, 1) := by decide +kernel
theorem dX7_map_41 : decode cX7_map 41 = .ok (.if_icmp .ne 16, 3) := by decide +kernel
theorem dX7_map_44 : decode cX7_map 44 = .ok (.aload_n 0, 1) := by decide +kernel
theorem dX7_map_45 : decode cX7_map 45 = .ok (.getfield 101, 3) := by decide +kernel
theorem dX7_map_48 : decode cX7_map 48 = .ok (.bipush 109, 2) := by decide +kernel
theorem dX7_map_50 : decode cX7_map 50 = .ok (.if_icmp .ne 7, 3) := by decide +kernel
theorem dX7_map_53 : decode cX7_map 53 = .ok (.iconst 1, 1) := by decide +kernel
theorem dX7_map_54 : decode cX7_map 54 = .ok (.goto 4, 3) := by decide +kernel
theorem dX7_map_57 : decode cX7_map 57 = .ok (.iconst 0, 1) := by decide +kernel
theorem dX7_map_58 : decode cX7_map 58 = .ok (.iconst 1, 1) := by decide +kernel
theorem dX7_map_59 : decode cX7_map 59 = .ok (.invokevirtual 120, 3) := by decide +kernel
theorem dX7_map_62 : decode cX7_map 62 = .ok (.pop, 1) := by decide +kernel
theorem dX7_map_63 : decode cX7_map 63 = .ok (.aload_n 0, 1) := by decide +kernel
theorem dX7_map_64 : decode cX7_map 64 = .ok (.getfield 28, 3) := by decide +kernel
theorem dX7_map_67 : decode cX7_map 67 = .ok (.iconst 0, 1) := by decide +kernel
theorem dX7_map_68 : decode cX7_map 68 = .ok (.aload_n 0, 1) := by decide +kernel
theorem dX7_map_69 : decode cX7_map 69 = .ok (.iconst 0, 1) := by decide +kernel
theorem dX7_map_70 : decode cX7_map 70 = .ok (.bipush 15, 2) := by decide +kernel
theorem dX7_map_72 : decode cX7_map 72 = .ok (.invokevirtual 124, 3) := by decide +kernel
theorem dX7_map_75 : decode cX7_map 75 = .ok (.iastore, 1) := by decide +kernel
theorem dX7_map_76 : decode cX7_map 76 = .ok (.aload_n 0, 1) := by decide +kernel
theorem dX7_map_77 : decode cX7_map 77 = .ok (.aload_n 0, 1) := by decide +kernel
theorem dX7_map_78 : decode cX7_map 78 = .ok (.getfield 104, 3) := by decide +kernel
theorem dX7_map_81 : decode cX7_map 81 = .ok (.iconst 4, 1) := by decide +kernel
theorem dX7_map_82 : decode cX7_map 82 = .ok (.if_icmp .ne 7, 3) := by decide +kernel
theorem dX7_map_85 : decode cX7_map 85 = .ok (.iconst 1, 1) := by decide +kernel
theorem dX7_map_86 : decode cX7_map 86 = .ok (.goto 4, 3) := by decide +kernel
theorem dX7_map_89 : decode cX7_map 89 = .ok (.iconst 0, 1) := by decide +kernel
theorem dX7_map_90 : decode cX7_map 90 = .ok (.iconst 1, 1) := by decide +kernel
theorem dX7_map_91 : decode cX7_map 91 = .ok (.invokevirtual 120, 3) := by decide +kernel
theorem dX7_map_94 : decode cX7_map 94 = .ok (.pop, 1) := by decide +kernel
theorem dX7_map_95 : decode cX7_map 95 = .ok (.aload_n 0, 1) := by decide +kernel
theorem dX7_map_96 : decode cX7_map 96 = .ok (.invokevirtual 110, 3) := by decide +kernel
theorem dX7_map_99 : decode cX7_map 99 = .ok (.ifCond .eq 27, 3) := by decide +kernel
theorem dX7_map_102 : decode cX7_map 102 = .ok (.aload_n 0, 1) := by decide +kernel
theorem dX7_map_103 : decode cX7_map 103 = .ok (.getfield 104, 3) := by decide +kernel
theorem dX7_map_106 : decode cX7_map 106 = .ok (.iconst 1, 1) := by decide +kernel
theorem dX7_map_107 : decode cX7_map 107 = .ok (.if_icmp .ne 19, 3) := by decide +kernel
theorem dX7_map_110 : decode cX7_map 110 = .ok (.aload_n 0, 1) := by decide +kernel
theorem dX7_map_111 : decode cX7_map 111 = .ok (.getfield 101, 3) := by decide +kernel
theorem dX7_map_114 : decode cX7_map 114 = .ok (.bipush 99, 2) := by decide +kernel
theorem dX7_map_116 : decode cX7_map 116 = .ok (.if_icmp .ne 10, 3) := by decide +kernel
theorem dX7_map_119 : decode cX7_map 119 = .ok (.aload_n 0, 1) := by decide +kernel
theorem dX7_map_120 : decode cX7_map 120 = .ok (.invokevirtual 141, 3) := by decide +kernel
theorem dX7_map_123 : decode cX7_map 123 = .ok (.goto (-28), 3) := by decide +kernel
theorem dX7_map_126 : decode cX7_map 126 = .ok (.aload_n 0, 1) := by decide +kernel
theorem dX7_map_127 : decode cX7_map 127 = .ok (.aload_n 0, 1) := by decide +kernel
theorem dX7_map_128 : decode cX7_map 128 = .ok (.getfield 28, 3) := by decide +kernel
theorem dX7_map_131 : decode cX7_map 131 = .ok (.iconst 1, 1) := by decide +kernel
theorem dX7_map_132 : decode cX7_map 132 = .ok (.iaload, 1) := by decide +kernel
theorem dX7_map_133 : decode cX7_map 133 = .ok (.iconst 3, 1) := by decide +kernel
theorem dX7_map_134 : decode cX7_map 134 = .ok (.if_icmp .le 7, 3) := by decide +kernel
theorem dX7_map_137 : decode cX7_map 137 = .ok (.iconst 1, 1) := by decide +kernel
theorem dX7_map_138 : decode cX7_map 138 = .ok (.goto 4, 3) := by decide +kernel
theorem dX7_map_141 : decode cX7_map 141 = .ok (.iconst 0, 1) := by decide +kernel
theorem dX7_map_142 : decode cX7_map 142 = .ok (.invokevirtual 144, 3) := by decide +kernel
theorem dX7_map_145 : decode cX7_map 145 = .ok (.aload_n 0, 1) := by decide +kernel
theorem dX7_map_146 : decode cX7_map 146 = .ok (.invokevirtual 110, 3) := by decide +kernel
theorem dX7_map_149 : decode cX7_map 149 = .ok (.ifCond .eq 28, 3) := by decide +kernel
theorem dX7_map_152 : decode cX7_map 152 = .ok (.aload_n 0, 1) := by decide +kernel
theorem dX7_map_153 : decode cX7_map 153 = .ok (.getfield 104, 3) := by decide +kernel
theorem dX7_map_156 : decode cX7_map 156 = .ok (.iconst 1, 1) := by decide +kernel
theorem dX7_map_157 : decode cX7_map 157 = .ok (.if_icmp .ne 20, 3) := by decide +kernel
theorem dX7_map_160 : decode cX7_map 160 = .ok (.aload_n 0, 1) := by decide +kernel
theorem dX7_map_161 : decode cX7_map 161 = .ok (.getfield 101, 3) := by decide +kernel
theorem dX7_map_164 : decode cX7_map 164 = .ok (.invokestatic 127, 3) := by decide +kernel
theorem dX7_map_167 : decode cX7_map 167 = .ok (.ifCond .le 10, 3) := by decide +kernel
theorem dX7_map_170 : decode cX7_map 170 = .ok (.aload_n 0, 1) := by decide +kernel
theorem dX7_map_171 : decode cX7_map 171 = .ok (.invokevirtual 147, 3) := by decide +kernel
theorem dX7_map_174 : decode cX7_map 174 = .ok (.goto (-29), 3) := by decide +kernel
theorem dX7_map_177 : decode cX7_map 177 = .ok (.aload_n 0, 1) := by decide +kernel
theorem dX7_map_178 : decode cX7_map 178 = .ok (.aload_n 0, 1) := by decide +kernel
theorem dX7_map_179 : decode cX7_map 179 = .ok (.getfield 104, 3) := by decide +kernel
theorem dX7_map_182 : decode cX7_map 182 = .ok (.ifCond .ne 7, 3) := by decide +kernel
theorem dX7_map_185 : decode cX7_map 185 = .ok (.iconst 1, 1) := by decide +kernel
theorem dX7_map_186 : decode cX7_map 186 = .ok (.goto 4, 3) := by decide +kernel
theorem dX7_map_189 : decode cX7_map 189 = .ok (.iconst 0, 1) := by decide +kernel
theorem dX7_map_190 : decode cX7_map 190 = .ok (.invokevirtual 144, 3) := by decide +kernel
theorem dX7_map_193 : decode cX7_map 193 = .ok (.aload_n 0, 1) := by decide +kernel
theorem dX7_map_194 : decode cX7_map 194 = .ok (.iconst 0, 1) := by decide +kernel
theorem dX7_map_195 : decode cX7_map 195 = .ok (.putfield 88, 3) := by decide +kernel
theorem dX7_map_198 : decode cX7_map 198 = .ok (.aload_n 0, 1) := by decide +kernel
theorem dX7_map_199 : decode cX7_map 199 = .ok (.invokevirtual 110, 3) := by decide +kernel
theorem dX7_map_202 : decode cX7_map 202 = .ok (.ifCond .ne 11, 3) := by decide +kernel
theorem dX7_map_205 : decode cX7_map 205 = .ok (.ldc 150, 2) := by decide +kernel
theorem dX7_map_207 : decode cX7_map 207 = .ok (.aload_n 0, 1) := by decide +kernel
theorem dX7_map_208 : decode cX7_map 208 = .ok (.getfield 107, 3) := by decide +kernel
theorem dX7_map_211 : decode cX7_map 211 = .ok (.isub, 1) := by decide +kernel
theorem dX7_map_212 : decode cX7_map 212 = .ok (.ireturn, 1) := by decide +kernel
theorem dX7_map_213 : decode cX7_map 213 = .ok (.aload_n 0, 1) := by decide +kernel
theorem dX7_map_214 : decode cX7_map 214 = .ok (.getfield 28, 3) := by decide +kernel
theorem dX7_map_217 : decode cX7_map 217 = .ok (.iconst 4, 1) := by decide +kernel
theorem dX7_map_218 : decode cX7_map 218 = .ok (.iconst 1, 1) := by decide +kernel
theorem dX7_map_219 : decode cX7_map 219 = .ok (.iastore, 1) := by decide +kernel
theorem dX7_map_220 : decode cX7_map 220 = .ok (.aload_n 0, 1) := by decide +kernel
theorem dX7_map_221 : decode cX7_map 221 = .ok (.getfield 28, 3) := by decide +kernel
theorem dX7_map_224 : decode cX7_map 224 = .ok (.iconst 0, 1) := by decide +kernel
theorem dX7_map_225 : decode cX7_map 225 = .ok (.aload_n 0, 1) := by decide +kernel
theorem dX7_map_226 : decode cX7_map 226 = .ok (.getfield 25, 3) := by decide +kernel
theorem dX7_map_229 : decode cX7_map 229 = .ok (.iconst 0, 1) := by decide +kernel
theorem dX7_map_230 : decode cX7_map 230 = .ok (.invokestatic 151, 3) := by decide +kernel
theorem dX7_map_233 : decode cX7_map 233 = .ok (.aload_n 0, 1) := by decide +kernel
theorem dX7_map_234 : decode cX7_map 234 = .ok (.iconst 0, 1) := by decide +kernel
theorem dX7_map_235 : decode cX7_map 235 = .ok (.putfield 155, 3) := by decide +kernel
theorem dX7_map_238 : decode cX7_map 238 = .ok (.aload_n 0, 1) := by decide +kernel
theorem dX7_map_239 : decode cX7_map 239 = .ok (.getfield 25, 3) := by decide +kernel
theorem dX7_map_242 : decode cX7_map 242 = .ok (.iconst 2, 1) := by decide +kernel
theorem dX7_map_243 : decode cX7_map 243 = .ok (.iaload, 1) := by decide +kernel
theorem dX7_map_244 : decode cX7_map 244 = .ok (.ireturn, 1) := by decide +kernel
theorem dX7_fault_0 : decode cX7_fault 0 = .ok (.aload_n 0, 1) := by decide +kernel
theorem dX7_fault_1 : decode cX7_fault 1 = .ok (.getfield 114, 3) := by decide +kernel
theorem dX7_fault_4 : decode cX7_fault 4 = .ok (.ireturn, 1) := by decide +kernel
theorem dX7_isMap_0 : decode cX7_isMap 0 = .ok (.aload_n 0, 1) := by decide +kernel
theorem dX7_isMap_1 : decode cX7_isMap 1 = .ok (.getfield 25, 3) := by decide +kernel
theorem dX7_isMap_4 : decode cX7_isMap 4 = .ok (.iconst 1, 1) := by decide +kernel
theorem dX7_isMap_5 : decode cX7_isMap 5 = .ok (.iaload, 1) := by decide +kernel
theorem dX7_isMap_6 : decode cX7_isMap 6 = .ok (.ifCond .le 7, 3) := by decide +kernel
theorem dX7_isMap_9 : decode cX7_isMap 9 = .ok (.iconst 1, 1) := by decide +kernel
theorem dX7_isMap_10 : decode cX7_isMap 10 = .ok (.goto 4, 3) := by decide +kernel
theorem dX7_isMap_13 : decode cX7_isMap 13 = .ok (.iconst 0, 1) := by decide +kernel
theorem dX7_isMap_14 : decode cX7_isMap 14 = .ok (.ireturn, 1) := by decide +kernel
theorem dX7_isPin_0 : decode cX7_isPin 0 = .ok (.iload_n 1, 1) := by decide +kernel
theorem dX7_isPin_1 : decode cX7_isPin 1 = .ok (.iconst 0, 1) := by decide +kernel
theorem dX7_isPin_2 : decode cX7_isPin 2 = .ok (.aload_n 0, 1) := by decide +kernel
theorem dX7_isPin_3 : decode cX7_isPin 3 = .ok (.getfield 25, 3) := by decide +kernel
theorem dX7_isPin_6 : decode cX7_isPin 6 = .ok (.iconst 2, 1) := by decide +kernel
theorem dX7_isPin_7 : decode cX7_isPin 7 = .ok (.iaload, 1) := by decide +kernel
theorem dX7_isPin_8 : decode cX7_isPin 8 = .ok (.iconst 1, 1) := by decide +kernel
theorem dX7_isPin_9 : decode cX7_isPin 9 = .ok (.isub, 1) := by decide +kernel
theorem dX7_isPin_10 : decode cX7_isPin 10 = .ok (.invokestatic 62, 3) := by decide +kernel
theorem dX7_isPin_13 : decode cX7_isPin 13 = .ok (.ireturn, 1) := by decide +kernel
theorem dX7_isCell_0 : decode cX7_isCell 0 = .ok (.iload_n 1, 1) := by decide +kernel
theorem dX7_isCell_1 : decode cX7_isCell 1 = .ok (.iconst 0, 1) := by decide +kernel
theorem dX7_isCell_2 : decode cX7_isCell 2 = .ok (.aload_n 0, 1) := by decide +kernel
theorem dX7_isCell_3 : decode cX7_isCell 3 = .ok (.getfield 25, 3) := by decide +kernel
theorem dX7_isCell_6 : decode cX7_isCell 6 = .ok (.iconst 1, 1) := by decide +kernel
theorem dX7_isCell_7 : decode cX7_isCell 7 = .ok (.iaload, 1) := by decide +kernel
theorem dX7_isCell_8 : decode cX7_isCell 8 = .ok (.iconst 1, 1) := by decide +kernel
theorem dX7_isCell_9 : decode cX7_isCell 9 = .ok (.isub, 1) := by decide +kernel
theorem dX7_isCell_10 : decode cX7_isCell 10 = .ok (.invokestatic 62, 3) := by decide +kernel
theorem dX7_isCell_13 : decode cX7_isCell 13 = .ok (.ireturn, 1) := by decide +kernel
theorem dX7_inCell_0 : decode cX7_inCell 0 = .ok (.iconst 0, 1) := by decide +kernel
theorem dX7_inCell_1 : decode cX7_inCell 1 = .ok (.istore_n 2, 1) := by decide +kernel
theorem dX7_inCell_2 : decode cX7_inCell 2 = .ok (.iconst 0, 1) := by decide +kernel
theorem dX7_inCell_3 : decode cX7_inCell 3 = .ok (.istore_n 3, 1) := by decide +kernel
theorem dX7_inCell_4 : decode cX7_inCell 4 = .ok (.iload_n 3, 1) := by decide +kernel
theorem dX7_inCell_5 : decode cX7_inCell 5 = .ok (.aload_n 0, 1) := by decide +kernel
theorem dX7_inCell_6 : decode cX7_inCell 6 = .ok (.iconst 2, 1) := by decide +kernel
theorem dX7_inCell_7 : decode cX7_inCell 7 = .ok (.iaload, 1) := by decide +kernel
theorem dX7_inCell_8 : decode cX7_inCell 8 = .ok (.if_icmp .ge 34, 3) := by decide +kernel
theorem dX7_inCell_11 : decode cX7_inCell 11 = .ok (.iload_n 2, 1) := by decide +kernel
theorem dX7_inCell_12 : decode cX7_inCell 12 = .ok (.aload_n 0, 1) := by decide +kernel
theorem dX7_inCell_13 : decode cX7_inCell 13 = .ok (.bipush 22, 2) := by decide +kernel
theorem dX7_inCell_15 : decode cX7_inCell 15 = .ok (.bipush 6, 2) := by decide +kernel
theorem dX7_inCell_17 : decode cX7_inCell 17 = .ok (.iload_n 3, 1) := by decide +kernel
theorem dX7_inCell_18 : decode cX7_inCell 18 = .ok (.imul, 1) := by decide +kernel
theorem dX7_inCell_19 : decode cX7_inCell 19 = .ok (.iadd, 1) := by decide +kernel
theorem dX7_inCell_20 : decode cX7_inCell 20 = .ok (.iconst 4, 1) := by decide +kernel
theorem dX7_inCell_21 : decode cX7_inCell 21 = .ok (.iadd, 1) := by decide +kernel
theorem dX7_inCell_22 : decode cX7_inCell 22 = .ok (.iaload, 1) := by decide +kernel
theorem dX7_inCell_23 : decode cX7_inCell 23 = .ok (.iload_n 1, 1) := by decide +kernel
theorem dX7_inCell_24 : decode cX7_inCell 24 = .ok (.if_icmp .ne 9, 3) := by decide +kernel
theorem dX7_inCell_27 : decode cX7_inCell 27 = .ok (.iconst 1, 1) := by decide +kernel
theorem dX7_inCell_28 : decode cX7_inCell 28 = .ok (.iload_n 3, 1) := by decide +kernel
theorem dX7_inCell_29 : decode cX7_inCell 29 = .ok (.ishl, 1) := by decide +kernel
theorem dX7_inCell_30 : decode cX7_inCell 30 = .ok (.goto 4, 3) := by decide +kernel
theorem dX7_inCell_33 : decode cX7_inCell 33 = .ok (.iconst 0, 1) := by decide +kernel
theorem dX7_inCell_34 : decode cX7_inCell 34 = .ok (.ior, 1) := by decide +kernel
theorem dX7_inCell_35 : decode cX7_inCell 35 = .ok (.istore_n 2, 1) := by decide +kernel
theorem dX7_inCell_36 : decode cX7_inCell 36 = .ok (.iinc 3 1, 3) := by decide +kernel
theorem dX7_inCell_39 : decode cX7_inCell 39 = .ok (.goto (-35), 3) := by decide +kernel
theorem dX7_inCell_42 : decode cX7_inCell 42 = .ok (.iload_n 2, 1) := by decide +kernel
theorem dX7_inCell_43 : decode cX7_inCell 43 = .ok (.ireturn, 1) := by decide +kernel
theorem dX7_inTray_0 : decode cX7_inTray 0 = .ok (.aload_n 0, 1) := by decide +kernel
theorem dX7_inTray_1 : decode cX7_inTray 1 = .ok (.ldc 56, 2) := by decide +kernel
theorem dX7_inTray_3 : decode cX7_inTray 3 = .ok (.invokestatic 158, 3) := by decide +kernel
theorem dX7_inTray_6 : decode cX7_inTray 6 = .ok (.ireturn, 1) := by decide +kernel
theorem dX7_closes_0 : decode cX7_closes 0 = .ok (.iconst 0, 1) := by decide +kernel
theorem dX7_closes_1 : decode cX7_closes 1 = .ok (.istore_n 1, 1) := by decide +kernel
theorem dX7_closes_2 : decode cX7_closes 2 = .ok (.iload_n 1, 1) := by decide +kernel
theorem dX7_closes_3 : decode cX7_closes 3 = .ok (.aload_n 0, 1) := by decide +kernel
theorem dX7_closes_4 : decode cX7_closes 4 = .ok (.iconst 2, 1) := by decide +kernel
theorem dX7_closes_5 : decode cX7_closes 5 = .ok (.iaload, 1) := by decide +kernel
theorem dX7_closes_6 : decode cX7_closes 6 = .ok (.if_icmp .ge 49, 3) := by decide +kernel
theorem dX7_closes_9 : decode cX7_closes 9 = .ok (.aload_n 0, 1) := by decide +kernel
theorem dX7_closes_10 : decode cX7_closes 10 = .ok (.bipush 22, 2) := by decide +kernel
theorem dX7_closes_12 : decode cX7_closes 12 = .ok (.bipush 6, 2) := by decide +kernel
theorem dX7_closes_14 : decode cX7_closes 14 = .ok (.iload_n 1, 1) := by decide +kernel
theorem dX7_closes_15 : decode cX7_closes 15 = .ok (.imul, 1) := by decide +kernel
theorem dX7_closes_16 : decode cX7_closes 16 = .ok (.iadd, 1) := by decide +kernel
theorem dX7_closes_17 : decode cX7_closes 17 = .ok (.iconst 4, 1) := by decide +kernel
theorem dX7_closes_18 : decode cX7_closes 18 = .ok (.iadd, 1) := by decide +kernel
theorem dX7_closes_19 : decode cX7_closes 19 = .ok (.aload_n 0, 1) := by decide +kernel
theorem dX7_closes_20 : decode cX7_closes 20 = .ok (.bipush 22, 2) := by decide +kernel
theorem dX7_closes_22 : decode cX7_closes 22 = .ok (.bipush 6, 2) := by decide +kernel
theorem dX7_closes_24 : decode cX7_closes 24 = .ok (.iload_n 1, 1) := by decide +kernel
theorem dX7_closes_25 : decode cX7_closes 25 = .ok (.imul, 1) := by decide +kernel
theorem dX7_closes_26 : decode cX7_closes 26 = .ok (.iadd, 1) := by decide +kernel
theorem dX7_closes_27 : decode cX7_closes 27 = .ok (.iaload, 1) := by decide +kernel
theorem dX7_closes_28 : decode cX7_closes 28 = .ok (.iconst 5, 1) := by decide +kernel
theorem dX7_closes_29 : decode cX7_closes 29 = .ok (.if_icmp .ne 17, 3) := by decide +kernel
theorem dX7_closes_32 : decode cX7_closes 32 = .ok (.aload_n 0, 1) := by decide +kernel
theorem dX7_closes_33 : decode cX7_closes 33 = .ok (.bipush 22, 2) := by decide +kernel
theorem dX7_closes_35 : decode cX7_closes 35 = .ok (.bipush 6, 2) := by decide +kernel
theorem dX7_closes_37 : decode cX7_closes 37 = .ok (.iload_n 1, 1) := by decide +kernel
theorem dX7_closes_38 : decode cX7_closes 38 = .ok (.imul, 1) := by decide +kernel
theorem dX7_closes_39 : decode cX7_closes 39 = .ok (.iadd, 1) := by decide +kernel
theorem dX7_closes_40 : decode cX7_closes 40 = .ok (.iconst 4, 1) := by decide +kernel
theorem dX7_closes_41 : decode cX7_closes 41 = .ok (.iadd, 1) := by decide +kernel
theorem dX7_closes_42 : decode cX7_closes 42 = .ok (.iaload, 1) := by decide +kernel
theorem dX7_closes_43 : decode cX7_closes 43 = .ok (.goto 5, 3) := by decide +kernel
theorem dX7_closes_46 : decode cX7_closes 46 = .ok (.ldc 56, 2) := by decide +kernel
theorem dX7_closes_48 : decode cX7_closes 48 = .ok (.iastore, 1) := by decide +kernel
theorem dX7_closes_49 : decode cX7_closes 49 = .ok (.iinc 1 1, 3) := by decide +kernel
theorem dX7_closes_52 : decode cX7_closes 52 = .ok (.goto (-50), 3) := by decide +kernel
theorem dX7_closes_55 : decode cX7_closes 55 = .ok (.aload_n 0, 1) := by decide +kernel
theorem dX7_closes_56 : decode cX7_closes 56 = .ok (.iconst 4, 1) := by decide +kernel
theorem dX7_closes_57 : decode cX7_closes 57 = .ok (.iconst 0, 1) := by decide +kernel
theorem dX7_closes_58 : decode cX7_closes 58 = .ok (.iastore, 1) := by decide +kernel
theorem dX7_closes_59 : decode cX7_closes 59 = .ok (.return_, 1) := by decide +kernel
theorem dX7_mixedWith_0 : decode cX7_mixedWith 0 = .ok (.iload_n 1, 1) := by decide +kernel
theorem dX7_mixedWith_1 : decode cX7_mixedWith 1 = .ok (.iconst 1, 1) := by decide +kernel
theorem dX7_mixedWith_2 : decode cX7_mixedWith 2 = .ok (.iadd, 1) := by decide +kernel
theorem dX7_mixedWith_3 : decode cX7_mixedWith 3 = .ok (.istore_n 2, 1) := by decide +kernel
theorem dX7_mixedWith_4 : decode cX7_mixedWith 4 = .ok (.iload_n 2, 1) := by decide +kernel
theorem dX7_mixedWith_5 : decode cX7_mixedWith 5 = .ok (.aload_n 0, 1) := by decide +kernel
theorem dX7_mixedWith_6 : decode cX7_mixedWith 6 = .ok (.iconst 2, 1) := by decide +kernel
theorem dX7_mixedWith_7 : decode cX7_mixedWith 7 = .ok (.iaload, 1) := by decide +kernel
theorem dX7_mixedWith_8 : decode cX7_mixedWith 8 = .ok (.if_icmp .ge 49, 3) := by decide +kernel
theorem dX7_mixedWith_11 : decode cX7_mixedWith 11 = .ok (.aload_n 0, 1) := by decide +kernel
theorem dX7_mixedWith_12 : decode cX7_mixedWith 12 = .ok (.bipush 22, 2) := by decide +kernel
theorem dX7_mixedWith_14 : decode cX7_mixedWith 14 = .ok (.bipush 6, 2) := by decide +kernel
theorem dX7_mixedWith_16 : decode cX7_mixedWith 16 = .ok (.iload_n 2, 1) := by decide +kernel
theorem dX7_mixedWith_17 : decode cX7_mixedWith 17 = .ok (.imul, 1) := by decide +kernel
theorem dX7_mixedWith_18 : decode cX7_mixedWith 18 = .ok (.iadd, 1) := by decide +kernel
theorem dX7_mixedWith_19 : decode cX7_mixedWith 19 = .ok (.iaload, 1) := by decide +kernel
theorem dX7_mixedWith_20 : decode cX7_mixedWith 20 = .ok (.iconst 5, 1) := by decide +kernel
theorem dX7_mixedWith_21 : decode cX7_mixedWith 21 = .ok (.if_icmp .eq 30, 3) := by decide +kernel
theorem dX7_mixedWith_24 : decode cX7_mixedWith 24 = .ok (.aload_n 0, 1) := by decide +kernel
theorem dX7_mixedWith_25 : decode cX7_mixedWith 25 = .ok (.bipush 22, 2) := by decide +kernel
theorem dX7_mixedWith_27 : decode cX7_mixedWith 27 = .ok (.bipush 6, 2) := by decide +kernel
theorem dX7_mixedWith_29 : decode cX7_mixedWith 29 = .ok (.iload_n 2, 1) := by decide +kernel
theorem dX7_mixedWith_30 : decode cX7_mixedWith 30 = .ok (.imul, 1) := by decide +kernel
theorem dX7_mixedWith_31 : decode cX7_mixedWith 31 = .ok (.iadd, 1) := by decide +kernel
theorem dX7_mixedWith_32 : decode cX7_mixedWith 32 = .ok (.iconst 3, 1) := by decide +kernel
theorem dX7_mixedWith_33 : decode cX7_mixedWith 33 = .ok (.iadd, 1) := by decide +kernel
theorem dX7_mixedWith_34 : decode cX7_mixedWith 34 = .ok (.iaload, 1) := by decide +kernel
theorem dX7_mixedWith_35 : decode cX7_mixedWith 35 = .ok (.aload_n 0, 1) := by decide +kernel
theorem dX7_mixedWith_36 : decode cX7_mixedWith 36 = .ok (.bipush 22, 2) := by decide +kernel
theorem dX7_mixedWith_38 : decode cX7_mixedWith 38 = .ok (.bipush 6, 2) := by decide +kernel
theorem dX7_mixedWith_40 : decode cX7_mixedWith 40 = .ok (.iload_n 1, 1) := by decide +kernel
theorem dX7_mixedWith_41 : decode cX7_mixedWith 41 = .ok (.imul, 1) := by decide +kernel
theorem dX7_mixedWith_42 : decode cX7_mixedWith 42 = .ok (.iadd, 1) := by decide +kernel
theorem dX7_mixedWith_43 : decode cX7_mixedWith 43 = .ok (.iconst 3, 1) := by decide +kernel
theorem dX7_mixedWith_44 : decode cX7_mixedWith 44 = .ok (.iadd, 1) := by decide +kernel
theorem dX7_mixedWith_45 : decode cX7_mixedWith 45 = .ok (.iaload, 1) := by decide +kernel
theorem dX7_mixedWith_46 : decode cX7_mixedWith 46 = .ok (.if_icmp .ne 5, 3) := by decide +kernel
theorem dX7_mixedWith_49 : decode cX7_mixedWith 49 = .ok (.iload_n 2, 1) := by decide +kernel
theorem dX7_mixedWith_50 : decode cX7_mixedWith 50 = .ok (.ireturn, 1) := by decide +kernel
theorem dX7_mixedWith_51 : decode cX7_mixedWith 51 = .ok (.iinc 2 1, 3) := by decide +kernel
theorem dX7_mixedWith_54 : decode cX7_mixedWith 54 = .ok (.goto (-50), 3) := by decide +kernel
theorem dX7_mixedWith_57 : decode cX7_mixedWith 57 = .ok (.ldc 56, 2) := by decide +kernel
theorem dX7_mixedWith_59 : decode cX7_mixedWith 59 = .ok (.ireturn, 1) := by decide +kernel
theorem dX7_putsBack_0 : decode cX7_putsBack 0 = .ok (.bipush 22, 2) := by decide +kernel
theorem dX7_putsBack_2 : decode cX7_putsBack 2 = .ok (.bipush 6, 2) := by decide +kernel
theorem dX7_putsBack_4 : decode cX7_putsBack 4 = .ok (.iload_n 1, 1) := by decide +kernel
theorem dX7_putsBack_5 : decode cX7_putsBack 5 = .ok (.imul, 1) := by decide +kernel
theorem dX7_putsBack_6 : decode cX7_putsBack 6 = .ok (.iadd, 1) := by decide +kernel
theorem dX7_putsBack_7 : decode cX7_putsBack 7 = .ok (.istore_n 2, 1) := by decide +kernel
theorem dX7_putsBack_8 : decode cX7_putsBack 8 = .ok (.aload_n 0, 1) := by decide +kernel
theorem dX7_putsBack_9 : decode cX7_putsBack 9 = .ok (.iload_n 2, 1) := by decide +kernel
theorem dX7_putsBack_10 : decode cX7_putsBack 10 = .ok (.iaload, 1) := by decide +kernel
theorem dX7_putsBack_11 : decode cX7_putsBack 11 = .ok (.iconst 2, 1) := by decide +kernel
theorem dX7_putsBack_12 : decode cX7_putsBack 12 = .ok (.if_icmp .ne 11, 3) := by decide +kernel
theorem dX7_putsBack_15 : decode cX7_putsBack 15 = .ok (.aload_n 0, 1) := by decide +kernel
theorem dX7_putsBack_16 : decode cX7_putsBack 16 = .ok (.iload_n 1, 1) := by decide +kernel
theorem dX7_putsBack_17 : decode cX7_putsBack 17 = .ok (.invokestatic 161, 3) := by decide +kernel
theorem dX7_putsBack_20 : decode cX7_putsBack 20 = .ok (.goto 5, 3) := by decide +kernel
theorem dX7_putsBack_23 : decode cX7_putsBack 23 = .ok (.ldc 56, 2) := by decide +kernel
theorem dX7_putsBack_25 : decode cX7_putsBack 25 = .ok (.istore_n 3, 1) := by decide +kernel
theorem dX7_putsBack_26 : decode cX7_putsBack 26 = .ok (.iload_n 3, 1) := by decide +kernel
theorem dX7_putsBack_27 : decode cX7_putsBack 27 = .ok (.ldc 56, 2) := by decide +kernel
theorem dX7_putsBack_29 : decode cX7_putsBack 29 = .ok (.if_icmp .eq 39, 3) := by decide +kernel
theorem dX7_putsBack_32 : decode cX7_putsBack 32 = .ok (.aload_n 0, 1) := by decide +kernel
theorem dX7_putsBack_33 : decode cX7_putsBack 33 = .ok (.iload_n 2, 1) := by decide +kernel
theorem dX7_putsBack_34 : decode cX7_putsBack 34 = .ok (.iconst 5, 1) := by decide +kernel
theorem dX7_putsBack_35 : decode cX7_putsBack 35 = .ok (.iadd, 1) := by decide +kernel
theorem dX7_putsBack_36 : decode cX7_putsBack 36 = .ok (.iaload, 1) := by decide +kernel
theorem dX7_putsBack_37 : decode cX7_putsBack 37 = .ok (.istore 4, 2) := by decide +kernel
theorem dX7_putsBack_39 : decode cX7_putsBack 39 = .ok (.aload_n 0, 1) := by decide +kernel
theorem dX7_putsBack_40 : decode cX7_putsBack 40 = .ok (.iload_n 2, 1) := by decide +kernel
theorem dX7_putsBack_41 : decode cX7_putsBack 41 = .ok (.iconst 5, 1) := by decide +kernel
theorem dX7_putsBack_42 : decode cX7_putsBack 42 = .ok (.iadd, 1) := by decide +kernel
theorem dX7_putsBack_43 : decode cX7_putsBack 43 = .ok (.aload_n 0, 1) := by decide +kernel
theorem dX7_putsBack_44 : decode cX7_putsBack 44 = .ok (.bipush 22, 2) := by decide +kernel
theorem dX7_putsBack_46 : decode cX7_putsBack 46 = .ok (.bipush 6, 2) := by decide +kernel
theorem dX7_putsBack_48 : decode cX7_putsBack 48 = .ok (.iload_n 3, 1) := by decide +kernel
theorem dX7_putsBack_49 : decode cX7_putsBack 49 = .ok (.imul, 1) := by decide +kernel
theorem dX7_putsBack_50 : decode cX7_putsBack 50 = .ok (.iadd, 1) := by decide +kernel
theorem dX7_putsBack_51 : decode cX7_putsBack 51 = .ok (.iconst 5, 1) := by decide +kernel
theorem dX7_putsBack_52 : decode cX7_putsBack 52 = .ok (.iadd, 1) := by decide +kernel
theorem dX7_putsBack_53 : decode cX7_putsBack 53 = .ok (.iaload, 1) := by decide +kernel
theorem dX7_putsBack_54 : decode cX7_putsBack 54 = .ok (.iastore, 1) := by decide +kernel
theorem dX7_putsBack_55 : decode cX7_putsBack 55 = .ok (.aload_n 0, 1) := by decide +kernel
theorem dX7_putsBack_56 : decode cX7_putsBack 56 = .ok (.bipush 22, 2) := by decide +kernel
theorem dX7_putsBack_58 : decode cX7_putsBack 58 = .ok (.bipush 6, 2) := by decide +kernel
theorem dX7_putsBack_60 : decode cX7_putsBack 60 = .ok (.iload_n 3, 1) := by decide +kernel
theorem dX7_putsBack_61 : decode cX7_putsBack 61 = .ok (.imul, 1) := by decide +kernel
theorem dX7_putsBack_62 : decode cX7_putsBack 62 = .ok (.iadd, 1) := by decide +kernel
theorem dX7_putsBack_63 : decode cX7_putsBack 63 = .ok (.iconst 5, 1) := by decide +kernel
theorem dX7_putsBack_64 : decode cX7_putsBack 64 = .ok (.iadd, 1) := by decide +kernel
theorem dX7_putsBack_65 : decode cX7_putsBack 65 = .ok (.iload 4, 2) := by decide +kernel
theorem dX7_putsBack_67 : decode cX7_putsBack 67 = .ok (.iastore, 1) := by decide +kernel
theorem dX7_putsBack_68 : decode cX7_putsBack 68 = .ok (.aload_n 0, 1) := by decide +kernel
theorem dX7_putsBack_69 : decode cX7_putsBack 69 = .ok (.iload_n 2, 1) := by decide +kernel
theorem dX7_putsBack_70 : decode cX7_putsBack 70 = .ok (.iaload, 1) := by decide +kernel
theorem dX7_putsBack_71 : decode cX7_putsBack 71 = .ok (.iconst 5, 1) := by decide +kernel
theorem dX7_putsBack_72 : decode cX7_putsBack 72 = .ok (.if_icmp .eq 61, 3) := by decide +kernel
theorem dX7_putsBack_75 : decode cX7_putsBack 75 = .ok (.aload_n 0, 1) := by decide +kernel
theorem dX7_putsBack_76 : decode cX7_putsBack 76 = .ok (.iload_n 2, 1) := by decide +kernel
theorem dX7_putsBack_77 : decode cX7_putsBack 77 = .ok (.iconst 4, 1) := by decide +kernel
theorem dX7_putsBack_78 : decode cX7_putsBack 78 = .ok (.iadd, 1) := by decide +kernel
theorem dX7_putsBack_79 : decode cX7_putsBack 79 = .ok (.aload_n 0, 1) := by decide +kernel
theorem dX7_putsBack_80 : decode cX7_putsBack 80 = .ok (.iload_n 2, 1) := by decide +kernel
theorem dX7_putsBack_81 : decode cX7_putsBack 81 = .ok (.iaload, 1) := by decide +kernel
theorem dX7_putsBack_82 : decode cX7_putsBack 82 = .ok (.iconst 3, 1) := by decide +kernel
theorem dX7_putsBack_83 : decode cX7_putsBack 83 = .ok (.if_icmp .ne 19, 3) := by decide +kernel
theorem dX7_putsBack_86 : decode cX7_putsBack 86 = .ok (.aload_n 0, 1) := by decide +kernel
theorem dX7_putsBack_87 : decode cX7_putsBack 87 = .ok (.iload_n 2, 1) := by decide +kernel
theorem dX7_putsBack_88 : decode cX7_putsBack 88 = .ok (.iconst 5, 1) := by decide +kernel
theorem dX7_putsBack_89 : decode cX7_putsBack 89 = .ok (.iadd, 1) := by decide +kernel
theorem dX7_putsBack_90 : decode cX7_putsBack 90 = .ok (.iaload, 1) := by decide +kernel
theorem dX7_putsBack_91 : decode cX7_putsBack 91 = .ok (.aload_n 0, 1) := by decide +kernel
theorem dX7_putsBack_92 : decode cX7_putsBack 92 = .ok (.iconst 0, 1) := by decide +kernel
theorem dX7_putsBack_93 : decode cX7_putsBack 93 = .ok (.iaload, 1) := by decide +kernel
theorem dX7_putsBack_94 : decode cX7_putsBack 94 = .ok (.iadd, 1) := by decide +kernel
theorem dX7_putsBack_95 : decode cX7_putsBack 95 = .ok (.aload_n 0, 1) := by decide +kernel
theorem dX7_putsBack_96 : decode cX7_putsBack 96 = .ok (.iconst 1, 1) := by decide +kernel
theorem dX7_putsBack_97 : decode cX7_putsBack 97 = .ok (.iaload, 1) := by decide +kernel
theorem dX7_putsBack_98 : decode cX7_putsBack 98 = .ok (.irem, 1) := by decide +kernel
theorem dX7_putsBack_99 : decode cX7_putsBack 99 = .ok (.goto 23, 3) := by decide +kernel
theorem dX7_putsBack_102 : decode cX7_putsBack 102 = .ok (.aload_n 0, 1) := by decide +kernel
theorem dX7_putsBack_103 : decode cX7_putsBack 103 = .ok (.iload_n 2, 1) := by decide +kernel
theorem dX7_putsBack_104 : decode cX7_putsBack 104 = .ok (.iaload, 1) := by decide +kernel
theorem dX7_putsBack_105 : decode cX7_putsBack 105 = .ok (.iconst 4, 1) := by decide +kernel
theorem dX7_putsBack_106 : decode cX7_putsBack 106 = .ok (.if_icmp .ne 11, 3) := by decide +kernel
theorem dX7_putsBack_109 : decode cX7_putsBack 109 = .ok (.aload_n 0, 1) := by decide +kernel
theorem dX7_putsBack_110 : decode cX7_putsBack 110 = .ok (.iload_n 2, 1) := by decide +kernel
theorem dX7_putsBack_111 : decode cX7_putsBack 111 = .ok (.iconst 1, 1) := by decide +kernel
theorem dX7_putsBack_112 : decode cX7_putsBack 112 = .ok (.iadd, 1) := by decide +kernel
theorem dX7_putsBack_113 : decode cX7_putsBack 113 = .ok (.iaload, 1) := by decide +kernel
theorem dX7_putsBack_114 : decode cX7_putsBack 114 = .ok (.goto 8, 3) := by decide +kernel
theorem dX7_putsBack_117 : decode cX7_putsBack 117 = .ok (.aload_n 0, 1) := by decide +kernel
theorem dX7_putsBack_118 : decode cX7_putsBack 118 = .ok (.iload_n 2, 1) := by decide +kernel
theorem dX7_putsBack_119 : decode cX7_putsBack 119 = .ok (.iconst 5, 1) := by decide +kernel
theorem dX7_putsBack_120 : decode cX7_putsBack 120 = .ok (.iadd, 1) := by decide +kernel
theorem dX7_putsBack_121 : decode cX7_putsBack 121 = .ok (.iaload, 1) := by decide +kernel
theorem dX7_putsBack_122 : decode cX7_putsBack 122 = .ok (.iastore, 1) := by decide +kernel
theorem dX7_putsBack_123 : decode cX7_putsBack 123 = .ok (.aload_n 0, 1) := by decide +kernel
theorem dX7_putsBack_124 : decode cX7_putsBack 124 = .ok (.iload_n 2, 1) := by decide +kernel
theorem dX7_putsBack_125 : decode cX7_putsBack 125 = .ok (.iconst 5, 1) := by decide +kernel
theorem dX7_putsBack_126 : decode cX7_putsBack 126 = .ok (.iadd, 1) := by decide +kernel
theorem dX7_putsBack_127 : decode cX7_putsBack 127 = .ok (.aload_n 0, 1) := by decide +kernel
theorem dX7_putsBack_128 : decode cX7_putsBack 128 = .ok (.iload_n 2, 1) := by decide +kernel
theorem dX7_putsBack_129 : decode cX7_putsBack 129 = .ok (.iconst 4, 1) := by decide +kernel
theorem dX7_putsBack_130 : decode cX7_putsBack 130 = .ok (.iadd, 1) := by decide +kernel
theorem dX7_putsBack_131 : decode cX7_putsBack 131 = .ok (.iaload, 1) := by decide +kernel
theorem dX7_putsBack_132 : decode cX7_putsBack 132 = .ok (.iastore, 1) := by decide +kernel
theorem dX7_putsBack_133 : decode cX7_putsBack 133 = .ok (.return_, 1) := by decide +kernel
theorem dX7_opens_0 : decode cX7_opens 0 = .ok (.iconst 0, 1) := by decide +kernel
theorem dX7_opens_1 : decode cX7_opens 1 = .ok (.istore_n 2, 1) := by decide +kernel
theorem dX7_opens_2 : decode cX7_opens 2 = .ok (.iload_n 2, 1) := by decide +kernel
theorem dX7_opens_3 : decode cX7_opens 3 = .ok (.aload_n 0, 1) := by decide +kernel
theorem dX7_opens_4 : decode cX7_opens 4 = .ok (.iconst 2, 1) := by decide +kernel
theorem dX7_opens_5 : decode cX7_opens 5 = .ok (.iaload, 1) := by decide +kernel
theorem dX7_opens_6 : decode cX7_opens 6 = .ok (.if_icmp .ge 22, 3) := by decide +kernel
theorem dX7_opens_9 : decode cX7_opens 9 = .ok (.iload_n 1, 1) := by decide +kernel
theorem dX7_opens_10 : decode cX7_opens 10 = .ok (.iload_n 2, 1) := by decide +kernel
theorem dX7_opens_11 : decode cX7_opens 11 = .ok (.invokestatic 164, 3) := by decide +kernel
theorem dX7_opens_14 : decode cX7_opens 14 = .ok (.ifCond .ne 8, 3) := by decide +kernel
theorem dX7_opens_17 : decode cX7_opens 17 = .ok (.aload_n 0, 1) := by decide +kernel
theorem dX7_opens_18 : decode cX7_opens 18 = .ok (.iload_n 2, 1) := by decide +kernel
theorem dX7_opens_19 : decode cX7_opens 19 = .ok (.invokestatic 168, 3) := by decide +kernel
theorem dX7_opens_22 : decode cX7_opens 22 = .ok (.iinc 2 1, 3) := by decide +kernel
theorem dX7_opens_25 : decode cX7_opens 25 = .ok (.goto (-23), 3) := by decide +kernel
theorem dX7_opens_28 : decode cX7_opens 28 = .ok (.aload_n 0, 1) := by decide +kernel
theorem dX7_opens_29 : decode cX7_opens 29 = .ok (.iconst 4, 1) := by decide +kernel
theorem dX7_opens_30 : decode cX7_opens 30 = .ok (.iconst 1, 1) := by decide +kernel
theorem dX7_opens_31 : decode cX7_opens 31 = .ok (.iastore, 1) := by decide +kernel
theorem dX7_opens_32 : decode cX7_opens 32 = .ok (.iconst 0, 1) := by decide +kernel
theorem dX7_opens_33 : decode cX7_opens 33 = .ok (.istore_n 2, 1) := by decide +kernel
theorem dX7_opens_34 : decode cX7_opens 34 = .ok (.iload_n 2, 1) := by decide +kernel
theorem dX7_opens_35 : decode cX7_opens 35 = .ok (.aload_n 0, 1) := by decide +kernel
theorem dX7_opens_36 : decode cX7_opens 36 = .ok (.iconst 2, 1) := by decide +kernel
theorem dX7_opens_37 : decode cX7_opens 37 = .ok (.iaload, 1) := by decide +kernel
theorem dX7_opens_38 : decode cX7_opens 38 = .ok (.if_icmp .ge 62, 3) := by decide +kernel
theorem dX7_opens_41 : decode cX7_opens 41 = .ok (.bipush 22, 2) := by decide +kernel
theorem dX7_opens_43 : decode cX7_opens 43 = .ok (.bipush 6, 2) := by decide +kernel
theorem dX7_opens_45 : decode cX7_opens 45 = .ok (.iload_n 2, 1) := by decide +kernel
theorem dX7_opens_46 : decode cX7_opens 46 = .ok (.imul, 1) := by decide +kernel
theorem dX7_opens_47 : decode cX7_opens 47 = .ok (.iadd, 1) := by decide +kernel
theorem dX7_opens_48 : decode cX7_opens 48 = .ok (.istore_n 3, 1) := by decide +kernel
theorem dX7_opens_49 : decode cX7_opens 49 = .ok (.aload_n 0, 1) := by decide +kernel
theorem dX7_opens_50 : decode cX7_opens 50 = .ok (.iload_n 3, 1) := by decide +kernel
theorem dX7_opens_51 : decode cX7_opens 51 = .ok (.iconst 4, 1) := by decide +kernel
theorem dX7_opens_52 : decode cX7_opens 52 = .ok (.iadd, 1) := by decide +kernel
theorem dX7_opens_53 : decode cX7_opens 53 = .ok (.iaload, 1) := by decide +kernel
theorem dX7_opens_54 : decode cX7_opens 54 = .ok (.ldc 56, 2) := by decide +kernel
theorem dX7_opens_56 : decode cX7_opens 56 = .ok (.if_icmp .eq 38, 3) := by decide +kernel
theorem dX7_opens_59 : decode cX7_opens 59 = .ok (.aload_n 0, 1) := by decide +kernel
theorem dX7_opens_60 : decode cX7_opens 60 = .ok (.iconst 5, 1) := by decide +kernel
theorem dX7_opens_61 : decode cX7_opens 61 = .ok (.dup2, 1) := by decide +kernel
theorem dX7_opens_62 : decode cX7_opens 62 = .ok (.iaload, 1) := by decide +kernel
theorem dX7_opens_63 : decode cX7_opens 63 = .ok (.aload_n 0, 1) := by decide +kernel
theorem dX7_opens_64 : decode cX7_opens 64 = .ok (.iload_n 3, 1) := by decide +kernel
theorem dX7_opens_65 : decode cX7_opens 65 = .ok (.iconst 2, 1) := by decide +kernel
theorem dX7_opens_66 : decode cX7_opens 66 = .ok (.iadd, 1) := by decide +kernel
theorem dX7_opens_67 : decode cX7_opens 67 = .ok (.iaload, 1) := by decide +kernel
theorem dX7_opens_68 : decode cX7_opens 68 = .ok (.aload_n 0, 1) := by decide +kernel
theorem dX7_opens_69 : decode cX7_opens 69 = .ok (.bipush 6, 2) := by decide +kernel
theorem dX7_opens_71 : decode cX7_opens 71 = .ok (.aload_n 0, 1) := by decide +kernel
theorem dX7_opens_72 : decode cX7_opens 72 = .ok (.iload_n 3, 1) := by decide +kernel
theorem dX7_opens_73 : decode cX7_opens 73 = .ok (.iconst 4, 1) := by decide +kernel
theorem dX7_opens_74 : decode cX7_opens 74 = .ok (.iadd, 1) := by decide +kernel
theorem dX7_opens_75 : decode cX7_opens 75 = .ok (.iaload, 1) := by decide +kernel
theorem dX7_opens_76 : decode cX7_opens 76 = .ok (.iadd, 1) := by decide +kernel
theorem dX7_opens_77 : decode cX7_opens 77 = .ok (.iaload, 1) := by decide +kernel
theorem dX7_opens_78 : decode cX7_opens 78 = .ok (.imul, 1) := by decide +kernel
theorem dX7_opens_79 : decode cX7_opens 79 = .ok (.aload_n 0, 1) := by decide +kernel
theorem dX7_opens_80 : decode cX7_opens 80 = .ok (.aload_n 0, 1) := by decide +kernel
theorem dX7_opens_81 : decode cX7_opens 81 = .ok (.iload_n 3, 1) := by decide +kernel
theorem dX7_opens_82 : decode cX7_opens 82 = .ok (.iconst 4, 1) := by decide +kernel
theorem dX7_opens_83 : decode cX7_opens 83 = .ok (.iadd, 1) := by decide +kernel
theorem dX7_opens_84 : decode cX7_opens 84 = .ok (.iaload, 1) := by decide +kernel
theorem dX7_opens_85 : decode cX7_opens 85 = .ok (.invokestatic 158, 3) := by decide +kernel
theorem dX7_opens_88 : decode cX7_opens 88 = .ok (.invokestatic 172, 3) := by decide +kernel
theorem dX7_opens_91 : decode cX7_opens 91 = .ok (.idiv, 1) := by decide +kernel
theorem dX7_opens_92 : decode cX7_opens 92 = .ok (.iadd, 1) := by decide +kernel
theorem dX7_opens_93 : decode cX7_opens 93 = .ok (.iastore, 1) := by decide +kernel
theorem dX7_opens_94 : decode cX7_opens 94 = .ok (.iinc 2 1, 3) := by decide +kernel
theorem dX7_opens_97 : decode cX7_opens 97 = .ok (.goto (-63), 3) := by decide +kernel
theorem dX7_opens_100 : decode cX7_opens 100 = .ok (.aload_n 0, 1) := by decide +kernel
theorem dX7_opens_101 : decode cX7_opens 101 = .ok (.iconst 5, 1) := by decide +kernel
theorem dX7_opens_102 : decode cX7_opens 102 = .ok (.aload_n 0, 1) := by decide +kernel
theorem dX7_opens_103 : decode cX7_opens 103 = .ok (.iconst 5, 1) := by decide +kernel
theorem dX7_opens_104 : decode cX7_opens 104 = .ok (.iaload, 1) := by decide +kernel
theorem dX7_opens_105 : decode cX7_opens 105 = .ok (.ldc 175, 2) := by decide +kernel
theorem dX7_opens_107 : decode cX7_opens 107 = .ok (.if_icmp .le 8, 3) := by decide +kernel
theorem dX7_opens_110 : decode cX7_opens 110 = .ok (.ldc 175, 2) := by decide +kernel
theorem dX7_opens_112 : decode cX7_opens 112 = .ok (.goto 6, 3) := by decide +kernel
theorem dX7_opens_115 : decode cX7_opens 115 = .ok (.aload_n 0, 1) := by decide +kernel
theorem dX7_opens_116 : decode cX7_opens 116 = .ok (.iconst 5, 1) := by decide +kernel
theorem dX7_opens_117 : decode cX7_opens 117 = .ok (.iaload, 1) := by decide +kernel
theorem dX7_opens_118 : decode cX7_opens 118 = .ok (.iastore, 1) := by decide +kernel
theorem dX7_opens_119 : decode cX7_opens 119 = .ok (.return_, 1) := by decide +kernel
theorem dX7_passes_0 : decode cX7_passes 0 = .ok (.aload_n 0, 1) := by decide +kernel
theorem dX7_passes_1 : decode cX7_passes 1 = .ok (.iconst 4, 1) := by decide +kernel
theorem dX7_passes_2 : decode cX7_passes 2 = .ok (.iaload, 1) := by decide +kernel
theorem dX7_passes_3 : decode cX7_passes 3 = .ok (.iconst 1, 1) := by decide +kernel
theorem dX7_passes_4 : decode cX7_passes 4 = .ok (.if_icmp .ne 10, 3) := by decide +kernel
theorem dX7_passes_7 : decode cX7_passes 7 = .ok (.aload_n 0, 1) := by decide +kernel
theorem dX7_passes_8 : decode cX7_passes 8 = .ok (.invokestatic 176, 3) := by decide +kernel
theorem dX7_passes_11 : decode cX7_passes 11 = .ok (.goto 8, 3) := by decide +kernel
theorem dX7_passes_14 : decode cX7_passes 14 = .ok (.aload_n 0, 1) := by decide +kernel
theorem dX7_passes_15 : decode cX7_passes 15 = .ok (.iconst 0, 1) := by decide +kernel
theorem dX7_passes_16 : decode cX7_passes 16 = .ok (.invokestatic 180, 3) := by decide +kernel
theorem dX7_passes_19 : decode cX7_passes 19 = .ok (.aload_n 0, 1) := by decide +kernel
theorem dX7_passes_20 : decode cX7_passes 20 = .ok (.iconst 3, 1) := by decide +kernel
theorem dX7_passes_21 : decode cX7_passes 21 = .ok (.dup2, 1) := by decide +kernel
theorem dX7_passes_22 : decode cX7_passes 22 = .ok (.iaload, 1) := by decide +kernel
theorem dX7_passes_23 : decode cX7_passes 23 = .ok (.iconst 1, 1) := by decide +kernel
theorem dX7_passes_24 : decode cX7_passes 24 = .ok (.iadd, 1) := by decide +kernel
theorem dX7_passes_25 : decode cX7_passes 25 = .ok (.iastore, 1) := by decide +kernel
theorem dX7_passes_26 : decode cX7_passes 26 = .ok (.return_, 1) := by decide +kernel
theorem dX7_lays_0 : decode cX7_lays 0 = .ok (.aload_n 0, 1) := by decide +kernel
theorem dX7_lays_1 : decode cX7_lays 1 = .ok (.bipush 22, 2) := by decide +kernel
theorem dX7_lays_3 : decode cX7_lays 3 = .ok (.bipush 6, 2) := by decide +kernel
theorem dX7_lays_5 : decode cX7_lays 5 = .ok (.iload_n 1, 1) := by decide +kernel
theorem dX7_lays_6 : decode cX7_lays 6 = .ok (.imul, 1) := by decide +kernel
theorem dX7_lays_7 : decode cX7_lays 7 = .ok (.iadd, 1) := by decide +kernel
theorem dX7_lays_8 : decode cX7_lays 8 = .ok (.iconst 4, 1) := by decide +kernel
theorem dX7_lays_9 : decode cX7_lays 9 = .ok (.iadd, 1) := by decide +kernel
theorem dX7_lays_10 : decode cX7_lays 10 = .ok (.iload_n 2, 1) := by decide +kernel
theorem dX7_lays_11 : decode cX7_lays 11 = .ok (.iastore, 1) := by decide +kernel
theorem dX7_lays_12 : decode cX7_lays 12 = .ok (.aload_n 0, 1) := by decide +kernel
theorem dX7_lays_13 : decode cX7_lays 13 = .ok (.bipush 22, 2) := by decide +kernel
theorem dX7_lays_15 : decode cX7_lays 15 = .ok (.bipush 6, 2) := by decide +kernel
theorem dX7_lays_17 : decode cX7_lays 17 = .ok (.iload_n 1, 1) := by decide +kernel
theorem dX7_lays_18 : decode cX7_lays 18 = .ok (.imul, 1) := by decide +kernel
theorem dX7_lays_19 : decode cX7_lays 19 = .ok (.iadd, 1) := by decide +kernel
theorem dX7_lays_20 : decode cX7_lays 20 = .ok (.iconst 5, 1) := by decide +kernel
theorem dX7_lays_21 : decode cX7_lays 21 = .ok (.iadd, 1) := by decide +kernel
theorem dX7_lays_22 : decode cX7_lays 22 = .ok (.iload_n 2, 1) := by decide +kernel
theorem dX7_lays_23 : decode cX7_lays 23 = .ok (.iastore, 1) := by decide +kernel
theorem dX7_lays_24 : decode cX7_lays 24 = .ok (.return_, 1) := by decide +kernel
theorem dX7_rights_0 : decode cX7_rights 0 = .ok (.iconst 0, 1) := by decide +kernel
theorem dX7_rights_1 : decode cX7_rights 1 = .ok (.istore_n 1, 1) := by decide +kernel
theorem dX7_rights_2 : decode cX7_rights 2 = .ok (.iconst 0, 1) := by decide +kernel
theorem dX7_rights_3 : decode cX7_rights 3 = .ok (.istore_n 2, 1) := by decide +kernel
theorem dX7_rights_4 : decode cX7_rights 4 = .ok (.iload_n 2, 1) := by decide +kernel
theorem dX7_rights_5 : decode cX7_rights 5 = .ok (.aload_n 0, 1) := by decide +kernel
theorem dX7_rights_6 : decode cX7_rights 6 = .ok (.iconst 2, 1) := by decide +kernel
theorem dX7_rights_7 : decode cX7_rights 7 = .ok (.iaload, 1) := by decide +kernel
theorem dX7_rights_8 : decode cX7_rights 8 = .ok (.if_icmp .ge 44, 3) := by decide +kernel
theorem dX7_rights_11 : decode cX7_rights 11 = .ok (.iload_n 1, 1) := by decide +kernel
theorem dX7_rights_12 : decode cX7_rights 12 = .ok (.aload_n 0, 1) := by decide +kernel
theorem dX7_rights_13 : decode cX7_rights 13 = .ok (.bipush 22, 2) := by decide +kernel
theorem dX7_rights_15 : decode cX7_rights 15 = .ok (.bipush 6, 2) := by decide +kernel
theorem dX7_rights_17 : decode cX7_rights 17 = .ok (.iload_n 2, 1) := by decide +kernel
theorem dX7_rights_18 : decode cX7_rights 18 = .ok (.imul, 1) := by decide +kernel
theorem dX7_rights_19 : decode cX7_rights 19 = .ok (.iadd, 1) := by decide +kernel
theorem dX7_rights_20 : decode cX7_rights 20 = .ok (.iconst 4, 1) := by decide +kernel
theorem dX7_rights_21 : decode cX7_rights 21 = .ok (.iadd, 1) := by decide +kernel
theorem dX7_rights_22 : decode cX7_rights 22 = .ok (.iaload, 1) := by decide +kernel
theorem dX7_rights_23 : decode cX7_rights 23 = .ok (.aload_n 0, 1) := by decide +kernel
theorem dX7_rights_24 : decode cX7_rights 24 = .ok (.bipush 22, 2) := by decide +kernel
theorem dX7_rights_26 : decode cX7_rights 26 = .ok (.bipush 6, 2) := by decide +kernel
theorem dX7_rights_28 : decode cX7_rights 28 = .ok (.iload_n 2, 1) := by decide +kernel
theorem dX7_rights_29 : decode cX7_rights 29 = .ok (.imul, 1) := by decide +kernel
theorem dX7_rights_30 : decode cX7_rights 30 = .ok (.iadd, 1) := by decide +kernel
theorem dX7_rights_31 : decode cX7_rights 31 = .ok (.iconst 1, 1) := by decide +kernel
theorem dX7_rights_32 : decode cX7_rights 32 = .ok (.iadd, 1) := by decide +kernel
theorem dX7_rights_33 : decode cX7_rights 33 = .ok (.iaload, 1) := by decide +kernel
theorem dX7_rights_34 : decode cX7_rights 34 = .ok (.if_icmp .ne 9, 3) := by decide +kernel
theorem dX7_rights_37 : decode cX7_rights 37 = .ok (.iconst 1, 1) := by decide +kernel
theorem dX7_rights_38 : decode cX7_rights 38 = .ok (.iload_n 2, 1) := by decide +kernel
theorem dX7_rights_39 : decode cX7_rights 39 = .ok (.ishl, 1) := by decide +kernel
theorem dX7_rights_40 : decode cX7_rights 40 = .ok (.goto 4, 3) := by decide +kernel
theorem dX7_rights_43 : decode cX7_rights 43 = .ok (.iconst 0, 1) := by decide +kernel
theorem dX7_rights_44 : decode cX7_rights 44 = .ok (.ior, 1) := by decide +kernel
theorem dX7_rights_45 : decode cX7_rights 45 = .ok (.istore_n 1, 1) := by decide +kernel
theorem dX7_rights_46 : decode cX7_rights 46 = .ok (.iinc 2 1, 3) := by decide +kernel
theorem dX7_rights_49 : decode cX7_rights 49 = .ok (.goto (-45), 3) := by decide +kernel
theorem dX7_rights_52 : decode cX7_rights 52 = .ok (.iload_n 1, 1) := by decide +kernel
theorem dX7_rights_53 : decode cX7_rights 53 = .ok (.ireturn, 1) := by decide +kernel
theorem dX7_notes_0 : decode cX7_notes 0 = .ok (.aload_n 0, 1) := by decide +kernel
theorem dX7_notes_1 : decode cX7_notes 1 = .ok (.getfield 155, 3) := by decide +kernel
theorem dX7_notes_4 : decode cX7_notes 4 = .ok (.bipush 24, 2) := by decide +kernel
theorem dX7_notes_6 : decode cX7_notes 6 = .ok (.if_icmp .ne 43, 3) := by decide +kernel
theorem dX7_notes_9 : decode cX7_notes 9 = .ok (.iconst 0, 1) := by decide +kernel
theorem dX7_notes_10 : decode cX7_notes 10 = .ok (.istore_n 1, 1) := by decide +kernel
theorem dX7_notes_11 : decode cX7_notes 11 = .ok (.iload_n 1, 1) := by decide +kernel
theorem dX7_notes_12 : decode cX7_notes 12 = .ok (.sipush 1472, 3) := by decide +kernel
theorem dX7_notes_15 : decode cX7_notes 15 = .ok (.if_icmp .ge 24, 3) := by decide +kernel
theorem dX7_notes_18 : decode cX7_notes 18 = .ok (.aload_n 0, 1) := by decide +kernel
theorem dX7_notes_19 : decode cX7_notes 19 = .ok (.getfield 34, 3) := by decide +kernel
theorem dX7_notes_22 : decode cX7_notes 22 = .ok (.iload_n 1, 1) := by decide +kernel
theorem dX7_notes_23 : decode cX7_notes 23 = .ok (.aload_n 0, 1) := by decide +kernel
theorem dX7_notes_24 : decode cX7_notes 24 = .ok (.getfield 34, 3) := by decide +kernel
theorem dX7_notes_27 : decode cX7_notes 27 = .ok (.iload_n 1, 1) := by decide +kernel
theorem dX7_notes_28 : decode cX7_notes 28 = .ok (.bipush 64, 2) := by decide +kernel
theorem dX7_notes_30 : decode cX7_notes 30 = .ok (.iadd, 1) := by decide +kernel
theorem dX7_notes_31 : decode cX7_notes 31 = .ok (.iaload, 1) := by decide +kernel
theorem dX7_notes_32 : decode cX7_notes 32 = .ok (.iastore, 1) := by decide +kernel
theorem dX7_notes_33 : decode cX7_notes 33 = .ok (.iinc 1 1, 3) := by decide +kernel
theorem dX7_notes_36 : decode cX7_notes 36 = .ok (.goto (-25), 3) := by decide +kernel
theorem dX7_notes_39 : decode cX7_notes 39 = .ok (.aload_n 0, 1) := by decide +kernel
theorem dX7_notes_40 : decode cX7_notes 40 = .ok (.dup, 1) := by decide +kernel
theorem dX7_notes_41 : decode cX7_notes 41 = .ok (.getfield 155, 3) := by decide +kernel
theorem dX7_notes_44 : decode cX7_notes 44 = .ok (.iconst 1, 1) := by decide +kernel
theorem dX7_notes_45 : decode cX7_notes 45 = .ok (.isub, 1) := by decide +kernel
theorem dX7_notes_46 : decode cX7_notes 46 = .ok (.putfield 155, 3) := by decide +kernel
theorem dX7_notes_49 : decode cX7_notes 49 = .ok (.aload_n 0, 1) := by decide +kernel
theorem dX7_notes_50 : decode cX7_notes 50 = .ok (.getfield 25, 3) := by decide +kernel
theorem dX7_notes_53 : decode cX7_notes 53 = .ok (.iconst 0, 1) := by decide +kernel
theorem dX7_notes_54 : decode cX7_notes 54 = .ok (.aload_n 0, 1) := by decide +kernel
theorem dX7_notes_55 : decode cX7_notes 55 = .ok (.getfield 34, 3) := by decide +kernel
theorem dX7_notes_58 : decode cX7_notes 58 = .ok (.bipush 64, 2) := by decide +kernel
theorem dX7_notes_60 : decode cX7_notes 60 = .ok (.aload_n 0, 1) := by decide +kernel
theorem dX7_notes_61 : decode cX7_notes 61 = .ok (.getfield 155, 3) := by decide +kernel
theorem dX7_notes_64 : decode cX7_notes 64 = .ok (.imul, 1) := by decide +kernel
theorem dX7_notes_65 : decode cX7_notes 65 = .ok (.invokestatic 151, 3) := by decide +kernel
theorem dX7_notes_68 : decode cX7_notes 68 = .ok (.aload_n 0, 1) := by decide +kernel
theorem dX7_notes_69 : decode cX7_notes 69 = .ok (.dup, 1) := by decide +kernel
theorem dX7_notes_70 : decode cX7_notes 70 = .ok (.getfield 155, 3) := by decide +kernel
theorem dX7_notes_73 : decode cX7_notes 73 = .ok (.iconst 1, 1) := by decide +kernel
theorem dX7_notes_74 : decode cX7_notes 74 = .ok (.iadd, 1) := by decide +kernel
theorem dX7_notes_75 : decode cX7_notes 75 = .ok (.putfield 155, 3) := by decide +kernel
theorem dX7_notes_78 : decode cX7_notes 78 = .ok (.return_, 1) := by decide +kernel
theorem dX7_times_0 : decode cX7_times 0 = .ok (.aload_n 0, 1) := by decide +kernel
theorem dX7_times_1 : decode cX7_times 1 = .ok (.invokevirtual 183, 3) := by decide +kernel
theorem dX7_times_4 : decode cX7_times 4 = .ok (.ifCond .ne 6, 3) := by decide +kernel
theorem dX7_times_7 : decode cX7_times 7 = .ok (.ldc 186, 2) := by decide +kernel
theorem dX7_times_9 : decode cX7_times 9 = .ok (.ireturn, 1) := by decide +kernel
theorem dX7_times_10 : decode cX7_times 10 = .ok (.iload_n 1, 1) := by decide +kernel
theorem dX7_times_11 : decode cX7_times 11 = .ok (.iconst 1, 1) := by decide +kernel
theorem dX7_times_12 : decode cX7_times 12 = .ok (.bipush 24, 2) := by decide +kernel
theorem dX7_times_14 : decode cX7_times 14 = .ok (.invokestatic 62, 3) := by decide +kernel
theorem dX7_times_17 : decode cX7_times 17 = .ok (.ifCond .ne 6, 3) := by decide +kernel
theorem dX7_times_20 : decode cX7_times 20 = .ok (.ldc 70, 2) := by decide +kernel
theorem dX7_times_22 : decode cX7_times 22 = .ok (.ireturn, 1) := by decide +kernel
theorem dX7_times_23 : decode cX7_times 23 = .ok (.aload_n 0, 1) := by decide +kernel
theorem dX7_times_24 : decode cX7_times 24 = .ok (.getfield 25, 3) := by decide +kernel
theorem dX7_times_27 : decode cX7_times 27 = .ok (.iconst 3, 1) := by decide +kernel
theorem dX7_times_28 : decode cX7_times 28 = .ok (.iaload, 1) := by decide +kernel
theorem dX7_times_29 : decode cX7_times 29 = .ok (.iload_n 1, 1) := by decide +kernel
theorem dX7_times_30 : decode cX7_times 30 = .ok (.iadd, 1) := by decide +kernel
theorem dX7_times_31 : decode cX7_times 31 = .ok (.sipush 9999, 3) := by decide +kernel
theorem dX7_times_34 : decode cX7_times 34 = .ok (.if_icmp .le 6, 3) := by decide +kernel
theorem dX7_times_37 : decode cX7_times 37 = .ok (.ldc 91, 2) := by decide +kernel
theorem dX7_times_39 : decode cX7_times 39 = .ok (.ireturn, 1) := by decide +kernel
theorem dX7_times_40 : decode cX7_times 40 = .ok (.iconst 0, 1) := by decide +kernel
theorem dX7_times_41 : decode cX7_times 41 = .ok (.istore_n 2, 1) := by decide +kernel
theorem dX7_times_42 : decode cX7_times 42 = .ok (.iload_n 2, 1) := by decide +kernel
theorem dX7_times_43 : decode cX7_times 43 = .ok (.iload_n 1, 1) := by decide +kernel
theorem dX7_times_44 : decode cX7_times 44 = .ok (.if_icmp .ge 20, 3) := by decide +kernel
theorem dX7_times_47 : decode cX7_times 47 = .ok (.aload_n 0, 1) := by decide +kernel
theorem dX7_times_48 : decode cX7_times 48 = .ok (.invokevirtual 187, 3) := by decide +kernel
theorem dX7_times_51 : decode cX7_times 51 = .ok (.aload_n 0, 1) := by decide +kernel
theorem dX7_times_52 : decode cX7_times 52 = .ok (.getfield 25, 3) := by decide +kernel
theorem dX7_times_55 : decode cX7_times 55 = .ok (.invokestatic 190, 3) := by decide +kernel
theorem dX7_times_58 : decode cX7_times 58 = .ok (.iinc 2 1, 3) := by decide +kernel
theorem dX7_times_61 : decode cX7_times 61 = .ok (.goto (-19), 3) := by decide +kernel
theorem dX7_times_64 : decode cX7_times 64 = .ok (.aload_n 0, 1) := by decide +kernel
theorem dX7_times_65 : decode cX7_times 65 = .ok (.getfield 25, 3) := by decide +kernel
theorem dX7_times_68 : decode cX7_times 68 = .ok (.iconst 4, 1) := by decide +kernel
theorem dX7_times_69 : decode cX7_times 69 = .ok (.iaload, 1) := by decide +kernel
theorem dX7_times_70 : decode cX7_times 70 = .ok (.ireturn, 1) := by decide +kernel
theorem dX7_move_0 : decode cX7_move 0 = .ok (.aload_n 0, 1) := by decide +kernel
theorem dX7_move_1 : decode cX7_move 1 = .ok (.iload_n 1, 1) := by decide +kernel
theorem dX7_move_2 : decode cX7_move 2 = .ok (.invokevirtual 193, 3) := by decide +kernel
theorem dX7_move_5 : decode cX7_move 5 = .ok (.ifCond .eq 11, 3) := by decide +kernel
theorem dX7_move_8 : decode cX7_move 8 = .ok (.aload_n 0, 1) := by decide +kernel
theorem dX7_move_9 : decode cX7_move 9 = .ok (.iload_n 2, 1) := by decide +kernel
theorem dX7_move_10 : decode cX7_move 10 = .ok (.invokevirtual 196, 3) := by decide +kernel
theorem dX7_move_13 : decode cX7_move 13 = .ok (.ifCond .ne 6, 3) := by decide +kernel
theorem dX7_move_16 : decode cX7_move 16 = .ok (.ldc 70, 2) := by decide +kernel
theorem dX7_move_18 : decode cX7_move 18 = .ok (.ireturn, 1) := by decide +kernel
theorem dX7_move_19 : decode cX7_move 19 = .ok (.aload_n 0, 1) := by decide +kernel
theorem dX7_move_20 : decode cX7_move 20 = .ok (.getfield 25, 3) := by decide +kernel
theorem dX7_move_23 : decode cX7_move 23 = .ok (.bipush 22, 2) := by decide +kernel
theorem dX7_move_25 : decode cX7_move 25 = .ok (.bipush 6, 2) := by decide +kernel
theorem dX7_move_27 : decode cX7_move 27 = .ok (.iload_n 1, 1) := by decide +kernel
theorem dX7_move_28 : decode cX7_move 28 = .ok (.imul, 1) := by decide +kernel
theorem dX7_move_29 : decode cX7_move 29 = .ok (.iadd, 1) := by decide +kernel
theorem dX7_move_30 : decode cX7_move 30 = .ok (.iconst 4, 1) := by decide +kernel
theorem dX7_move_31 : decode cX7_move 31 = .ok (.iadd, 1) := by decide +kernel
theorem dX7_move_32 : decode cX7_move 32 = .ok (.iaload, 1) := by decide +kernel
theorem dX7_move_33 : decode cX7_move 33 = .ok (.istore_n 3, 1) := by decide +kernel
theorem dX7_move_34 : decode cX7_move 34 = .ok (.aload_n 0, 1) := by decide +kernel
theorem dX7_move_35 : decode cX7_move 35 = .ok (.getfield 25, 3) := by decide +kernel
theorem dX7_move_38 : decode cX7_move 38 = .ok (.iconst 4, 1) := by decide +kernel
theorem dX7_move_39 : decode cX7_move 39 = .ok (.iaload, 1) := by decide +kernel
theorem dX7_move_40 : decode cX7_move 40 = .ok (.ifCond .eq 8, 3) := by decide +kernel
theorem dX7_move_43 : decode cX7_move 43 = .ok (.iload_n 3, 1) := by decide +kernel
theorem dX7_move_44 : decode cX7_move 44 = .ok (.iload_n 2, 1) := by decide +kernel
theorem dX7_move_45 : decode cX7_move 45 = .ok (.if_icmp .ne 6, 3) := by decide +kernel
theorem dX7_move_48 : decode cX7_move 48 = .ok (.ldc 186, 2) := by decide +kernel
theorem dX7_move_50 : decode cX7_move 50 = .ok (.ireturn, 1) := by decide +kernel
theorem dX7_move_51 : decode cX7_move 51 = .ok (.aload_n 0, 1) := by decide +kernel
theorem dX7_move_52 : decode cX7_move 52 = .ok (.invokevirtual 187, 3) := by decide +kernel
theorem dX7_move_55 : decode cX7_move 55 = .ok (.aload_n 0, 1) := by decide +kernel
theorem dX7_move_56 : decode cX7_move 56 = .ok (.getfield 25, 3) := by decide +kernel
theorem dX7_move_59 : decode cX7_move 59 = .ok (.iload_n 1, 1) := by decide +kernel
theorem dX7_move_60 : decode cX7_move 60 = .ok (.iload_n 2, 1) := by decide +kernel
theorem dX7_move_61 : decode cX7_move 61 = .ok (.invokestatic 199, 3) := by decide +kernel
theorem dX7_move_64 : decode cX7_move 64 = .ok (.iload_n 3, 1) := by decide +kernel
theorem dX7_move_65 : decode cX7_move 65 = .ok (.ireturn, 1) := by decide +kernel
theorem dX7_swap_0 : decode cX7_swap 0 = .ok (.aload_n 0, 1) := by decide +kernel
theorem dX7_swap_1 : decode cX7_swap 1 = .ok (.iload_n 1, 1) := by decide +kernel
theorem dX7_swap_2 : decode cX7_swap 2 = .ok (.invokevirtual 193, 3) := by decide +kernel
theorem dX7_swap_5 : decode cX7_swap 5 = .ok (.ifCond .eq 16, 3) := by decide +kernel
theorem dX7_swap_8 : decode cX7_swap 8 = .ok (.aload_n 0, 1) := by decide +kernel
theorem dX7_swap_9 : decode cX7_swap 9 = .ok (.iload_n 2, 1) := by decide +kernel
theorem dX7_swap_10 : decode cX7_swap 10 = .ok (.invokevirtual 193, 3) := by decide +kernel
theorem dX7_swap_13 : decode cX7_swap 13 = .ok (.ifCond .eq 8, 3) := by decide +kernel
theorem dX7_swap_16 : decode cX7_swap 16 = .ok (.iload_n 1, 1) := by decide +kernel
theorem dX7_swap_17 : decode cX7_swap 17 = .ok (.iload_n 2, 1) := by decide +kernel
theorem dX7_swap_18 : decode cX7_swap 18 = .ok (.if_icmp .ne 6, 3) := by decide +kernel
theorem dX7_swap_21 : decode cX7_swap 21 = .ok (.ldc 70, 2) := by decide +kernel
theorem dX7_swap_23 : decode cX7_swap 23 = .ok (.ireturn, 1) := by decide +kernel
theorem dX7_swap_24 : decode cX7_swap 24 = .ok (.aload_n 0, 1) := by decide +kernel
theorem dX7_swap_25 : decode cX7_swap 25 = .ok (.getfield 25, 3) := by decide +kernel
theorem dX7_swap_28 : decode cX7_swap 28 = .ok (.iconst 4, 1) := by decide +kernel
theorem dX7_swap_29 : decode cX7_swap 29 = .ok (.iaload, 1) := by decide +kernel
theorem dX7_swap_30 : decode cX7_swap 30 = .ok (.ifCond .ne 6, 3) := by decide +kernel
theorem dX7_swap_33 : decode cX7_swap 33 = .ok (.ldc 186, 2) := by decide +kernel
theorem dX7_swap_35 : decode cX7_swap 35 = .ok (.ireturn, 1) := by decide +kernel
theorem dX7_swap_36 : decode cX7_swap 36 = .ok (.aload_n 0, 1) := by decide +kernel
theorem dX7_swap_37 : decode cX7_swap 37 = .ok (.invokevirtual 187, 3) := by decide +kernel
theorem dX7_swap_40 : decode cX7_swap 40 = .ok (.aload_n 0, 1) := by decide +kernel
theorem dX7_swap_41 : decode cX7_swap 41 = .ok (.getfield 25, 3) := by decide +kernel
theorem dX7_swap_44 : decode cX7_swap 44 = .ok (.bipush 22, 2) := by decide +kernel
theorem dX7_swap_46 : decode cX7_swap 46 = .ok (.bipush 6, 2) := by decide +kernel
theorem dX7_swap_48 : decode cX7_swap 48 = .ok (.iload_n 1, 1) := by decide +kernel
theorem dX7_swap_49 : decode cX7_swap 49 = .ok (.imul, 1) := by decide +kernel
theorem dX7_swap_50 : decode cX7_swap 50 = .ok (.iadd, 1) := by decide +kernel
theorem dX7_swap_51 : decode cX7_swap 51 = .ok (.iconst 4, 1) := by decide +kernel
theorem dX7_swap_52 : decode cX7_swap 52 = .ok (.iadd, 1) := by decide +kernel
theorem dX7_swap_53 : decode cX7_swap 53 = .ok (.iaload, 1) := by decide +kernel
theorem dX7_swap_54 : decode cX7_swap 54 = .ok (.istore_n 3, 1) := by decide +kernel
theorem dX7_swap_55 : decode cX7_swap 55 = .ok (.aload_n 0, 1) := by decide +kernel
theorem dX7_swap_56 : decode cX7_swap 56 = .ok (.getfield 25, 3) := by decide +kernel
theorem dX7_swap_59 : decode cX7_swap 59 = .ok (.iload_n 1, 1) := by decide +kernel
theorem dX7_swap_60 : decode cX7_swap 60 = .ok (.aload_n 0, 1) := by decide +kernel
theorem dX7_swap_61 : decode cX7_swap 61 = .ok (.getfield 25, 3) := by decide +kernel
theorem dX7_swap_64 : decode cX7_swap 64 = .ok (.bipush 22, 2) := by decide +kernel
theorem dX7_swap_66 : decode cX7_swap 66 = .ok (.bipush 6, 2) := by decide +kernel
theorem dX7_swap_68 : decode cX7_swap 68 = .ok (.iload_n 2, 1) := by decide +kernel
theorem dX7_swap_69 : decode cX7_swap 69 = .ok (.imul, 1) := by decide +kernel
theorem dX7_swap_70 : decode cX7_swap 70 = .ok (.iadd, 1) := by decide +kernel
theorem dX7_swap_71 : decode cX7_swap 71 = .ok (.iconst 4, 1) := by decide +kernel
theorem dX7_swap_72 : decode cX7_swap 72 = .ok (.iadd, 1) := by decide +kernel
theorem dX7_swap_73 : decode cX7_swap 73 = .ok (.iaload, 1) := by decide +kernel
theorem dX7_swap_74 : decode cX7_swap 74 = .ok (.invokestatic 199, 3) := by decide +kernel
theorem dX7_swap_77 : decode cX7_swap 77 = .ok (.aload_n 0, 1) := by decide +kernel
theorem dX7_swap_78 : decode cX7_swap 78 = .ok (.getfield 25, 3) := by decide +kernel
theorem dX7_swap_81 : decode cX7_swap 81 = .ok (.iload_n 2, 1) := by decide +kernel
theorem dX7_swap_82 : decode cX7_swap 82 = .ok (.iload_n 3, 1) := by decide +kernel
theorem dX7_swap_83 : decode cX7_swap 83 = .ok (.invokestatic 199, 3) := by decide +kernel
theorem dX7_swap_86 : decode cX7_swap 86 = .ok (.aload_n 0, 1) := by decide +kernel
theorem dX7_swap_87 : decode cX7_swap 87 = .ok (.getfield 25, 3) := by decide +kernel
theorem dX7_swap_90 : decode cX7_swap 90 = .ok (.bipush 22, 2) := by decide +kernel
theorem dX7_swap_92 : decode cX7_swap 92 = .ok (.bipush 6, 2) := by decide +kernel
theorem dX7_swap_94 : decode cX7_swap 94 = .ok (.iload_n 1, 1) := by decide +kernel
theorem dX7_swap_95 : decode cX7_swap 95 = .ok (.imul, 1) := by decide +kernel
theorem dX7_swap_96 : decode cX7_swap 96 = .ok (.iadd, 1) := by decide +kernel
theorem dX7_swap_97 : decode cX7_swap 97 = .ok (.iconst 4, 1) := by decide +kernel
theorem dX7_swap_98 : decode cX7_swap 98 = .ok (.iadd, 1) := by decide +kernel
theorem dX7_swap_99 : decode cX7_swap 99 = .ok (.iaload, 1) := by decide +kernel
theorem dX7_swap_100 : decode cX7_swap 100 = .ok (.ireturn, 1) := by decide +kernel
theorem dX7_work_0 : decode cX7_work 0 = .ok (.aload_n 0, 1) := by decide +kernel
theorem dX7_work_1 : decode cX7_work 1 = .ok (.iload_n 1, 1) := by decide +kernel
theorem dX7_work_2 : decode cX7_work 2 = .ok (.invokevirtual 196, 3) := by decide +kernel
theorem dX7_work_5 : decode cX7_work 5 = .ok (.ifCond .eq 13, 3) := by decide +kernel
theorem dX7_work_8 : decode cX7_work 8 = .ok (.iload_n 2, 1) := by decide +kernel
theorem dX7_work_9 : decode cX7_work 9 = .ok (.iconst 0, 1) := by decide +kernel
theorem dX7_work_10 : decode cX7_work 10 = .ok (.bipush 9, 2) := by decide +kernel
theorem dX7_work_12 : decode cX7_work 12 = .ok (.invokestatic 62, 3) := by decide +kernel
theorem dX7_work_15 : decode cX7_work 15 = .ok (.ifCond .ne 6, 3) := by decide +kernel
theorem dX7_work_18 : decode cX7_work 18 = .ok (.ldc 70, 2) := by decide +kernel
theorem dX7_work_20 : decode cX7_work 20 = .ok (.ireturn, 1) := by decide +kernel
theorem dX7_work_21 : decode cX7_work 21 = .ok (.aload_n 0, 1) := by decide +kernel
theorem dX7_work_22 : decode cX7_work 22 = .ok (.invokevirtual 187, 3) := by decide +kernel
theorem dX7_work_25 : decode cX7_work 25 = .ok (.aload_n 0, 1) := by decide +kernel
theorem dX7_work_26 : decode cX7_work 26 = .ok (.getfield 25, 3) := by decide +kernel
theorem dX7_work_29 : decode cX7_work 29 = .ok (.bipush 6, 2) := by decide +kernel
theorem dX7_work_31 : decode cX7_work 31 = .ok (.iload_n 1, 1) := by decide +kernel
theorem dX7_work_32 : decode cX7_work 32 = .ok (.iadd, 1) := by decide +kernel
theorem dX7_work_33 : decode cX7_work 33 = .ok (.iaload, 1) := by decide +kernel
theorem dX7_work_34 : decode cX7_work 34 = .ok (.istore_n 3, 1) := by decide +kernel
theorem dX7_work_35 : decode cX7_work 35 = .ok (.aload_n 0, 1) := by decide +kernel
theorem dX7_work_36 : decode cX7_work 36 = .ok (.getfield 25, 3) := by decide +kernel
theorem dX7_work_39 : decode cX7_work 39 = .ok (.bipush 6, 2) := by decide +kernel
theorem dX7_work_41 : decode cX7_work 41 = .ok (.iload_n 1, 1) := by decide +kernel
theorem dX7_work_42 : decode cX7_work 42 = .ok (.iadd, 1) := by decide +kernel
theorem dX7_work_43 : decode cX7_work 43 = .ok (.iload_n 2, 1) := by decide +kernel
theorem dX7_work_44 : decode cX7_work 44 = .ok (.iastore, 1) := by decide +kernel
theorem dX7_work_45 : decode cX7_work 45 = .ok (.iload_n 3, 1) := by decide +kernel
theorem dX7_work_46 : decode cX7_work 46 = .ok (.ireturn, 1) := by decide +kernel
theorem dX7_slip_0 : decode cX7_slip 0 = .ok (.aload_n 0, 1) := by decide +kernel
theorem dX7_slip_1 : decode cX7_slip 1 = .ok (.invokevirtual 183, 3) := by decide +kernel
theorem dX7_slip_4 : decode cX7_slip 4 = .ok (.ifCond .ne 6, 3) := by decide +kernel
theorem dX7_slip_7 : decode cX7_slip 7 = .ok (.ldc 186, 2) := by decide +kernel
theorem dX7_slip_9 : decode cX7_slip 9 = .ok (.ireturn, 1) := by decide +kernel
theorem dX7_slip_10 : decode cX7_slip 10 = .ok (.iload_n 1, 1) := by decide +kernel
theorem dX7_slip_11 : decode cX7_slip 11 = .ok (.iconst 0, 1) := by decide +kernel
theorem dX7_slip_12 : decode cX7_slip 12 = .ok (.bipush 15, 2) := by decide +kernel
theorem dX7_slip_14 : decode cX7_slip 14 = .ok (.invokestatic 62, 3) := by decide +kernel
theorem dX7_slip_17 : decode cX7_slip 17 = .ok (.ifCond .ne 6, 3) := by decide +kernel
theorem dX7_slip_20 : decode cX7_slip 20 = .ok (.ldc 70, 2) := by decide +kernel
theorem dX7_slip_22 : decode cX7_slip 22 = .ok (.ireturn, 1) := by decide +kernel
theorem dX7_slip_23 : decode cX7_slip 23 = .ok (.aload_n 0, 1) := by decide +kernel
theorem dX7_slip_24 : decode cX7_slip 24 = .ok (.invokevirtual 187, 3) := by decide +kernel
theorem dX7_slip_27 : decode cX7_slip 27 = .ok (.aload_n 0, 1) := by decide +kernel
theorem dX7_slip_28 : decode cX7_slip 28 = .ok (.getfield 25, 3) := by decide +kernel
theorem dX7_slip_31 : decode cX7_slip 31 = .ok (.iconst 0, 1) := by decide +kernel
theorem dX7_slip_32 : decode cX7_slip 32 = .ok (.iaload, 1) := by decide +kernel
theorem dX7_slip_33 : decode cX7_slip 33 = .ok (.istore_n 2, 1) := by decide +kernel
theorem dX7_slip_34 : decode cX7_slip 34 = .ok (.aload_n 0, 1) := by decide +kernel
theorem dX7_slip_35 : decode cX7_slip 35 = .ok (.getfield 25, 3) := by decide +kernel
theorem dX7_slip_38 : decode cX7_slip 38 = .ok (.iconst 0, 1) := by decide +kernel
theorem dX7_slip_39 : decode cX7_slip 39 = .ok (.iload_n 1, 1) := by decide +kernel
theorem dX7_slip_40 : decode cX7_slip 40 = .ok (.iastore, 1) := by decide +kernel
theorem dX7_slip_41 : decode cX7_slip 41 = .ok (.iload_n 2, 1) := by decide +kernel
theorem dX7_slip_42 : decode cX7_slip 42 = .ok (.ireturn, 1) := by decide +kernel
theorem dX7_undo_0 : decode cX7_undo 0 = .ok (.aload_n 0, 1) := by decide +kernel
theorem dX7_undo_1 : decode cX7_undo 1 = .ok (.getfield 155, 3) := by decide +kernel
theorem dX7_undo_4 : decode cX7_undo 4 = .ok (.ifCond .ne 6, 3) := by decide +kernel
theorem dX7_undo_7 : decode cX7_undo 7 = .ok (.ldc 186, 2) := by decide +kernel
theorem dX7_undo_9 : decode cX7_undo 9 = .ok (.ireturn, 1) := by decide +kernel
theorem dX7_undo_10 : decode cX7_undo 10 = .ok (.aload_n 0, 1) := by decide +kernel
theorem dX7_undo_11 : decode cX7_undo 11 = .ok (.dup, 1) := by decide +kernel
theorem dX7_undo_12 : decode cX7_undo 12 = .ok (.getfield 155, 3) := by decide +kernel
theorem dX7_undo_15 : decode cX7_undo 15 = .ok (.iconst 1, 1) := by decide +kernel
theorem dX7_undo_16 : decode cX7_undo 16 = .ok (.isub, 1) := by decide +kernel
theorem dX7_undo_17 : decode cX7_undo 17 = .ok (.putfield 155, 3) := by decide +kernel
theorem dX7_undo_20 : decode cX7_undo 20 = .ok (.aload_n 0, 1) := by decide +kernel
theorem dX7_undo_21 : decode cX7_undo 21 = .ok (.getfield 34, 3) := by decide +kernel
theorem dX7_undo_24 : decode cX7_undo 24 = .ok (.bipush 64, 2) := by decide +kernel
theorem dX7_undo_26 : decode cX7_undo 26 = .ok (.aload_n 0, 1) := by decide +kernel
theorem dX7_undo_27 : decode cX7_undo 27 = .ok (.getfield 155, 3) := by decide +kernel
theorem dX7_undo_30 : decode cX7_undo 30 = .ok (.imul, 1) := by decide +kernel
theorem dX7_undo_31 : decode cX7_undo 31 = .ok (.aload_n 0, 1) := by decide +kernel
theorem dX7_undo_32 : decode cX7_undo 32 = .ok (.getfield 25, 3) := by decide +kernel
theorem dX7_undo_35 : decode cX7_undo 35 = .ok (.iconst 0, 1) := by decide +kernel
theorem dX7_undo_36 : decode cX7_undo 36 = .ok (.invokestatic 151, 3) := by decide +kernel
theorem dX7_undo_39 : decode cX7_undo 39 = .ok (.aload_n 0, 1) := by decide +kernel
theorem dX7_undo_40 : decode cX7_undo 40 = .ok (.getfield 155, 3) := by decide +kernel
theorem dX7_undo_43 : decode cX7_undo 43 = .ok (.ireturn, 1) := by decide +kernel
theorem dX7_pin_0 : decode cX7_pin 0 = .ok (.aload_n 0, 1) := by decide +kernel
theorem dX7_pin_1 : decode cX7_pin 1 = .ok (.iload_n 1, 1) := by decide +kernel
theorem dX7_pin_2 : decode cX7_pin 2 = .ok (.invokevirtual 193, 3) := by decide +kernel
theorem dX7_pin_5 : decode cX7_pin 5 = .ok (.ifCond .eq 31, 3) := by decide +kernel
theorem dX7_pin_8 : decode cX7_pin 8 = .ok (.iload_n 2, 1) := by decide +kernel
theorem dX7_pin_9 : decode cX7_pin 9 = .ok (.iconst 0, 1) := by decide +kernel
theorem dX7_pin_10 : decode cX7_pin 10 = .ok (.iconst 4, 1) := by decide +kernel
theorem dX7_pin_11 : decode cX7_pin 11 = .ok (.invokestatic 62, 3) := by decide +kernel
theorem dX7_pin_14 : decode cX7_pin 14 = .ok (.ifCond .eq 22, 3) := by decide +kernel
theorem dX7_pin_17 : decode cX7_pin 17 = .ok (.aload_n 0, 1) := by decide +kernel
theorem dX7_pin_18 : decode cX7_pin 18 = .ok (.getfield 25, 3) := by decide +kernel
theorem dX7_pin_21 : decode cX7_pin 21 = .ok (.bipush 22, 2) := by decide +kernel
theorem dX7_pin_23 : decode cX7_pin 23 = .ok (.bipush 6, 2) := by decide +kernel
theorem dX7_pin_25 : decode cX7_pin 25 = .ok (.iload_n 1, 1) := by decide +kernel
theorem dX7_pin_26 : decode cX7_pin 26 = .ok (.imul, 1) := by decide +kernel
theorem dX7_pin_27 : decode cX7_pin 27 = .ok (.iadd, 1) := by decide +kernel
theorem dX7_pin_28 : decode cX7_pin 28 = .ok (.iconst 1, 1) := by decide +kernel
theorem dX7_pin_29 : decode cX7_pin 29 = .ok (.iadd, 1) := by decide +kernel
theorem dX7_pin_30 : decode cX7_pin 30 = .ok (.iload_n 2, 1) := by decide +kernel
theorem dX7_pin_31 : decode cX7_pin 31 = .ok (.iadd, 1) := by decide +kernel
theorem dX7_pin_32 : decode cX7_pin 32 = .ok (.iaload, 1) := by decide +kernel
theorem dX7_pin_33 : decode cX7_pin 33 = .ok (.goto 5, 3) := by decide +kernel
theorem dX7_pin_36 : decode cX7_pin 36 = .ok (.ldc 70, 2) := by decide +kernel
theorem dX7_pin_38 : decode cX7_pin 38 = .ok (.ireturn, 1) := by decide +kernel
theorem dX7_cell_0 : decode cX7_cell 0 = .ok (.aload_n 0, 1) := by decide +kernel
theorem dX7_cell_1 : decode cX7_cell 1 = .ok (.iload_n 1, 1) := by decide +kernel
theorem dX7_cell_2 : decode cX7_cell 2 = .ok (.invokevirtual 196, 3) := by decide +kernel
theorem dX7_cell_5 : decode cX7_cell 5 = .ok (.ifCond .ne 6, 3) := by decide +kernel
theorem dX7_cell_8 : decode cX7_cell 8 = .ok (.ldc 70, 2) := by decide +kernel
theorem dX7_cell_10 : decode cX7_cell 10 = .ok (.ireturn, 1) := by decide +kernel
theorem dX7_cell_11 : decode cX7_cell 11 = .ok (.iload_n 2, 1) := by decide +kernel
theorem dX7_cell_12 : decode cX7_cell 12 = .ok (.tableswitch 56 0 2 #[28, 38, 47], 28) := by decide +kernel
theorem dX7_cell_40 : decode cX7_cell 40 = .ok (.aload_n 0, 1) := by decide +kernel
theorem dX7_cell_41 : decode cX7_cell 41 = .ok (.getfield 25, 3) := by decide +kernel
theorem dX7_cell_44 : decode cX7_cell 44 = .ok (.bipush 6, 2) := by decide +kernel
theorem dX7_cell_46 : decode cX7_cell 46 = .ok (.iload_n 1, 1) := by decide +kernel
theorem dX7_cell_47 : decode cX7_cell 47 = .ok (.iadd, 1) := by decide +kernel
theorem dX7_cell_48 : decode cX7_cell 48 = .ok (.iaload, 1) := by decide +kernel
theorem dX7_cell_49 : decode cX7_cell 49 = .ok (.ireturn, 1) := by decide +kernel
theorem dX7_cell_50 : decode cX7_cell 50 = .ok (.aload_n 0, 1) := by decide +kernel
theorem dX7_cell_51 : decode cX7_cell 51 = .ok (.getfield 25, 3) := by decide +kernel
theorem dX7_cell_54 : decode cX7_cell 54 = .ok (.iload_n 1, 1) := by decide +kernel
theorem dX7_cell_55 : decode cX7_cell 55 = .ok (.invokestatic 158, 3) := by decide +kernel
theorem dX7_cell_58 : decode cX7_cell 58 = .ok (.ireturn, 1) := by decide +kernel
theorem dX7_cell_59 : decode cX7_cell 59 = .ok (.aload_n 0, 1) := by decide +kernel
theorem dX7_cell_60 : decode cX7_cell 60 = .ok (.getfield 25, 3) := by decide +kernel
theorem dX7_cell_63 : decode cX7_cell 63 = .ok (.iload_n 1, 1) := by decide +kernel
theorem dX7_cell_64 : decode cX7_cell 64 = .ok (.invokestatic 130, 3) := by decide +kernel
theorem dX7_cell_67 : decode cX7_cell 67 = .ok (.ireturn, 1) := by decide +kernel
theorem dX7_cell_68 : decode cX7_cell 68 = .ok (.ldc 70, 2) := by decide +kernel
theorem dX7_cell_70 : decode cX7_cell 70 = .ok (.ireturn, 1) := by decide +kernel
theorem dX7_goesOn_0 : decode cX7_goesOn 0 = .ok (.iconst 0, 1) := by decide +kernel
theorem dX7_goesOn_1 : decode cX7_goesOn 1 = .ok (.istore_n 2, 1) := by decide +kernel
theorem dX7_goesOn_2 : decode cX7_goesOn 2 = .ok (.iload_n 2, 1) := by decide +kernel
theorem dX7_goesOn_3 : decode cX7_goesOn 3 = .ok (.iload_n 1, 1) := by decide +kernel
theorem dX7_goesOn_4 : decode cX7_goesOn 4 = .ok (.if_icmp .ge 16, 3) := by decide +kernel
theorem dX7_goesOn_7 : decode cX7_goesOn 7 = .ok (.aload_n 0, 1) := by decide +kernel
theorem dX7_goesOn_8 : decode cX7_goesOn 8 = .ok (.getfield 31, 3) := by decide +kernel
theorem dX7_goesOn_11 : decode cX7_goesOn 11 = .ok (.invokestatic 190, 3) := by decide +kernel
theorem dX7_goesOn_14 : decode cX7_goesOn 14 = .ok (.iinc 2 1, 3) := by decide +kernel
theorem dX7_goesOn_17 : decode cX7_goesOn 17 = .ok (.goto (-15), 3) := by decide +kernel
theorem dX7_goesOn_20 : decode cX7_goesOn 20 = .ok (.return_, 1) := by decide +kernel
theorem dX7_ahead_0 : decode cX7_ahead 0 = .ok (.aload_n 0, 1) := by decide +kernel
theorem dX7_ahead_1 : decode cX7_ahead 1 = .ok (.iload_n 1, 1) := by decide +kernel
theorem dX7_ahead_2 : decode cX7_ahead 2 = .ok (.invokevirtual 193, 3) := by decide +kernel
theorem dX7_ahead_5 : decode cX7_ahead 5 = .ok (.ifCond .eq 13, 3) := by decide +kernel
theorem dX7_ahead_8 : decode cX7_ahead 8 = .ok (.iload_n 2, 1) := by decide +kernel
theorem dX7_ahead_9 : decode cX7_ahead 9 = .ok (.iconst 0, 1) := by decide +kernel
theorem dX7_ahead_10 : decode cX7_ahead 10 = .ok (.bipush 60, 2) := by decide +kernel
theorem dX7_ahead_12 : decode cX7_ahead 12 = .ok (.invokestatic 62, 3) := by decide +kernel
theorem dX7_ahead_15 : decode cX7_ahead 15 = .ok (.ifCond .ne 6, 3) := by decide +kernel
theorem dX7_ahead_18 : decode cX7_ahead 18 = .ok (.ldc 70, 2) := by decide +kernel
theorem dX7_ahead_20 : decode cX7_ahead 20 = .ok (.ireturn, 1) := by decide +kernel
theorem dX7_ahead_21 : decode cX7_ahead 21 = .ok (.aload_n 0, 1) := by decide +kernel
theorem dX7_ahead_22 : decode cX7_ahead 22 = .ok (.getfield 25, 3) := by decide +kernel
theorem dX7_ahead_25 : decode cX7_ahead 25 = .ok (.iconst 0, 1) := by decide +kernel
theorem dX7_ahead_26 : decode cX7_ahead 26 = .ok (.aload_n 0, 1) := by decide +kernel
theorem dX7_ahead_27 : decode cX7_ahead 27 = .ok (.getfield 31, 3) := by decide +kernel
theorem dX7_ahead_30 : decode cX7_ahead 30 = .ok (.iconst 0, 1) := by decide +kernel
theorem dX7_ahead_31 : decode cX7_ahead 31 = .ok (.invokestatic 151, 3) := by decide +kernel
theorem dX7_ahead_34 : decode cX7_ahead 34 = .ok (.aload_n 0, 1) := by decide +kernel
theorem dX7_ahead_35 : decode cX7_ahead 35 = .ok (.iload_n 2, 1) := by decide +kernel
theorem dX7_ahead_36 : decode cX7_ahead 36 = .ok (.invokevirtual 203, 3) := by decide +kernel
theorem dX7_ahead_39 : decode cX7_ahead 39 = .ok (.aload_n 0, 1) := by decide +kernel
theorem dX7_ahead_40 : decode cX7_ahead 40 = .ok (.getfield 31, 3) := by decide +kernel
theorem dX7_ahead_43 : decode cX7_ahead 43 = .ok (.bipush 22, 2) := by decide +kernel
theorem dX7_ahead_45 : decode cX7_ahead 45 = .ok (.bipush 6, 2) := by decide +kernel
theorem dX7_ahead_47 : decode cX7_ahead 47 = .ok (.iload_n 1, 1) := by decide +kernel
theorem dX7_ahead_48 : decode cX7_ahead 48 = .ok (.imul, 1) := by decide +kernel
theorem dX7_ahead_49 : decode cX7_ahead 49 = .ok (.iadd, 1) := by decide +kernel
theorem dX7_ahead_50 : decode cX7_ahead 50 = .ok (.iconst 4, 1) := by decide +kernel
theorem dX7_ahead_51 : decode cX7_ahead 51 = .ok (.iadd, 1) := by decide +kernel
theorem dX7_ahead_52 : decode cX7_ahead 52 = .ok (.iaload, 1) := by decide +kernel
theorem dX7_ahead_53 : decode cX7_ahead 53 = .ok (.ireturn, 1) := by decide +kernel
theorem dX7_earned_0 : decode cX7_earned 0 = .ok (.aload_n 0, 1) := by decide +kernel
theorem dX7_earned_1 : decode cX7_earned 1 = .ok (.invokevirtual 183, 3) := by decide +kernel
theorem dX7_earned_4 : decode cX7_earned 4 = .ok (.ifCond .ne 6, 3) := by decide +kernel
theorem dX7_earned_7 : decode cX7_earned 7 = .ok (.ldc 186, 2) := by decide +kernel
theorem dX7_earned_9 : decode cX7_earned 9 = .ok (.ireturn, 1) := by decide +kernel
theorem dX7_earned_10 : decode cX7_earned 10 = .ok (.iload_n 1, 1) := by decide +kernel
theorem dX7_earned_11 : decode cX7_earned 11 = .ok (.iconst 0, 1) := by decide +kernel
theorem dX7_earned_12 : decode cX7_earned 12 = .ok (.bipush 60, 2) := by decide +kernel
theorem dX7_earned_14 : decode cX7_earned 14 = .ok (.invokestatic 62, 3) := by decide +kernel
theorem dX7_earned_17 : decode cX7_earned 17 = .ok (.ifCond .ne 6, 3) := by decide +kernel
theorem dX7_earned_20 : decode cX7_earned 20 = .ok (.ldc 70, 2) := by decide +kernel
theorem dX7_earned_22 : decode cX7_earned 22 = .ok (.ireturn, 1) := by decide +kernel
theorem dX7_earned_23 : decode cX7_earned 23 = .ok (.aload_n 0, 1) := by decide +kernel
theorem dX7_earned_24 : decode cX7_earned 24 = .ok (.getfield 25, 3) := by decide +kernel
theorem dX7_earned_27 : decode cX7_earned 27 = .ok (.iconst 0, 1) := by decide +kernel
theorem dX7_earned_28 : decode cX7_earned 28 = .ok (.aload_n 0, 1) := by decide +kernel
theorem dX7_earned_29 : decode cX7_earned 29 = .ok (.getfield 31, 3) := by decide +kernel
theorem dX7_earned_32 : decode cX7_earned 32 = .ok (.iconst 0, 1) := by decide +kernel
theorem dX7_earned_33 : decode cX7_earned 33 = .ok (.invokestatic 151, 3) := by decide +kernel
theorem dX7_earned_36 : decode cX7_earned 36 = .ok (.aload_n 0, 1) := by decide +kernel
theorem dX7_earned_37 : decode cX7_earned 37 = .ok (.iload_n 1, 1) := by decide +kernel
theorem dX7_earned_38 : decode cX7_earned 38 = .ok (.invokevirtual 203, 3) := by decide +kernel
theorem dX7_earned_41 : decode cX7_earned 41 = .ok (.aload_n 0, 1) := by decide +kernel
theorem dX7_earned_42 : decode cX7_earned 42 = .ok (.getfield 31, 3) := by decide +kernel
theorem dX7_earned_45 : decode cX7_earned 45 = .ok (.iconst 5, 1) := by decide +kernel
theorem dX7_earned_46 : decode cX7_earned 46 = .ok (.iaload, 1) := by decide +kernel
theorem dX7_earned_47 : decode cX7_earned 47 = .ok (.ireturn, 1) := by decide +kernel
theorem dX7_tomsk_0 : decode cX7_tomsk 0 = .ok (.aload_n 0, 1) := by decide +kernel
theorem dX7_tomsk_1 : decode cX7_tomsk 1 = .ok (.iload_n 1, 1) := by decide +kernel
theorem dX7_tomsk_2 : decode cX7_tomsk 2 = .ok (.invokevirtual 193, 3) := by decide +kernel
theorem dX7_tomsk_5 : decode cX7_tomsk 5 = .ok (.ifCond .eq 11, 3) := by decide +kernel
theorem dX7_tomsk_8 : decode cX7_tomsk 8 = .ok (.aload_n 0, 1) := by decide +kernel
theorem dX7_tomsk_9 : decode cX7_tomsk 9 = .ok (.iload_n 2, 1) := by decide +kernel
theorem dX7_tomsk_10 : decode cX7_tomsk 10 = .ok (.invokevirtual 196, 3) := by decide +kernel
theorem dX7_tomsk_13 : decode cX7_tomsk 13 = .ok (.ifCond .ne 6, 3) := by decide +kernel
theorem dX7_tomsk_16 : decode cX7_tomsk 16 = .ok (.ldc 70, 2) := by decide +kernel
theorem dX7_tomsk_18 : decode cX7_tomsk 18 = .ok (.ireturn, 1) := by decide +kernel
theorem dX7_tomsk_19 : decode cX7_tomsk 19 = .ok (.aload_n 0, 1) := by decide +kernel
theorem dX7_tomsk_20 : decode cX7_tomsk 20 = .ok (.getfield 25, 3) := by decide +kernel
theorem dX7_tomsk_23 : decode cX7_tomsk 23 = .ok (.iconst 0, 1) := by decide +kernel
theorem dX7_tomsk_24 : decode cX7_tomsk 24 = .ok (.aload_n 0, 1) := by decide +kernel
theorem dX7_tomsk_25 : decode cX7_tomsk 25 = .ok (.getfield 31, 3) := by decide +kernel
theorem dX7_tomsk_28 : decode cX7_tomsk 28 = .ok (.iconst 0, 1) := by decide +kernel
theorem dX7_tomsk_29 : decode cX7_tomsk 29 = .ok (.invokestatic 151, 3) := by decide +kernel
theorem dX7_tomsk_32 : decode cX7_tomsk 32 = .ok (.iconst 0, 1) := by decide +kernel
theorem dX7_tomsk_33 : decode cX7_tomsk 33 = .ok (.istore_n 3, 1) := by decide +kernel
theorem dX7_tomsk_34 : decode cX7_tomsk 34 = .ok (.iload_n 3, 1) := by decide +kernel
theorem dX7_tomsk_35 : decode cX7_tomsk 35 = .ok (.bipush 61, 2) := by decide +kernel
theorem dX7_tomsk_37 : decode cX7_tomsk 37 = .ok (.if_icmp .ge 36, 3) := by decide +kernel
theorem dX7_tomsk_40 : decode cX7_tomsk 40 = .ok (.aload_n 0, 1) := by decide +kernel
theorem dX7_tomsk_41 : decode cX7_tomsk 41 = .ok (.getfield 31, 3) := by decide +kernel
theorem dX7_tomsk_44 : decode cX7_tomsk 44 = .ok (.bipush 22, 2) := by decide +kernel
theorem dX7_tomsk_46 : decode cX7_tomsk 46 = .ok (.bipush 6, 2) := by decide +kernel
theorem dX7_tomsk_48 : decode cX7_tomsk 48 = .ok (.iload_n 1, 1) := by decide +kernel
theorem dX7_tomsk_49 : decode cX7_tomsk 49 = .ok (.imul, 1) := by decide +kernel
theorem dX7_tomsk_50 : decode cX7_tomsk 50 = .ok (.iadd, 1) := by decide +kernel
theorem dX7_tomsk_51 : decode cX7_tomsk 51 = .ok (.iconst 4, 1) := by decide +kernel
theorem dX7_tomsk_52 : decode cX7_tomsk 52 = .ok (.iadd, 1) := by decide +kernel
theorem dX7_tomsk_53 : decode cX7_tomsk 53 = .ok (.iaload, 1) := by decide +kernel
theorem dX7_tomsk_54 : decode cX7_tomsk 54 = .ok (.iload_n 2, 1) := by decide +kernel
theorem dX7_tomsk_55 : decode cX7_tomsk 55 = .ok (.if_icmp .ne 5, 3) := by decide +kernel
theorem dX7_tomsk_58 : decode cX7_tomsk 58 = .ok (.iload_n 3, 1) := by decide +kernel
theorem dX7_tomsk_59 : decode cX7_tomsk 59 = .ok (.ireturn, 1) := by decide +kernel
theorem dX7_tomsk_60 : decode cX7_tomsk 60 = .ok (.aload_n 0, 1) := by decide +kernel
theorem dX7_tomsk_61 : decode cX7_tomsk 61 = .ok (.getfield 31, 3) := by decide +kernel
theorem dX7_tomsk_64 : decode cX7_tomsk 64 = .ok (.invokestatic 190, 3) := by decide +kernel
theorem dX7_tomsk_67 : decode cX7_tomsk 67 = .ok (.iinc 3 1, 3) := by decide +kernel
theorem dX7_tomsk_70 : decode cX7_tomsk 70 = .ok (.goto (-36), 3) := by decide +kernel
theorem dX7_tomsk_73 : decode cX7_tomsk 73 = .ok (.ldc 56, 2) := by decide +kernel
theorem dX7_tomsk_75 : decode cX7_tomsk 75 = .ok (.ireturn, 1) := by decide +kernel
theorem dX7_round_0 : decode cX7_round 0 = .ok (.aload_n 0, 1) := by decide +kernel
theorem dX7_round_1 : decode cX7_round 1 = .ok (.invokevirtual 183, 3) := by decide +kernel
theorem dX7_round_4 : decode cX7_round 4 = .ok (.ifCond .ne 6, 3) := by decide +kernel
theorem dX7_round_7 : decode cX7_round 7 = .ok (.ldc 186, 2) := by decide +kernel
theorem dX7_round_9 : decode cX7_round 9 = .ok (.ireturn, 1) := by decide +kernel
theorem dX7_round_10 : decode cX7_round 10 = .ok (.aload_n 0, 1) := by decide +kernel
theorem dX7_round_11 : decode cX7_round 11 = .ok (.getfield 25, 3) := by decide +kernel
theorem dX7_round_14 : decode cX7_round 14 = .ok (.iconst 0, 1) := by decide +kernel
theorem dX7_round_15 : decode cX7_round 15 = .ok (.aload_n 0, 1) := by decide +kernel
theorem dX7_round_16 : decode cX7_round 16 = .ok (.getfield 31, 3) := by decide +kernel
theorem dX7_round_19 : decode cX7_round 19 = .ok (.iconst 0, 1) := by decide +kernel
theorem dX7_round_20 : decode cX7_round 20 = .ok (.invokestatic 151, 3) := by decide +kernel
theorem dX7_round_23 : decode cX7_round 23 = .ok (.iconst 1, 1) := by decide +kernel
theorem dX7_round_24 : decode cX7_round 24 = .ok (.istore_n 1, 1) := by decide +kernel
theorem dX7_round_25 : decode cX7_round 25 = .ok (.iload_n 1, 1) := by decide +kernel
theorem dX7_round_26 : decode cX7_round 26 = .ok (.sipush 201, 3) := by decide +kernel
theorem dX7_round_29 : decode cX7_round 29 = .ok (.if_icmp .ge 83, 3) := by decide +kernel
theorem dX7_round_32 : decode cX7_round 32 = .ok (.aload_n 0, 1) := by decide +kernel
theorem dX7_round_33 : decode cX7_round 33 = .ok (.getfield 31, 3) := by decide +kernel
theorem dX7_round_36 : decode cX7_round 36 = .ok (.invokestatic 190, 3) := by decide +kernel
theorem dX7_round_39 : decode cX7_round 39 = .ok (.iconst 1, 1) := by decide +kernel
theorem dX7_round_40 : decode cX7_round 40 = .ok (.istore_n 2, 1) := by decide +kernel
theorem dX7_round_41 : decode cX7_round 41 = .ok (.iconst 0, 1) := by decide +kernel
theorem dX7_round_42 : decode cX7_round 42 = .ok (.istore_n 3, 1) := by decide +kernel
theorem dX7_round_43 : decode cX7_round 43 = .ok (.iload_n 3, 1) := by decide +kernel
theorem dX7_round_44 : decode cX7_round 44 = .ok (.aload_n 0, 1) := by decide +kernel
theorem dX7_round_45 : decode cX7_round 45 = .ok (.getfield 25, 3) := by decide +kernel
theorem dX7_round_48 : decode cX7_round 48 = .ok (.iconst 2, 1) := by decide +kernel
theorem dX7_round_49 : decode cX7_round 49 = .ok (.iaload, 1) := by decide +kernel
theorem dX7_round_50 : decode cX7_round 50 = .ok (.if_icmp .ge 50, 3) := by decide +kernel
theorem dX7_round_53 : decode cX7_round 53 = .ok (.iload_n 2, 1) := by decide +kernel
theorem dX7_round_54 : decode cX7_round 54 = .ok (.ifCond .eq 38, 3) := by decide +kernel
theorem dX7_round_57 : decode cX7_round 57 = .ok (.aload_n 0, 1) := by decide +kernel
theorem dX7_round_58 : decode cX7_round 58 = .ok (.getfield 31, 3) := by decide +kernel
theorem dX7_round_61 : decode cX7_round 61 = .ok (.bipush 22, 2) := by decide +kernel
theorem dX7_round_63 : decode cX7_round 63 = .ok (.bipush 6, 2) := by decide +kernel
theorem dX7_round_65 : decode cX7_round 65 = .ok (.iload_n 3, 1) := by decide +kernel
theorem dX7_round_66 : decode cX7_round 66 = .ok (.imul, 1) := by decide +kernel
theorem dX7_round_67 : decode cX7_round 67 = .ok (.iadd, 1) := by decide +kernel
theorem dX7_round_68 : decode cX7_round 68 = .ok (.iconst 4, 1) := by decide +kernel
theorem dX7_round_69 : decode cX7_round 69 = .ok (.iadd, 1) := by decide +kernel
theorem dX7_round_70 : decode cX7_round 70 = .ok (.iaload, 1) := by decide +kernel
theorem dX7_round_71 : decode cX7_round 71 = .ok (.aload_n 0, 1) := by decide +kernel
theorem dX7_round_72 : decode cX7_round 72 = .ok (.getfield 25, 3) := by decide +kernel
theorem dX7_round_75 : decode cX7_round 75 = .ok (.bipush 22, 2) := by decide +kernel
theorem dX7_round_77 : decode cX7_round 77 = .ok (.bipush 6, 2) := by decide +kernel
theorem dX7_round_79 : decode cX7_round 79 = .ok (.iload_n 3, 1) := by decide +kernel
theorem dX7_round_80 : decode cX7_round 80 = .ok (.imul, 1) := by decide +kernel
theorem dX7_round_81 : decode cX7_round 81 = .ok (.iadd, 1) := by decide +kernel
theorem dX7_round_82 : decode cX7_round 82 = .ok (.iconst 4, 1) := by decide +kernel
theorem dX7_round_83 : decode cX7_round 83 = .ok (.iadd, 1) := by decide +kernel
theorem dX7_round_84 : decode cX7_round 84 = .ok (.iaload, 1) := by decide +kernel
theorem dX7_round_85 : decode cX7_round 85 = .ok (.if_icmp .ne 7, 3) := by decide +kernel
theorem dX7_round_88 : decode cX7_round 88 = .ok (.iconst 1, 1) := by decide +kernel
theorem dX7_round_89 : decode cX7_round 89 = .ok (.goto 4, 3) := by decide +kernel
theorem dX7_round_92 : decode cX7_round 92 = .ok (.iconst 0, 1) := by decide +kernel
theorem dX7_round_93 : decode cX7_round 93 = .ok (.istore_n 2, 1) := by decide +kernel
theorem dX7_round_94 : decode cX7_round 94 = .ok (.iinc 3 1, 3) := by decide +kernel
theorem dX7_round_97 : decode cX7_round 97 = .ok (.goto (-54), 3) := by decide +kernel
theorem dX7_round_100 : decode cX7_round 100 = .ok (.iload_n 2, 1) := by decide +kernel
theorem dX7_round_101 : decode cX7_round 101 = .ok (.ifCond .eq 5, 3) := by decide +kernel
theorem dX7_round_104 : decode cX7_round 104 = .ok (.iload_n 1, 1) := by decide +kernel
theorem dX7_round_105 : decode cX7_round 105 = .ok (.ireturn, 1) := by decide +kernel
theorem dX7_round_106 : decode cX7_round 106 = .ok (.iinc 1 1, 3) := by decide +kernel
theorem dX7_round_109 : decode cX7_round 109 = .ok (.goto (-84), 3) := by decide +kernel
theorem dX7_round_112 : decode cX7_round 112 = .ok (.ldc 56, 2) := by decide +kernel
theorem dX7_round_114 : decode cX7_round 114 = .ok (.ireturn, 1) := by decide +kernel
theorem dX7_changes_0 : decode cX7_changes 0 = .ok (.iconst 0, 1) := by decide +kernel
theorem dX7_changes_1 : decode cX7_changes 1 = .ok (.istore_n 1, 1) := by decide +kernel
theorem dX7_changes_2 : decode cX7_changes 2 = .ok (.iload_n 1, 1) := by decide +kernel
theorem dX7_changes_3 : decode cX7_changes 3 = .ok (.aload_n 0, 1) := by decide +kernel
theorem dX7_changes_4 : decode cX7_changes 4 = .ok (.getfield 25, 3) := by decide +kernel
theorem dX7_changes_7 : decode cX7_changes 7 = .ok (.iconst 2, 1) := by decide +kernel
theorem dX7_changes_8 : decode cX7_changes 8 = .ok (.iaload, 1) := by decide +kernel
theorem dX7_changes_9 : decode cX7_changes 9 = .ok (.if_icmp .ge 61, 3) := by decide +kernel
theorem dX7_changes_12 : decode cX7_changes 12 = .ok (.aload_n 0, 1) := by decide +kernel
theorem dX7_changes_13 : decode cX7_changes 13 = .ok (.getfield 25, 3) := by decide +kernel
theorem dX7_changes_16 : decode cX7_changes 16 = .ok (.bipush 22, 2) := by decide +kernel
theorem dX7_changes_18 : decode cX7_changes 18 = .ok (.bipush 6, 2) := by decide +kernel
theorem dX7_changes_20 : decode cX7_changes 20 = .ok (.iload_n 1, 1) := by decide +kernel
theorem dX7_changes_21 : decode cX7_changes 21 = .ok (.imul, 1) := by decide +kernel
theorem dX7_changes_22 : decode cX7_changes 22 = .ok (.iadd, 1) := by decide +kernel
theorem dX7_changes_23 : decode cX7_changes 23 = .ok (.iconst 4, 1) := by decide +kernel
theorem dX7_changes_24 : decode cX7_changes 24 = .ok (.iadd, 1) := by decide +kernel
theorem dX7_changes_25 : decode cX7_changes 25 = .ok (.iaload, 1) := by decide +kernel
theorem dX7_changes_26 : decode cX7_changes 26 = .ok (.istore_n 2, 1) := by decide +kernel
theorem dX7_changes_27 : decode cX7_changes 27 = .ok (.iload_n 2, 1) := by decide +kernel
theorem dX7_changes_28 : decode cX7_changes 28 = .ok (.ldc 56, 2) := by decide +kernel
theorem dX7_changes_30 : decode cX7_changes 30 = .ok (.if_icmp .eq 31, 3) := by decide +kernel
theorem dX7_changes_33 : decode cX7_changes 33 = .ok (.aload_n 0, 1) := by decide +kernel
theorem dX7_changes_34 : decode cX7_changes 34 = .ok (.getfield 25, 3) := by decide +kernel
theorem dX7_changes_37 : decode cX7_changes 37 = .ok (.iload_n 2, 1) := by decide +kernel
theorem dX7_changes_38 : decode cX7_changes 38 = .ok (.invokestatic 130, 3) := by decide +kernel
theorem dX7_changes_41 : decode cX7_changes 41 = .ok (.ldc 56, 2) := by decide +kernel
theorem dX7_changes_43 : decode cX7_changes 43 = .ok (.if_icmp .eq 18, 3) := by decide +kernel
theorem dX7_changes_46 : decode cX7_changes 46 = .ok (.aload_n 0, 1) := by decide +kernel
theorem dX7_changes_47 : decode cX7_changes 47 = .ok (.getfield 25, 3) := by decide +kernel
theorem dX7_changes_50 : decode cX7_changes 50 = .ok (.iload_n 2, 1) := by decide +kernel
theorem dX7_changes_51 : decode cX7_changes 51 = .ok (.invokestatic 158, 3) := by decide +kernel
theorem dX7_changes_54 : decode cX7_changes 54 = .ok (.invokestatic 172, 3) := by decide +kernel
theorem dX7_changes_57 : decode cX7_changes 57 = .ok (.iconst 1, 1) := by decide +kernel
theorem dX7_changes_58 : decode cX7_changes 58 = .ok (.if_icmp .le 6, 3) := by decide +kernel
theorem dX7_changes_61 : decode cX7_changes 61 = .ok (.ldc 56, 2) := by decide +kernel
theorem dX7_changes_63 : decode cX7_changes 63 = .ok (.ireturn, 1) := by decide +kernel
theorem dX7_changes_64 : decode cX7_changes 64 = .ok (.iinc 1 1, 3) := by decide +kernel
theorem dX7_changes_67 : decode cX7_changes 67 = .ok (.goto (-65), 3) := by decide +kernel
theorem dX7_changes_70 : decode cX7_changes 70 = .ok (.iconst 0, 1) := by decide +kernel
theorem dX7_changes_71 : decode cX7_changes 71 = .ok (.istore_n 1, 1) := by decide +kernel
theorem dX7_changes_72 : decode cX7_changes 72 = .ok (.iconst 0, 1) := by decide +kernel
theorem dX7_changes_73 : decode cX7_changes 73 = .ok (.istore_n 2, 1) := by decide +kernel
theorem dX7_changes_74 : decode cX7_changes 74 = .ok (.iconst 0, 1) := by decide +kernel
theorem dX7_changes_75 : decode cX7_changes 75 = .ok (.istore_n 3, 1) := by decide +kernel
theorem dX7_changes_76 : decode cX7_changes 76 = .ok (.iload_n 3, 1) := by decide +kernel
theorem dX7_changes_77 : decode cX7_changes 77 = .ok (.aload_n 0, 1) := by decide +kernel
theorem dX7_changes_78 : decode cX7_changes 78 = .ok (.getfield 25, 3) := by decide +kernel
theorem dX7_changes_81 : decode cX7_changes 81 = .ok (.iconst 2, 1) := by decide +kernel
theorem dX7_changes_82 : decode cX7_changes 82 = .ok (.iaload, 1) := by decide +kernel
theorem dX7_changes_83 : decode cX7_changes 83 = .ok (.if_icmp .ge 71, 3) := by decide +kernel
theorem dX7_changes_86 : decode cX7_changes 86 = .ok (.iload_n 1, 1) := by decide +kernel
theorem dX7_changes_87 : decode cX7_changes 87 = .ok (.iload_n 2, 1) := by decide +kernel
theorem dX7_changes_88 : decode cX7_changes 88 = .ok (.iload_n 3, 1) := by decide +kernel
theorem dX7_changes_89 : decode cX7_changes 89 = .ok (.invokestatic 164, 3) := by decide +kernel
theorem dX7_changes_92 : decode cX7_changes 92 = .ok (.ifCond .eq 7, 3) := by decide +kernel
theorem dX7_changes_95 : decode cX7_changes 95 = .ok (.iconst 0, 1) := by decide +kernel
theorem dX7_changes_96 : decode cX7_changes 96 = .ok (.goto 4, 3) := by decide +kernel
theorem dX7_changes_99 : decode cX7_changes 99 = .ok (.iconst 1, 1) := by decide +kernel
theorem dX7_changes_100 : decode cX7_changes 100 = .ok (.iadd, 1) := by decide +kernel
theorem dX7_changes_101 : decode cX7_changes 101 = .ok (.istore_n 1, 1) := by decide +kernel
theorem dX7_changes_102 : decode cX7_changes 102 = .ok (.iload_n 3, 1) := by decide +kernel
theorem dX7_changes_103 : decode cX7_changes 103 = .ok (.istore 4, 2) := by decide +kernel
theorem dX7_changes_105 : decode cX7_changes 105 = .ok (.iload_n 2, 1) := by decide +kernel
theorem dX7_changes_106 : decode cX7_changes 106 = .ok (.iload 4, 2) := by decide +kernel
theorem dX7_changes_108 : decode cX7_changes 108 = .ok (.invokestatic 164, 3) := by decide +kernel
theorem dX7_changes_111 : decode cX7_changes 111 = .ok (.ifCond .ne 37, 3) := by decide +kernel
theorem dX7_changes_114 : decode cX7_changes 114 = .ok (.iload_n 2, 1) := by decide +kernel
theorem dX7_changes_115 : decode cX7_changes 115 = .ok (.iconst 1, 1) := by decide +kernel
theorem dX7_changes_116 : decode cX7_changes 116 = .ok (.iload 4, 2) := by decide +kernel
theorem dX7_changes_118 : decode cX7_changes 118 = .ok (.ishl, 1) := by decide +kernel
theorem dX7_changes_119 : decode cX7_changes 119 = .ok (.ior, 1) := by decide +kernel
theorem dX7_changes_120 : decode cX7_changes 120 = .ok (.istore_n 2, 1) := by decide +kernel
theorem dX7_changes_121 : decode cX7_changes 121 = .ok (.aload_n 0, 1) := by decide +kernel
theorem dX7_changes_122 : decode cX7_changes 122 = .ok (.getfield 25, 3) := by decide +kernel
theorem dX7_changes_125 : decode cX7_changes 125 = .ok (.aload_n 0, 1) := by decide +kernel
theorem dX7_changes_126 : decode cX7_changes 126 = .ok (.getfield 25, 3) := by decide +kernel
theorem dX7_changes_129 : decode cX7_changes 129 = .ok (.bipush 22, 2) := by decide +kernel
theorem dX7_changes_131 : decode cX7_changes 131 = .ok (.bipush 6, 2) := by decide +kernel
theorem dX7_changes_133 : decode cX7_changes 133 = .ok (.iload 4, 2) := by decide +kernel
theorem dX7_changes_135 : decode cX7_changes 135 = .ok (.imul, 1) := by decide +kernel
theorem dX7_changes_136 : decode cX7_changes 136 = .ok (.iadd, 1) := by decide +kernel
theorem dX7_changes_137 : decode cX7_changes 137 = .ok (.iconst 4, 1) := by decide +kernel
theorem dX7_changes_138 : decode cX7_changes 138 = .ok (.iadd, 1) := by decide +kernel
theorem dX7_changes_139 : decode cX7_changes 139 = .ok (.iaload, 1) := by decide +kernel
theorem dX7_changes_140 : decode cX7_changes 140 = .ok (.invokestatic 130, 3) := by decide +kernel
theorem dX7_changes_143 : decode cX7_changes 143 = .ok (.istore 4, 2) := by decide +kernel
theorem dX7_changes_145 : decode cX7_changes 145 = .ok (.goto (-40), 3) := by decide +kernel
theorem dX7_changes_148 : decode cX7_changes 148 = .ok (.iinc 3 1, 3) := by decide +kernel
theorem dX7_changes_151 : decode cX7_changes 151 = .ok (.goto (-75), 3) := by decide +kernel
theorem dX7_changes_154 : decode cX7_changes 154 = .ok (.aload_n 0, 1) := by decide +kernel
theorem dX7_changes_155 : decode cX7_changes 155 = .ok (.getfield 25, 3) := by decide +kernel
theorem dX7_changes_158 : decode cX7_changes 158 = .ok (.iconst 2, 1) := by decide +kernel
theorem dX7_changes_159 : decode cX7_changes 159 = .ok (.iaload, 1) := by decide +kernel
theorem dX7_changes_160 : decode cX7_changes 160 = .ok (.iload_n 1, 1) := by decide +kernel
theorem dX7_changes_161 : decode cX7_changes 161 = .ok (.isub, 1) := by decide +kernel
theorem dX7_changes_162 : decode cX7_changes 162 = .ok (.ireturn, 1) := by decide +kernel
theorem dX7_right_0 : decode cX7_right 0 = .ok (.aload_n 0, 1) := by decide +kernel
theorem dX7_right_1 : decode cX7_right 1 = .ok (.invokevirtual 183, 3) := by decide +kernel
theorem dX7_right_4 : decode cX7_right 4 = .ok (.ifCond .ne 6, 3) := by decide +kernel
theorem dX7_right_7 : decode cX7_right 7 = .ok (.ldc 186, 2) := by decide +kernel
theorem dX7_right_9 : decode cX7_right 9 = .ok (.ireturn, 1) := by decide +kernel
theorem dX7_right_10 : decode cX7_right 10 = .ok (.iload_n 1, 1) := by decide +kernel
theorem dX7_right_11 : decode cX7_right 11 = .ok (.iconst 0, 1) := by decide +kernel
theorem dX7_right_12 : decode cX7_right 12 = .ok (.iconst 1, 1) := by decide +kernel
theorem dX7_right_13 : decode cX7_right 13 = .ok (.invokestatic 62, 3) := by decide +kernel
theorem dX7_right_16 : decode cX7_right 16 = .ok (.ifCond .ne 6, 3) := by decide +kernel
theorem dX7_right_19 : decode cX7_right 19 = .ok (.ldc 70, 2) := by decide +kernel
theorem dX7_right_21 : decode cX7_right 21 = .ok (.ireturn, 1) := by decide +kernel
theorem dX7_right_22 : decode cX7_right 22 = .ok (.iload_n 1, 1) := by decide +kernel
theorem dX7_right_23 : decode cX7_right 23 = .ok (.ifCond .ne 13, 3) := by decide +kernel
theorem dX7_right_26 : decode cX7_right 26 = .ok (.aload_n 0, 1) := by decide +kernel
theorem dX7_right_27 : decode cX7_right 27 = .ok (.getfield 25, 3) := by decide +kernel
theorem dX7_right_30 : decode cX7_right 30 = .ok (.invokestatic 207, 3) := by decide +kernel
theorem dX7_right_33 : decode cX7_right 33 = .ok (.goto 21, 3) := by decide +kernel
theorem dX7_right_36 : decode cX7_right 36 = .ok (.aload_n 0, 1) := by decide +kernel
theorem dX7_right_37 : decode cX7_right 37 = .ok (.getfield 25, 3) := by decide +kernel
theorem dX7_right_40 : decode cX7_right 40 = .ok (.iconst 4, 1) := by decide +kernel
theorem dX7_right_41 : decode cX7_right 41 = .ok (.iaload, 1) := by decide +kernel
theorem dX7_right_42 : decode cX7_right 42 = .ok (.ifCond .ne 8, 3) := by decide +kernel
theorem dX7_right_45 : decode cX7_right 45 = .ok (.ldc 56, 2) := by decide +kernel
theorem dX7_right_47 : decode cX7_right 47 = .ok (.goto 7, 3) := by decide +kernel
theorem dX7_right_50 : decode cX7_right 50 = .ok (.aload_n 0, 1) := by decide +kernel
theorem dX7_right_51 : decode cX7_right 51 = .ok (.invokevirtual 211, 3) := by decide +kernel
theorem dX7_right_54 : decode cX7_right 54 = .ok (.ireturn, 1) := by decide +kernel
theorem dX7_laysIn_0 : decode cX7_laysIn 0 = .ok (.iload_n 1, 1) := by decide +kernel
theorem dX7_laysIn_1 : decode cX7_laysIn 1 = .ok (.istore_n 3, 1) := by decide +kernel
theorem dX7_laysIn_2 : decode cX7_laysIn 2 = .ok (.iload_n 3, 1) := by decide +kernel
theorem dX7_laysIn_3 : decode cX7_laysIn 3 = .ok (.ifCond .le 26, 3) := by decide +kernel
theorem dX7_laysIn_6 : decode cX7_laysIn 6 = .ok (.aload_n 0, 1) := by decide +kernel
theorem dX7_laysIn_7 : decode cX7_laysIn 7 = .ok (.iload_n 3, 1) := by decide +kernel
theorem dX7_laysIn_8 : decode cX7_laysIn 8 = .ok (.iconst 1, 1) := by decide +kernel
theorem dX7_laysIn_9 : decode cX7_laysIn 9 = .ok (.isub, 1) := by decide +kernel
theorem dX7_laysIn_10 : decode cX7_laysIn 10 = .ok (.iaload, 1) := by decide +kernel
theorem dX7_laysIn_11 : decode cX7_laysIn 11 = .ok (.iload_n 2, 1) := by decide +kernel
theorem dX7_laysIn_12 : decode cX7_laysIn 12 = .ok (.if_icmp .ge 17, 3) := by decide +kernel
theorem dX7_laysIn_15 : decode cX7_laysIn 15 = .ok (.aload_n 0, 1) := by decide +kernel
theorem dX7_laysIn_16 : decode cX7_laysIn 16 = .ok (.iload_n 3, 1) := by decide +kernel
theorem dX7_laysIn_17 : decode cX7_laysIn 17 = .ok (.aload_n 0, 1) := by decide +kernel
theorem dX7_laysIn_18 : decode cX7_laysIn 18 = .ok (.iload_n 3, 1) := by decide +kernel
theorem dX7_laysIn_19 : decode cX7_laysIn 19 = .ok (.iconst 1, 1) := by decide +kernel
theorem dX7_laysIn_20 : decode cX7_laysIn 20 = .ok (.isub, 1) := by decide +kernel
theorem dX7_laysIn_21 : decode cX7_laysIn 21 = .ok (.iaload, 1) := by decide +kernel
theorem dX7_laysIn_22 : decode cX7_laysIn 22 = .ok (.iastore, 1) := by decide +kernel
theorem dX7_laysIn_23 : decode cX7_laysIn 23 = .ok (.iinc 3 (-1), 3) := by decide +kernel
theorem dX7_laysIn_26 : decode cX7_laysIn 26 = .ok (.goto (-24), 3) := by decide +kernel
theorem dX7_laysIn_29 : decode cX7_laysIn 29 = .ok (.aload_n 0, 1) := by decide +kernel
theorem dX7_laysIn_30 : decode cX7_laysIn 30 = .ok (.iload_n 3, 1) := by decide +kernel
theorem dX7_laysIn_31 : decode cX7_laysIn 31 = .ok (.iload_n 2, 1) := by decide +kernel
theorem dX7_laysIn_32 : decode cX7_laysIn 32 = .ok (.iastore, 1) := by decide +kernel
theorem dX7_laysIn_33 : decode cX7_laysIn 33 = .ok (.return_, 1) := by decide +kernel
theorem dX7_mostOf_0 : decode cX7_mostOf 0 = .ok (.iconst 0, 1) := by decide +kernel
theorem dX7_mostOf_1 : decode cX7_mostOf 1 = .ok (.istore_n 3, 1) := by decide +kernel
theorem dX7_mostOf_2 : decode cX7_mostOf 2 = .ok (.iload_n 1, 1) := by decide +kernel
theorem dX7_mostOf_3 : decode cX7_mostOf 3 = .ok (.istore 4, 2) := by decide +kernel
theorem dX7_mostOf_5 : decode cX7_mostOf 5 = .ok (.iload 4, 2) := by decide +kernel
theorem dX7_mostOf_7 : decode cX7_mostOf 7 = .ok (.aload_n 0, 1) := by decide +kernel
theorem dX7_mostOf_8 : decode cX7_mostOf 8 = .ok (.getfield 25, 3) := by decide +kernel
theorem dX7_mostOf_11 : decode cX7_mostOf 11 = .ok (.iconst 2, 1) := by decide +kernel
theorem dX7_mostOf_12 : decode cX7_mostOf 12 = .ok (.iaload, 1) := by decide +kernel
theorem dX7_mostOf_13 : decode cX7_mostOf 13 = .ok (.if_icmp .ge 35, 3) := by decide +kernel
theorem dX7_mostOf_16 : decode cX7_mostOf 16 = .ok (.aload_n 0, 1) := by decide +kernel
theorem dX7_mostOf_17 : decode cX7_mostOf 17 = .ok (.getfield 44, 3) := by decide +kernel
theorem dX7_mostOf_20 : decode cX7_mostOf 20 = .ok (.iload_n 3, 1) := by decide +kernel
theorem dX7_mostOf_21 : decode cX7_mostOf 21 = .ok (.aload_n 0, 1) := by decide +kernel
theorem dX7_mostOf_22 : decode cX7_mostOf 22 = .ok (.getfield 25, 3) := by decide +kernel
theorem dX7_mostOf_25 : decode cX7_mostOf 25 = .ok (.bipush 22, 2) := by decide +kernel
theorem dX7_mostOf_27 : decode cX7_mostOf 27 = .ok (.bipush 6, 2) := by decide +kernel
theorem dX7_mostOf_29 : decode cX7_mostOf 29 = .ok (.iload 4, 2) := by decide +kernel
theorem dX7_mostOf_31 : decode cX7_mostOf 31 = .ok (.imul, 1) := by decide +kernel
theorem dX7_mostOf_32 : decode cX7_mostOf 32 = .ok (.iadd, 1) := by decide +kernel
theorem dX7_mostOf_33 : decode cX7_mostOf 33 = .ok (.iconst 2, 1) := by decide +kernel
theorem dX7_mostOf_34 : decode cX7_mostOf 34 = .ok (.iadd, 1) := by decide +kernel
theorem dX7_mostOf_35 : decode cX7_mostOf 35 = .ok (.iaload, 1) := by decide +kernel
theorem dX7_mostOf_36 : decode cX7_mostOf 36 = .ok (.invokestatic 215, 3) := by decide +kernel
theorem dX7_mostOf_39 : decode cX7_mostOf 39 = .ok (.iinc 3 1, 3) := by decide +kernel
theorem dX7_mostOf_42 : decode cX7_mostOf 42 = .ok (.iinc 4 1, 3) := by decide +kernel
theorem dX7_mostOf_45 : decode cX7_mostOf 45 = .ok (.goto (-40), 3) := by decide +kernel
theorem dX7_mostOf_48 : decode cX7_mostOf 48 = .ok (.iconst 0, 1) := by decide +kernel
theorem dX7_mostOf_49 : decode cX7_mostOf 49 = .ok (.istore 4, 2) := by decide +kernel
theorem dX7_mostOf_51 : decode cX7_mostOf 51 = .ok (.iconst 0, 1) := by decide +kernel
theorem dX7_mostOf_52 : decode cX7_mostOf 52 = .ok (.istore 5, 2) := by decide +kernel
theorem dX7_mostOf_54 : decode cX7_mostOf 54 = .ok (.iload 5, 2) := by decide +kernel
theorem dX7_mostOf_56 : decode cX7_mostOf 56 = .ok (.aload_n 0, 1) := by decide +kernel
theorem dX7_mostOf_57 : decode cX7_mostOf 57 = .ok (.getfield 25, 3) := by decide +kernel
theorem dX7_mostOf_60 : decode cX7_mostOf 60 = .ok (.iconst 1, 1) := by decide +kernel
theorem dX7_mostOf_61 : decode cX7_mostOf 61 = .ok (.iaload, 1) := by decide +kernel
theorem dX7_mostOf_62 : decode cX7_mostOf 62 = .ok (.if_icmp .ge 40, 3) := by decide +kernel
theorem dX7_mostOf_65 : decode cX7_mostOf 65 = .ok (.iload_n 2, 1) := by decide +kernel
theorem dX7_mostOf_66 : decode cX7_mostOf 66 = .ok (.iload 5, 2) := by decide +kernel
theorem dX7_mostOf_68 : decode cX7_mostOf 68 = .ok (.invokestatic 164, 3) := by decide +kernel
theorem dX7_mostOf_71 : decode cX7_mostOf 71 = .ok (.ifCond .eq 25, 3) := by decide +kernel
theorem dX7_mostOf_74 : decode cX7_mostOf 74 = .ok (.aload_n 0, 1) := by decide +kernel
theorem dX7_mostOf_75 : decode cX7_mostOf 75 = .ok (.getfield 47, 3) := by decide +kernel
theorem dX7_mostOf_78 : decode cX7_mostOf 78 = .ok (.iload 4, 2) := by decide +kernel
theorem dX7_mostOf_80 : decode cX7_mostOf 80 = .ok (.aload_n 0, 1) := by decide +kernel
theorem dX7_mostOf_81 : decode cX7_mostOf 81 = .ok (.getfield 25, 3) := by decide +kernel
theorem dX7_mostOf_84 : decode cX7_mostOf 84 = .ok (.bipush 6, 2) := by decide +kernel
theorem dX7_mostOf_86 : decode cX7_mostOf 86 = .ok (.iload 5, 2) := by decide +kernel
theorem dX7_mostOf_88 : decode cX7_mostOf 88 = .ok (.iadd, 1) := by decide +kernel
theorem dX7_mostOf_89 : decode cX7_mostOf 89 = .ok (.iaload, 1) := by decide +kernel
theorem dX7_mostOf_90 : decode cX7_mostOf 90 = .ok (.invokestatic 215, 3) := by decide +kernel
theorem dX7_mostOf_93 : decode cX7_mostOf 93 = .ok (.iinc 4 1, 3) := by decide +kernel
theorem dX7_mostOf_96 : decode cX7_mostOf 96 = .ok (.iinc 5 1, 3) := by decide +kernel
theorem dX7_mostOf_99 : decode cX7_mostOf 99 = .ok (.goto (-45), 3) := by decide +kernel
theorem dX7_mostOf_102 : decode cX7_mostOf 102 = .ok (.iconst 0, 1) := by decide +kernel
theorem dX7_mostOf_103 : decode cX7_mostOf 103 = .ok (.istore 5, 2) := by decide +kernel
theorem dX7_mostOf_105 : decode cX7_mostOf 105 = .ok (.iconst 0, 1) := by decide +kernel
theorem dX7_mostOf_106 : decode cX7_mostOf 106 = .ok (.istore 6, 2) := by decide +kernel
theorem dX7_mostOf_108 : decode cX7_mostOf 108 = .ok (.iload 6, 2) := by decide +kernel
theorem dX7_mostOf_110 : decode cX7_mostOf 110 = .ok (.iload_n 3, 1) := by decide +kernel
theorem dX7_mostOf_111 : decode cX7_mostOf 111 = .ok (.if_icmp .ge 29, 3) := by decide +kernel
theorem dX7_mostOf_114 : decode cX7_mostOf 114 = .ok (.iload 5, 2) := by decide +kernel
theorem dX7_mostOf_116 : decode cX7_mostOf 116 = .ok (.aload_n 0, 1) := by decide +kernel
theorem dX7_mostOf_117 : decode cX7_mostOf 117 = .ok (.getfield 44, 3) := by decide +kernel
theorem dX7_mostOf_120 : decode cX7_mostOf 120 = .ok (.iload 6, 2) := by decide +kernel
theorem dX7_mostOf_122 : decode cX7_mostOf 122 = .ok (.iaload, 1) := by decide +kernel
theorem dX7_mostOf_123 : decode cX7_mostOf 123 = .ok (.aload_n 0, 1) := by decide +kernel
theorem dX7_mostOf_124 : decode cX7_mostOf 124 = .ok (.getfield 47, 3) := by decide +kernel
theorem dX7_mostOf_127 : decode cX7_mostOf 127 = .ok (.iload 6, 2) := by decide +kernel
theorem dX7_mostOf_129 : decode cX7_mostOf 129 = .ok (.iaload, 1) := by decide +kernel
theorem dX7_mostOf_130 : decode cX7_mostOf 130 = .ok (.imul, 1) := by decide +kernel
theorem dX7_mostOf_131 : decode cX7_mostOf 131 = .ok (.iadd, 1) := by decide +kernel
theorem dX7_mostOf_132 : decode cX7_mostOf 132 = .ok (.istore 5, 2) := by decide +kernel
theorem dX7_mostOf_134 : decode cX7_mostOf 134 = .ok (.iinc 6 1, 3) := by decide +kernel
theorem dX7_mostOf_137 : decode cX7_mostOf 137 = .ok (.goto (-29), 3) := by decide +kernel
theorem dX7_mostOf_140 : decode cX7_mostOf 140 = .ok (.iload 5, 2) := by decide +kernel
theorem dX7_mostOf_142 : decode cX7_mostOf 142 = .ok (.ireturn, 1) := by decide +kernel
theorem dX7_best_0 : decode cX7_best 0 = .ok (.aload_n 0, 1) := by decide +kernel
theorem dX7_best_1 : decode cX7_best 1 = .ok (.invokevirtual 183, 3) := by decide +kernel
theorem dX7_best_4 : decode cX7_best 4 = .ok (.ifCond .ne 6, 3) := by decide +kernel
theorem dX7_best_7 : decode cX7_best 7 = .ok (.ldc 186, 2) := by decide +kernel
theorem dX7_best_9 : decode cX7_best 9 = .ok (.ireturn, 1) := by decide +kernel
theorem dX7_best_10 : decode cX7_best 10 = .ok (.iload_n 1, 1) := by decide +kernel
theorem dX7_best_11 : decode cX7_best 11 = .ok (.iconst (-1), 1) := by decide +kernel
theorem dX7_best_12 : decode cX7_best 12 = .ok (.if_icmp .eq 14, 3) := by decide +kernel
theorem dX7_best_15 : decode cX7_best 15 = .ok (.aload_n 0, 1) := by decide +kernel
theorem dX7_best_16 : decode cX7_best 16 = .ok (.iload_n 1, 1) := by decide +kernel
theorem dX7_best_17 : decode cX7_best 17 = .ok (.invokevirtual 193, 3) := by decide +kernel
theorem dX7_best_20 : decode cX7_best 20 = .ok (.ifCond .ne 6, 3) := by decide +kernel
theorem dX7_best_23 : decode cX7_best 23 = .ok (.ldc 70, 2) := by decide +kernel
theorem dX7_best_25 : decode cX7_best 25 = .ok (.ireturn, 1) := by decide +kernel
theorem dX7_best_26 : decode cX7_best 26 = .ok (.aload_n 0, 1) := by decide +kernel
theorem dX7_best_27 : decode cX7_best 27 = .ok (.getfield 25, 3) := by decide +kernel
theorem dX7_best_30 : decode cX7_best 30 = .ok (.iconst 2, 1) := by decide +kernel
theorem dX7_best_31 : decode cX7_best 31 = .ok (.iaload, 1) := by decide +kernel
theorem dX7_best_32 : decode cX7_best 32 = .ok (.aload_n 0, 1) := by decide +kernel
theorem dX7_best_33 : decode cX7_best 33 = .ok (.getfield 25, 3) := by decide +kernel
theorem dX7_best_36 : decode cX7_best 36 = .ok (.iconst 1, 1) := by decide +kernel
theorem dX7_best_37 : decode cX7_best 37 = .ok (.iaload, 1) := by decide +kernel
theorem dX7_best_38 : decode cX7_best 38 = .ok (.if_icmp .le 6, 3) := by decide +kernel
theorem dX7_best_41 : decode cX7_best 41 = .ok (.ldc 56, 2) := by decide +kernel
theorem dX7_best_43 : decode cX7_best 43 = .ok (.ireturn, 1) := by decide +kernel
theorem dX7_best_44 : decode cX7_best 44 = .ok (.iconst 1, 1) := by decide +kernel
theorem dX7_best_45 : decode cX7_best 45 = .ok (.aload_n 0, 1) := by decide +kernel
theorem dX7_best_46 : decode cX7_best 46 = .ok (.getfield 25, 3) := by decide +kernel
theorem dX7_best_49 : decode cX7_best 49 = .ok (.iconst 1, 1) := by decide +kernel
theorem dX7_best_50 : decode cX7_best 50 = .ok (.iaload, 1) := by decide +kernel
theorem dX7_best_51 : decode cX7_best 51 = .ok (.ishl, 1) := by decide +kernel
theorem dX7_best_52 : decode cX7_best 52 = .ok (.iconst 1, 1) := by decide +kernel
theorem dX7_best_53 : decode cX7_best 53 = .ok (.isub, 1) := by decide +kernel
theorem dX7_best_54 : decode cX7_best 54 = .ok (.istore_n 2, 1) := by decide +kernel
theorem dX7_best_55 : decode cX7_best 55 = .ok (.aload_n 0, 1) := by decide +kernel
theorem dX7_best_56 : decode cX7_best 56 = .ok (.iconst 0, 1) := by decide +kernel
theorem dX7_best_57 : decode cX7_best 57 = .ok (.iload_n 2, 1) := by decide +kernel
theorem dX7_best_58 : decode cX7_best 58 = .ok (.invokevirtual 218, 3) := by decide +kernel
theorem dX7_best_61 : decode cX7_best 61 = .ok (.istore_n 3, 1) := by decide +kernel
theorem dX7_best_62 : decode cX7_best 62 = .ok (.iload_n 3, 1) := by decide +kernel
theorem dX7_best_63 : decode cX7_best 63 = .ok (.istore 4, 2) := by decide +kernel
theorem dX7_best_65 : decode cX7_best 65 = .ok (.iconst 0, 1) := by decide +kernel
theorem dX7_best_66 : decode cX7_best 66 = .ok (.istore 5, 2) := by decide +kernel
theorem dX7_best_68 : decode cX7_best 68 = .ok (.iload 5, 2) := by decide +kernel
theorem dX7_best_70 : decode cX7_best 70 = .ok (.aload_n 0, 1) := by decide +kernel
theorem dX7_best_71 : decode cX7_best 71 = .ok (.getfield 25, 3) := by decide +kernel
theorem dX7_best_74 : decode cX7_best 74 = .ok (.iconst 2, 1) := by decide +kernel
theorem dX7_best_75 : decode cX7_best 75 = .ok (.iaload, 1) := by decide +kernel
theorem dX7_best_76 : decode cX7_best 76 = .ok (.if_icmp .ge 124, 3) := by decide +kernel
theorem dX7_best_79 : decode cX7_best 79 = .ok (.iconst 0, 1) := by decide +kernel
theorem dX7_best_80 : decode cX7_best 80 = .ok (.istore 6, 2) := by decide +kernel
theorem dX7_best_82 : decode cX7_best 82 = .ok (.iload_n 2, 1) := by decide +kernel
theorem dX7_best_83 : decode cX7_best 83 = .ok (.iload 6, 2) := by decide +kernel
theorem dX7_best_85 : decode cX7_best 85 = .ok (.invokestatic 164, 3) := by decide +kernel
theorem dX7_best_88 : decode cX7_best 88 = .ok (.ifCond .eq 51, 3) := by decide +kernel
theorem dX7_best_91 : decode cX7_best 91 = .ok (.aload_n 0, 1) := by decide +kernel
theorem dX7_best_92 : decode cX7_best 92 = .ok (.getfield 25, 3) := by decide +kernel
theorem dX7_best_95 : decode cX7_best 95 = .ok (.bipush 22, 2) := by decide +kernel
theorem dX7_best_97 : decode cX7_best 97 = .ok (.bipush 6, 2) := by decide +kernel
theorem dX7_best_99 : decode cX7_best 99 = .ok (.iload 5, 2) := by decide +kernel
theorem dX7_best_101 : decode cX7_best 101 = .ok (.imul, 1) := by decide +kernel
theorem dX7_best_102 : decode cX7_best 102 = .ok (.iadd, 1) := by decide +kernel
theorem dX7_best_103 : decode cX7_best 103 = .ok (.iconst 2, 1) := by decide +kernel
theorem dX7_best_104 : decode cX7_best 104 = .ok (.iadd, 1) := by decide +kernel
theorem dX7_best_105 : decode cX7_best 105 = .ok (.iaload, 1) := by decide +kernel
theorem dX7_best_106 : decode cX7_best 106 = .ok (.aload_n 0, 1) := by decide +kernel
theorem dX7_best_107 : decode cX7_best 107 = .ok (.getfield 25, 3) := by decide +kernel
theorem dX7_best_110 : decode cX7_best 110 = .ok (.bipush 6, 2) := by decide +kernel
theorem dX7_best_112 : decode cX7_best 112 = .ok (.iload 6, 2) := by decide +kernel
theorem dX7_best_114 : decode cX7_best 114 = .ok (.iadd, 1) := by decide +kernel
theorem dX7_best_115 : decode cX7_best 115 = .ok (.iaload, 1) := by decide +kernel
theorem dX7_best_116 : decode cX7_best 116 = .ok (.imul, 1) := by decide +kernel
theorem dX7_best_117 : decode cX7_best 117 = .ok (.aload_n 0, 1) := by decide +kernel
theorem dX7_best_118 : decode cX7_best 118 = .ok (.iload 5, 2) := by decide +kernel
theorem dX7_best_120 : decode cX7_best 120 = .ok (.iconst 1, 1) := by decide +kernel
theorem dX7_best_121 : decode cX7_best 121 = .ok (.iadd, 1) := by decide +kernel
theorem dX7_best_122 : decode cX7_best 122 = .ok (.iload_n 2, 1) := by decide +kernel
theorem dX7_best_123 : decode cX7_best 123 = .ok (.iconst 1, 1) := by decide +kernel
theorem dX7_best_124 : decode cX7_best 124 = .ok (.iload 6, 2) := by decide +kernel
theorem dX7_best_126 : decode cX7_best 126 = .ok (.ishl, 1) := by decide +kernel
theorem dX7_best_127 : decode cX7_best 127 = .ok (.iconst (-1), 1) := by decide +kernel
theorem dX7_best_128 : decode cX7_best 128 = .ok (.ixor, 1) := by decide +kernel
theorem dX7_best_129 : decode cX7_best 129 = .ok (.iand, 1) := by decide +kernel
theorem dX7_best_130 : decode cX7_best 130 = .ok (.invokevirtual 218, 3) := by decide +kernel
theorem dX7_best_133 : decode cX7_best 133 = .ok (.iadd, 1) := by decide +kernel
theorem dX7_best_134 : decode cX7_best 134 = .ok (.iload 4, 2) := by decide +kernel
theorem dX7_best_136 : decode cX7_best 136 = .ok (.if_icmp .ge 9, 3) := by decide +kernel
theorem dX7_best_139 : decode cX7_best 139 = .ok (.iinc 6 1, 3) := by decide +kernel
theorem dX7_best_142 : decode cX7_best 142 = .ok (.goto (-60), 3) := by decide +kernel
theorem dX7_best_145 : decode cX7_best 145 = .ok (.aload_n 0, 1) := by decide +kernel
theorem dX7_best_146 : decode cX7_best 146 = .ok (.getfield 50, 3) := by decide +kernel
theorem dX7_best_149 : decode cX7_best 149 = .ok (.iload 5, 2) := by decide +kernel
theorem dX7_best_151 : decode cX7_best 151 = .ok (.iload 6, 2) := by decide +kernel
theorem dX7_best_153 : decode cX7_best 153 = .ok (.iastore, 1) := by decide +kernel
theorem dX7_best_154 : decode cX7_best 154 = .ok (.iload_n 2, 1) := by decide +kernel
theorem dX7_best_155 : decode cX7_best 155 = .ok (.iconst 1, 1) := by decide +kernel
theorem dX7_best_156 : decode cX7_best 156 = .ok (.iload 6, 2) := by decide +kernel
theorem dX7_best_158 : decode cX7_best 158 = .ok (.ishl, 1) := by decide +kernel
theorem dX7_best_159 : decode cX7_best 159 = .ok (.iconst (-1), 1) := by decide +kernel
theorem dX7_best_160 : decode cX7_best 160 = .ok (.ixor, 1) := by decide +kernel
theorem dX7_best_161 : decode cX7_best 161 = .ok (.iand, 1) := by decide +kernel
theorem dX7_best_162 : decode cX7_best 162 = .ok (.istore_n 2, 1) := by decide +kernel
theorem dX7_best_163 : decode cX7_best 163 = .ok (.iload 4, 2) := by decide +kernel
theorem dX7_best_165 : decode cX7_best 165 = .ok (.aload_n 0, 1) := by decide +kernel
theorem dX7_best_166 : decode cX7_best 166 = .ok (.getfield 25, 3) := by decide +kernel
theorem dX7_best_169 : decode cX7_best 169 = .ok (.bipush 22, 2) := by decide +kernel
theorem dX7_best_171 : decode cX7_best 171 = .ok (.bipush 6, 2) := by decide +kernel
theorem dX7_best_173 : decode cX7_best 173 = .ok (.iload 5, 2) := by decide +kernel
theorem dX7_best_175 : decode cX7_best 175 = .ok (.imul, 1) := by decide +kernel
theorem dX7_best_176 : decode cX7_best 176 = .ok (.iadd, 1) := by decide +kernel
theorem dX7_best_177 : decode cX7_best 177 = .ok (.iconst 2, 1) := by decide +kernel
theorem dX7_best_178 : decode cX7_best 178 = .ok (.iadd, 1) := by decide +kernel
theorem dX7_best_179 : decode cX7_best 179 = .ok (.iaload, 1) := by decide +kernel
theorem dX7_best_180 : decode cX7_best 180 = .ok (.aload_n 0, 1) := by decide +kernel
theorem dX7_best_181 : decode cX7_best 181 = .ok (.getfield 25, 3) := by decide +kernel
theorem dX7_best_184 : decode cX7_best 184 = .ok (.bipush 6, 2) := by decide +kernel
theorem dX7_best_186 : decode cX7_best 186 = .ok (.iload 6, 2) := by decide +kernel
theorem dX7_best_188 : decode cX7_best 188 = .ok (.iadd, 1) := by decide +kernel
theorem dX7_best_189 : decode cX7_best 189 = .ok (.iaload, 1) := by decide +kernel
theorem dX7_best_190 : decode cX7_best 190 = .ok (.imul, 1) := by decide +kernel
theorem dX7_best_191 : decode cX7_best 191 = .ok (.isub, 1) := by decide +kernel
theorem dX7_best_192 : decode cX7_best 192 = .ok (.istore 4, 2) := by decide +kernel
theorem dX7_best_194 : decode cX7_best 194 = .ok (.iinc 5 1, 3) := by decide +kernel
theorem dX7_best_197 : decode cX7_best 197 = .ok (.goto (-129), 3) := by decide +kernel
theorem dX7_best_200 : decode cX7_best 200 = .ok (.iload_n 1, 1) := by decide +kernel
theorem dX7_best_201 : decode cX7_best 201 = .ok (.iconst (-1), 1) := by decide +kernel
theorem dX7_best_202 : decode cX7_best 202 = .ok (.if_icmp .ne 7, 3) := by decide +kernel
theorem dX7_best_205 : decode cX7_best 205 = .ok (.iload_n 3, 1) := by decide +kernel
theorem dX7_best_206 : decode cX7_best 206 = .ok (.goto 9, 3) := by decide +kernel
theorem dX7_best_209 : decode cX7_best 209 = .ok (.aload_n 0, 1) := by decide +kernel
theorem dX7_best_210 : decode cX7_best 210 = .ok (.getfield 50, 3) := by decide +kernel
theorem dX7_best_213 : decode cX7_best 213 = .ok (.iload_n 1, 1) := by decide +kernel
theorem dX7_best_214 : decode cX7_best 214 = .ok (.iaload, 1) := by decide +kernel
theorem dX7_best_215 : decode cX7_best 215 = .ok (.ireturn, 1) := by decide +kernel
theorem dX7_toOpening_0 : decode cX7_toOpening 0 = .ok (.aload_n 0, 1) := by decide +kernel
theorem dX7_toOpening_1 : decode cX7_toOpening 1 = .ok (.getfield 31, 3) := by decide +kernel
theorem dX7_toOpening_4 : decode cX7_toOpening 4 = .ok (.iconst 4, 1) := by decide +kernel
theorem dX7_toOpening_5 : decode cX7_toOpening 5 = .ok (.iaload, 1) := by decide +kernel
theorem dX7_toOpening_6 : decode cX7_toOpening 6 = .ok (.iconst 1, 1) := by decide +kernel
theorem dX7_toOpening_7 : decode cX7_toOpening 7 = .ok (.if_icmp .ne 10, 3) := by decide +kernel
theorem dX7_toOpening_10 : decode cX7_toOpening 10 = .ok (.aload_n 0, 1) := by decide +kernel
theorem dX7_toOpening_11 : decode cX7_toOpening 11 = .ok (.getfield 31, 3) := by decide +kernel
theorem dX7_toOpening_14 : decode cX7_toOpening 14 = .ok (.invokestatic 190, 3) := by decide +kernel
theorem dX7_toOpening_17 : decode cX7_toOpening 17 = .ok (.aload_n 0, 1) := by decide +kernel
theorem dX7_toOpening_18 : decode cX7_toOpening 18 = .ok (.getfield 31, 3) := by decide +kernel
theorem dX7_toOpening_21 : decode cX7_toOpening 21 = .ok (.invokestatic 190, 3) := by decide +kernel
theorem dX7_toOpening_24 : decode cX7_toOpening 24 = .ok (.return_, 1) := by decide +kernel
theorem dX7_isSeen_0 : decode cX7_isSeen 0 = .ok (.iconst 1, 1) := by decide +kernel
theorem dX7_isSeen_1 : decode cX7_isSeen 1 = .ok (.istore 4, 2) := by decide +kernel
theorem dX7_isSeen_3 : decode cX7_isSeen 3 = .ok (.iconst 0, 1) := by decide +kernel
theorem dX7_isSeen_4 : decode cX7_isSeen 4 = .ok (.istore 5, 2) := by decide +kernel
theorem dX7_isSeen_6 : decode cX7_isSeen 6 = .ok (.iload 5, 2) := by decide +kernel
theorem dX7_isSeen_8 : decode cX7_isSeen 8 = .ok (.iload_n 3, 1) := by decide +kernel
theorem dX7_isSeen_9 : decode cX7_isSeen 9 = .ok (.if_icmp .ge 51, 3) := by decide +kernel
theorem dX7_isSeen_12 : decode cX7_isSeen 12 = .ok (.aload_n 0, 1) := by decide +kernel
theorem dX7_isSeen_13 : decode cX7_isSeen 13 = .ok (.invokevirtual 221, 3) := by decide +kernel
theorem dX7_isSeen_16 : decode cX7_isSeen 16 = .ok (.iload 4, 2) := by decide +kernel
theorem dX7_isSeen_18 : decode cX7_isSeen 18 = .ok (.ifCond .eq 33, 3) := by decide +kernel
theorem dX7_isSeen_21 : decode cX7_isSeen 21 = .ok (.aload_n 0, 1) := by decide +kernel
theorem dX7_isSeen_22 : decode cX7_isSeen 22 = .ok (.getfield 31, 3) := by decide +kernel
theorem dX7_isSeen_25 : decode cX7_isSeen 25 = .ok (.bipush 22, 2) := by decide +kernel
theorem dX7_isSeen_27 : decode cX7_isSeen 27 = .ok (.bipush 6, 2) := by decide +kernel
theorem dX7_isSeen_29 : decode cX7_isSeen 29 = .ok (.iload_n 1, 1) := by decide +kernel
theorem dX7_isSeen_30 : decode cX7_isSeen 30 = .ok (.imul, 1) := by decide +kernel
theorem dX7_isSeen_31 : decode cX7_isSeen 31 = .ok (.iadd, 1) := by decide +kernel
theorem dX7_isSeen_32 : decode cX7_isSeen 32 = .ok (.iconst 4, 1) := by decide +kernel
theorem dX7_isSeen_33 : decode cX7_isSeen 33 = .ok (.iadd, 1) := by decide +kernel
theorem dX7_isSeen_34 : decode cX7_isSeen 34 = .ok (.iaload, 1) := by decide +kernel
theorem dX7_isSeen_35 : decode cX7_isSeen 35 = .ok (.aload_n 0, 1) := by decide +kernel
theorem dX7_isSeen_36 : decode cX7_isSeen 36 = .ok (.getfield 16, 3) := by decide +kernel
theorem dX7_isSeen_39 : decode cX7_isSeen 39 = .ok (.iload_n 2, 1) := by decide +kernel
theorem dX7_isSeen_40 : decode cX7_isSeen 40 = .ok (.iload 5, 2) := by decide +kernel
theorem dX7_isSeen_42 : decode cX7_isSeen 42 = .ok (.iadd, 1) := by decide +kernel
theorem dX7_isSeen_43 : decode cX7_isSeen 43 = .ok (.iaload, 1) := by decide +kernel
theorem dX7_isSeen_44 : decode cX7_isSeen 44 = .ok (.if_icmp .ne 7, 3) := by decide +kernel
theorem dX7_isSeen_47 : decode cX7_isSeen 47 = .ok (.iconst 1, 1) := by decide +kernel
theorem dX7_isSeen_48 : decode cX7_isSeen 48 = .ok (.goto 4, 3) := by decide +kernel
theorem dX7_isSeen_51 : decode cX7_isSeen 51 = .ok (.iconst 0, 1) := by decide +kernel
theorem dX7_isSeen_52 : decode cX7_isSeen 52 = .ok (.istore 4, 2) := by decide +kernel
theorem dX7_isSeen_54 : decode cX7_isSeen 54 = .ok (.iinc 5 1, 3) := by decide +kernel
theorem dX7_isSeen_57 : decode cX7_isSeen 57 = .ok (.goto (-51), 3) := by decide +kernel
theorem dX7_isSeen_60 : decode cX7_isSeen 60 = .ok (.iload 4, 2) := by decide +kernel
theorem dX7_isSeen_62 : decode cX7_isSeen 62 = .ok (.ireturn, 1) := by decide +kernel
theorem dX7_triesBy_0 : decode cX7_triesBy 0 = .ok (.bipush 22, 2) := by decide +kernel
theorem dX7_triesBy_2 : decode cX7_triesBy 2 = .ok (.bipush 6, 2) := by decide +kernel
theorem dX7_triesBy_4 : decode cX7_triesBy 4 = .ok (.iload_n 1, 1) := by decide +kernel
theorem dX7_triesBy_5 : decode cX7_triesBy 5 = .ok (.imul, 1) := by decide +kernel
theorem dX7_triesBy_6 : decode cX7_triesBy 6 = .ok (.iadd, 1) := by decide +kernel
theorem dX7_triesBy_7 : decode cX7_triesBy 7 = .ok (.istore 4, 2) := by decide +kernel
theorem dX7_triesBy_9 : decode cX7_triesBy 9 = .ok (.aload_n 0, 1) := by decide +kernel
theorem dX7_triesBy_10 : decode cX7_triesBy 10 = .ok (.getfield 25, 3) := by decide +kernel
theorem dX7_triesBy_13 : decode cX7_triesBy 13 = .ok (.iconst 0, 1) := by decide +kernel
theorem dX7_triesBy_14 : decode cX7_triesBy 14 = .ok (.aload_n 0, 1) := by decide +kernel
theorem dX7_triesBy_15 : decode cX7_triesBy 15 = .ok (.getfield 31, 3) := by decide +kernel
theorem dX7_triesBy_18 : decode cX7_triesBy 18 = .ok (.iconst 0, 1) := by decide +kernel
theorem dX7_triesBy_19 : decode cX7_triesBy 19 = .ok (.invokestatic 151, 3) := by decide +kernel
theorem dX7_triesBy_22 : decode cX7_triesBy 22 = .ok (.iload_n 2, 1) := by decide +kernel
theorem dX7_triesBy_23 : decode cX7_triesBy 23 = .ok (.tableswitch 97 0 2 #[25, 74, 84], 25) := by decide +kernel
theorem dX7_triesBy_48 : decode cX7_triesBy 48 = .ok (.aload_n 0, 1) := by decide +kernel
theorem dX7_triesBy_49 : decode cX7_triesBy 49 = .ok (.getfield 31, 3) := by decide +kernel
theorem dX7_triesBy_52 : decode cX7_triesBy 52 = .ok (.iload 4, 2) := by decide +kernel
theorem dX7_triesBy_54 : decode cX7_triesBy 54 = .ok (.iload_n 3, 1) := by decide +kernel
theorem dX7_triesBy_55 : decode cX7_triesBy 55 = .ok (.iastore, 1) := by decide +kernel
theorem dX7_triesBy_56 : decode cX7_triesBy 56 = .ok (.aload_n 0, 1) := by decide +kernel
theorem dX7_triesBy_57 : decode cX7_triesBy 57 = .ok (.getfield 31, 3) := by decide +kernel
theorem dX7_triesBy_60 : decode cX7_triesBy 60 = .ok (.iload 4, 2) := by decide +kernel
theorem dX7_triesBy_62 : decode cX7_triesBy 62 = .ok (.iconst 4, 1) := by decide +kernel
theorem dX7_triesBy_63 : decode cX7_triesBy 63 = .ok (.iadd, 1) := by decide +kernel
theorem dX7_triesBy_64 : decode cX7_triesBy 64 = .ok (.aload_n 0, 1) := by decide +kernel
theorem dX7_triesBy_65 : decode cX7_triesBy 65 = .ok (.getfield 31, 3) := by decide +kernel
theorem dX7_triesBy_68 : decode cX7_triesBy 68 = .ok (.iconst 4, 1) := by decide +kernel
theorem dX7_triesBy_69 : decode cX7_triesBy 69 = .ok (.iaload, 1) := by decide +kernel
theorem dX7_triesBy_70 : decode cX7_triesBy 70 = .ok (.iconst 1, 1) := by decide +kernel
theorem dX7_triesBy_71 : decode cX7_triesBy 71 = .ok (.if_icmp .eq 8, 3) := by decide +kernel
theorem dX7_triesBy_74 : decode cX7_triesBy 74 = .ok (.iload_n 3, 1) := by decide +kernel
theorem dX7_triesBy_75 : decode cX7_triesBy 75 = .ok (.iconst 5, 1) := by decide +kernel
theorem dX7_triesBy_76 : decode cX7_triesBy 76 = .ok (.if_icmp .ne 15, 3) := by decide +kernel
theorem dX7_triesBy_79 : decode cX7_triesBy 79 = .ok (.aload_n 0, 1) := by decide +kernel
theorem dX7_triesBy_80 : decode cX7_triesBy 80 = .ok (.getfield 31, 3) := by decide +kernel
theorem dX7_triesBy_83 : decode cX7_triesBy 83 = .ok (.iload 4, 2) := by decide +kernel
theorem dX7_triesBy_85 : decode cX7_triesBy 85 = .ok (.iconst 5, 1) := by decide +kernel
theorem dX7_triesBy_86 : decode cX7_triesBy 86 = .ok (.iadd, 1) := by decide +kernel
theorem dX7_triesBy_87 : decode cX7_triesBy 87 = .ok (.iaload, 1) := by decide +kernel
theorem dX7_triesBy_88 : decode cX7_triesBy 88 = .ok (.goto 5, 3) := by decide +kernel
theorem dX7_triesBy_91 : decode cX7_triesBy 91 = .ok (.ldc 56, 2) := by decide +kernel
theorem dX7_triesBy_93 : decode cX7_triesBy 93 = .ok (.iastore, 1) := by decide +kernel
theorem dX7_triesBy_94 : decode cX7_triesBy 94 = .ok (.goto 65, 3) := by decide +kernel
theorem dX7_triesBy_97 : decode cX7_triesBy 97 = .ok (.aload_n 0, 1) := by decide +kernel
theorem dX7_triesBy_98 : decode cX7_triesBy 98 = .ok (.getfield 31, 3) := by decide +kernel
theorem dX7_triesBy_101 : decode cX7_triesBy 101 = .ok (.iconst 0, 1) := by decide +kernel
theorem dX7_triesBy_102 : decode cX7_triesBy 102 = .ok (.iload_n 3, 1) := by decide +kernel
theorem dX7_triesBy_103 : decode cX7_triesBy 103 = .ok (.iastore, 1) := by decide +kernel
theorem dX7_triesBy_104 : decode cX7_triesBy 104 = .ok (.goto 55, 3) := by decide +kernel
theorem dX7_triesBy_107 : decode cX7_triesBy 107 = .ok (.aload_n 0, 1) := by decide +kernel
theorem dX7_triesBy_108 : decode cX7_triesBy 108 = .ok (.getfield 31, 3) := by decide +kernel
theorem dX7_triesBy_111 : decode cX7_triesBy 111 = .ok (.iload 4, 2) := by decide +kernel
theorem dX7_triesBy_113 : decode cX7_triesBy 113 = .ok (.iconst 1, 1) := by decide +kernel
theorem dX7_triesBy_114 : decode cX7_triesBy 114 = .ok (.iadd, 1) := by decide +kernel
theorem dX7_triesBy_115 : decode cX7_triesBy 115 = .ok (.iload_n 3, 1) := by decide +kernel
theorem dX7_triesBy_116 : decode cX7_triesBy 116 = .ok (.iastore, 1) := by decide +kernel
theorem dX7_triesBy_117 : decode cX7_triesBy 117 = .ok (.goto 42, 3) := by decide +kernel
theorem dX7_triesBy_120 : decode cX7_triesBy 120 = .ok (.aload_n 0, 1) := by decide +kernel
theorem dX7_triesBy_121 : decode cX7_triesBy 121 = .ok (.getfield 31, 3) := by decide +kernel
theorem dX7_triesBy_124 : decode cX7_triesBy 124 = .ok (.iload 4, 2) := by decide +kernel
theorem dX7_triesBy_126 : decode cX7_triesBy 126 = .ok (.iconst 5, 1) := by decide +kernel
theorem dX7_triesBy_127 : decode cX7_triesBy 127 = .ok (.iadd, 1) := by decide +kernel
theorem dX7_triesBy_128 : decode cX7_triesBy 128 = .ok (.iload_n 3, 1) := by decide +kernel
theorem dX7_triesBy_129 : decode cX7_triesBy 129 = .ok (.iastore, 1) := by decide +kernel
theorem dX7_triesBy_130 : decode cX7_triesBy 130 = .ok (.aload_n 0, 1) := by decide +kernel
theorem dX7_triesBy_131 : decode cX7_triesBy 131 = .ok (.getfield 31, 3) := by decide +kernel
theorem dX7_triesBy_134 : decode cX7_triesBy 134 = .ok (.iload 4, 2) := by decide +kernel
theorem dX7_triesBy_136 : decode cX7_triesBy 136 = .ok (.iconst 4, 1) := by decide +kernel
theorem dX7_triesBy_137 : decode cX7_triesBy 137 = .ok (.iadd, 1) := by decide +kernel
theorem dX7_triesBy_138 : decode cX7_triesBy 138 = .ok (.aload_n 0, 1) := by decide +kernel
theorem dX7_triesBy_139 : decode cX7_triesBy 139 = .ok (.getfield 31, 3) := by decide +kernel
theorem dX7_triesBy_142 : decode cX7_triesBy 142 = .ok (.iload 4, 2) := by decide +kernel
theorem dX7_triesBy_144 : decode cX7_triesBy 144 = .ok (.iconst 4, 1) := by decide +kernel
theorem dX7_triesBy_145 : decode cX7_triesBy 145 = .ok (.iadd, 1) := by decide +kernel
theorem dX7_triesBy_146 : decode cX7_triesBy 146 = .ok (.iaload, 1) := by decide +kernel
theorem dX7_triesBy_147 : decode cX7_triesBy 147 = .ok (.ldc 56, 2) := by decide +kernel
theorem dX7_triesBy_149 : decode cX7_triesBy 149 = .ok (.if_icmp .ne 8, 3) := by decide +kernel
theorem dX7_triesBy_152 : decode cX7_triesBy 152 = .ok (.ldc 56, 2) := by decide +kernel
theorem dX7_triesBy_154 : decode cX7_triesBy 154 = .ok (.goto 4, 3) := by decide +kernel
theorem dX7_triesBy_157 : decode cX7_triesBy 157 = .ok (.iload_n 3, 1) := by decide +kernel
theorem dX7_triesBy_158 : decode cX7_triesBy 158 = .ok (.iastore, 1) := by decide +kernel
theorem dX7_triesBy_159 : decode cX7_triesBy 159 = .ok (.return_, 1) := by decide +kernel
theorem dX7_fits_0 : decode cX7_fits 0 = .ok (.aload_n 0, 1) := by decide +kernel
theorem dX7_fits_1 : decode cX7_fits 1 = .ok (.iload_n 1, 1) := by decide +kernel
theorem dX7_fits_2 : decode cX7_fits 2 = .ok (.invokevirtual 193, 3) := by decide +kernel
theorem dX7_fits_5 : decode cX7_fits 5 = .ok (.ifCond .eq 31, 3) := by decide +kernel
theorem dX7_fits_8 : decode cX7_fits 8 = .ok (.iload_n 2, 1) := by decide +kernel
theorem dX7_fits_9 : decode cX7_fits 9 = .ok (.invokestatic 66, 3) := by decide +kernel
theorem dX7_fits_12 : decode cX7_fits 12 = .ok (.ifCond .eq 24, 3) := by decide +kernel
theorem dX7_fits_15 : decode cX7_fits 15 = .ok (.iload 4, 2) := by decide +kernel
theorem dX7_fits_17 : decode cX7_fits 17 = .ok (.iconst 1, 1) := by decide +kernel
theorem dX7_fits_18 : decode cX7_fits 18 = .ok (.bipush 12, 2) := by decide +kernel
theorem dX7_fits_20 : decode cX7_fits 20 = .ok (.invokestatic 62, 3) := by decide +kernel
theorem dX7_fits_23 : decode cX7_fits 23 = .ok (.ifCond .eq 13, 3) := by decide +kernel
theorem dX7_fits_26 : decode cX7_fits 26 = .ok (.iload 5, 2) := by decide +kernel
theorem dX7_fits_28 : decode cX7_fits 28 = .ok (.iconst 0, 1) := by decide +kernel
theorem dX7_fits_29 : decode cX7_fits 29 = .ok (.iconst 3, 1) := by decide +kernel
theorem dX7_fits_30 : decode cX7_fits 30 = .ok (.invokestatic 62, 3) := by decide +kernel
theorem dX7_fits_33 : decode cX7_fits 33 = .ok (.ifCond .ne 6, 3) := by decide +kernel
theorem dX7_fits_36 : decode cX7_fits 36 = .ok (.ldc 70, 2) := by decide +kernel
theorem dX7_fits_38 : decode cX7_fits 38 = .ok (.ireturn, 1) := by decide +kernel
theorem dX7_fits_39 : decode cX7_fits 39 = .ok (.aload_n 0, 1) := by decide +kernel
theorem dX7_fits_40 : decode cX7_fits 40 = .ok (.iload_n 2, 1) := by decide +kernel
theorem dX7_fits_41 : decode cX7_fits 41 = .ok (.invokevirtual 78, 3) := by decide +kernel
theorem dX7_fits_44 : decode cX7_fits 44 = .ok (.ifCond .eq 9, 3) := by decide +kernel
theorem dX7_fits_47 : decode cX7_fits 47 = .ok (.aload_n 0, 1) := by decide +kernel
theorem dX7_fits_48 : decode cX7_fits 48 = .ok (.iconst 1, 1) := by decide +kernel
theorem dX7_fits_49 : decode cX7_fits 49 = .ok (.invokevirtual 71, 3) := by decide +kernel
theorem dX7_fits_52 : decode cX7_fits 52 = .ok (.ireturn, 1) := by decide +kernel
theorem dX7_fits_53 : decode cX7_fits 53 = .ok (.aload_n 0, 1) := by decide +kernel
theorem dX7_fits_54 : decode cX7_fits 54 = .ok (.iload_n 2, 1) := by decide +kernel
theorem dX7_fits_55 : decode cX7_fits 55 = .ok (.iload_n 3, 1) := by decide +kernel
theorem dX7_fits_56 : decode cX7_fits 56 = .ok (.iload 4, 2) := by decide +kernel
theorem dX7_fits_58 : decode cX7_fits 58 = .ok (.invokevirtual 85, 3) := by decide +kernel
theorem dX7_fits_61 : decode cX7_fits 61 = .ok (.ifCond .ne 9, 3) := by decide +kernel
theorem dX7_fits_64 : decode cX7_fits 64 = .ok (.aload_n 0, 1) := by decide +kernel
theorem dX7_fits_65 : decode cX7_fits 65 = .ok (.iconst 2, 1) := by decide +kernel
theorem dX7_fits_66 : decode cX7_fits 66 = .ok (.invokevirtual 71, 3) := by decide +kernel
theorem dX7_fits_69 : decode cX7_fits 69 = .ok (.ireturn, 1) := by decide +kernel
theorem dX7_fits_70 : decode cX7_fits 70 = .ok (.iconst 0, 1) := by decide +kernel
theorem dX7_fits_71 : decode cX7_fits 71 = .ok (.istore 6, 2) := by decide +kernel
theorem dX7_fits_73 : decode cX7_fits 73 = .ok (.iload 5, 2) := by decide +kernel
theorem dX7_fits_75 : decode cX7_fits 75 = .ok (.ifCond .ne 7, 3) := by decide +kernel
theorem dX7_fits_78 : decode cX7_fits 78 = .ok (.iconst 1, 1) := by decide +kernel
theorem dX7_fits_79 : decode cX7_fits 79 = .ok (.goto 4, 3) := by decide +kernel
theorem dX7_fits_82 : decode cX7_fits 82 = .ok (.iconst 0, 1) := by decide +kernel
theorem dX7_fits_83 : decode cX7_fits 83 = .ok (.istore 7, 2) := by decide +kernel
theorem dX7_fits_85 : decode cX7_fits 85 = .ok (.iload 7, 2) := by decide +kernel
theorem dX7_fits_87 : decode cX7_fits 87 = .ok (.iload 5, 2) := by decide +kernel
theorem dX7_fits_89 : decode cX7_fits 89 = .ok (.ifCond .ne 7, 3) := by decide +kernel
theorem dX7_fits_92 : decode cX7_fits 92 = .ok (.iconst 5, 1) := by decide +kernel
theorem dX7_fits_93 : decode cX7_fits 93 = .ok (.goto 22, 3) := by decide +kernel
theorem dX7_fits_96 : decode cX7_fits 96 = .ok (.iload 5, 2) := by decide +kernel
theorem dX7_fits_98 : decode cX7_fits 98 = .ok (.iconst 1, 1) := by decide +kernel
theorem dX7_fits_99 : decode cX7_fits 99 = .ok (.if_icmp .ne 8, 3) := by decide +kernel
theorem dX7_fits_102 : decode cX7_fits 102 = .ok (.bipush 15, 2) := by decide +kernel
theorem dX7_fits_104 : decode cX7_fits 104 = .ok (.goto 11, 3) := by decide +kernel
theorem dX7_fits_107 : decode cX7_fits 107 = .ok (.aload_n 0, 1) := by decide +kernel
theorem dX7_fits_108 : decode cX7_fits 108 = .ok (.getfield 25, 3) := by decide +kernel
theorem dX7_fits_111 : decode cX7_fits 111 = .ok (.iconst 1, 1) := by decide +kernel
theorem dX7_fits_112 : decode cX7_fits 112 = .ok (.iaload, 1) := by decide +kernel
theorem dX7_fits_113 : decode cX7_fits 113 = .ok (.iconst 1, 1) := by decide +kernel
theorem dX7_fits_114 : decode cX7_fits 114 = .ok (.isub, 1) := by decide +kernel
theorem dX7_fits_115 : decode cX7_fits 115 = .ok (.if_icmp .gt 47, 3) := by decide +kernel
theorem dX7_fits_118 : decode cX7_fits 118 = .ok (.aload_n 0, 1) := by decide +kernel
theorem dX7_fits_119 : decode cX7_fits 119 = .ok (.iload_n 1, 1) := by decide +kernel
theorem dX7_fits_120 : decode cX7_fits 120 = .ok (.iload 5, 2) := by decide +kernel
theorem dX7_fits_122 : decode cX7_fits 122 = .ok (.iload 7, 2) := by decide +kernel
theorem dX7_fits_124 : decode cX7_fits 124 = .ok (.invokevirtual 224, 3) := by decide +kernel
theorem dX7_fits_127 : decode cX7_fits 127 = .ok (.iload 6, 2) := by decide +kernel
theorem dX7_fits_129 : decode cX7_fits 129 = .ok (.aload_n 0, 1) := by decide +kernel
theorem dX7_fits_130 : decode cX7_fits 130 = .ok (.iload_n 1, 1) := by decide +kernel
theorem dX7_fits_131 : decode cX7_fits 131 = .ok (.bipush 40, 2) := by decide +kernel
theorem dX7_fits_133 : decode cX7_fits 133 = .ok (.iload_n 2, 1) := by decide +kernel
theorem dX7_fits_134 : decode cX7_fits 134 = .ok (.imul, 1) := by decide +kernel
theorem dX7_fits_135 : decode cX7_fits 135 = .ok (.iload_n 3, 1) := by decide +kernel
theorem dX7_fits_136 : decode cX7_fits 136 = .ok (.iadd, 1) := by decide +kernel
theorem dX7_fits_137 : decode cX7_fits 137 = .ok (.iload 4, 2) := by decide +kernel
theorem dX7_fits_139 : decode cX7_fits 139 = .ok (.invokevirtual 228, 3) := by decide +kernel
theorem dX7_fits_142 : decode cX7_fits 142 = .ok (.ifCond .eq 10, 3) := by decide +kernel
theorem dX7_fits_145 : decode cX7_fits 145 = .ok (.iconst 1, 1) := by decide +kernel
theorem dX7_fits_146 : decode cX7_fits 146 = .ok (.iload 7, 2) := by decide +kernel
theorem dX7_fits_148 : decode cX7_fits 148 = .ok (.ishl, 1) := by decide +kernel
theorem dX7_fits_149 : decode cX7_fits 149 = .ok (.goto 4, 3) := by decide +kernel
theorem dX7_fits_152 : decode cX7_fits 152 = .ok (.iconst 0, 1) := by decide +kernel
theorem dX7_fits_153 : decode cX7_fits 153 = .ok (.ior, 1) := by decide +kernel
theorem dX7_fits_154 : decode cX7_fits 154 = .ok (.istore 6, 2) := by decide +kernel
theorem dX7_fits_156 : decode cX7_fits 156 = .ok (.iinc 7 1, 3) := by decide +kernel
theorem dX7_fits_159 : decode cX7_fits 159 = .ok (.goto (-74), 3) := by decide +kernel
theorem dX7_fits_162 : decode cX7_fits 162 = .ok (.aload_n 0, 1) := by decide +kernel
theorem dX7_fits_163 : decode cX7_fits 163 = .ok (.iload 6, 2) := by decide +kernel
theorem dX7_fits_165 : decode cX7_fits 165 = .ok (.invokevirtual 75, 3) := by decide +kernel
theorem dX7_fits_168 : decode cX7_fits 168 = .ok (.ireturn, 1) := by decide +kernel
theorem dX7_left_0 : decode cX7_left 0 = .ok (.aload_n 0, 1) := by decide +kernel
theorem dX7_left_1 : decode cX7_left 1 = .ok (.iload_n 1, 1) := by decide +kernel
theorem dX7_left_2 : decode cX7_left 2 = .ok (.invokevirtual 196, 3) := by decide +kernel
theorem dX7_left_5 : decode cX7_left 5 = .ok (.ifCond .eq 22, 3) := by decide +kernel
theorem dX7_left_8 : decode cX7_left 8 = .ok (.iload_n 2, 1) := by decide +kernel
theorem dX7_left_9 : decode cX7_left 9 = .ok (.iconst 0, 1) := by decide +kernel
theorem dX7_left_10 : decode cX7_left 10 = .ok (.bipush 10, 2) := by decide +kernel
theorem dX7_left_12 : decode cX7_left 12 = .ok (.invokestatic 62, 3) := by decide +kernel
theorem dX7_left_15 : decode cX7_left 15 = .ok (.ifCond .eq 12, 3) := by decide +kernel
theorem dX7_left_18 : decode cX7_left 18 = .ok (.iload_n 3, 1) := by decide +kernel
theorem dX7_left_19 : decode cX7_left 19 = .ok (.iconst 0, 1) := by decide +kernel
theorem dX7_left_20 : decode cX7_left 20 = .ok (.iconst 1, 1) := by decide +kernel
theorem dX7_left_21 : decode cX7_left 21 = .ok (.invokestatic 62, 3) := by decide +kernel
theorem dX7_left_24 : decode cX7_left 24 = .ok (.ifCond .ne 6, 3) := by decide +kernel
theorem dX7_left_27 : decode cX7_left 27 = .ok (.ldc 70, 2) := by decide +kernel
theorem dX7_left_29 : decode cX7_left 29 = .ok (.ireturn, 1) := by decide +kernel
theorem dX7_left_30 : decode cX7_left 30 = .ok (.aload_n 0, 1) := by decide +kernel
theorem dX7_left_31 : decode cX7_left 31 = .ok (.getfield 25, 3) := by decide +kernel
theorem dX7_left_34 : decode cX7_left 34 = .ok (.iconst 0, 1) := by decide +kernel
theorem dX7_left_35 : decode cX7_left 35 = .ok (.aload_n 0, 1) := by decide +kernel
theorem dX7_left_36 : decode cX7_left 36 = .ok (.getfield 31, 3) := by decide +kernel
theorem dX7_left_39 : decode cX7_left 39 = .ok (.iconst 0, 1) := by decide +kernel
theorem dX7_left_40 : decode cX7_left 40 = .ok (.invokestatic 151, 3) := by decide +kernel
theorem dX7_left_43 : decode cX7_left 43 = .ok (.aload_n 0, 1) := by decide +kernel
theorem dX7_left_44 : decode cX7_left 44 = .ok (.getfield 25, 3) := by decide +kernel
theorem dX7_left_47 : decode cX7_left 47 = .ok (.iconst 4, 1) := by decide +kernel
theorem dX7_left_48 : decode cX7_left 48 = .ok (.iaload, 1) := by decide +kernel
theorem dX7_left_49 : decode cX7_left 49 = .ok (.iconst 1, 1) := by decide +kernel
theorem dX7_left_50 : decode cX7_left 50 = .ok (.if_icmp .ne 10, 3) := by decide +kernel
theorem dX7_left_53 : decode cX7_left 53 = .ok (.aload_n 0, 1) := by decide +kernel
theorem dX7_left_54 : decode cX7_left 54 = .ok (.getfield 31, 3) := by decide +kernel
theorem dX7_left_57 : decode cX7_left 57 = .ok (.invokestatic 176, 3) := by decide +kernel
theorem dX7_left_60 : decode cX7_left 60 = .ok (.aload_n 0, 1) := by decide +kernel
theorem dX7_left_61 : decode cX7_left 61 = .ok (.getfield 31, 3) := by decide +kernel
theorem dX7_left_64 : decode cX7_left 64 = .ok (.invokestatic 231, 3) := by decide +kernel
theorem dX7_left_67 : decode cX7_left 67 = .ok (.istore 4, 2) := by decide +kernel
theorem dX7_left_69 : decode cX7_left 69 = .ok (.iconst 0, 1) := by decide +kernel
theorem dX7_left_70 : decode cX7_left 70 = .ok (.istore 5, 2) := by decide +kernel
theorem dX7_left_72 : decode cX7_left 72 = .ok (.iconst 1, 1) := by decide +kernel
theorem dX7_left_73 : decode cX7_left 73 = .ok (.istore 6, 2) := by decide +kernel
theorem dX7_left_75 : decode cX7_left 75 = .ok (.iconst 0, 1) := by decide +kernel
theorem dX7_left_76 : decode cX7_left 76 = .ok (.istore 7, 2) := by decide +kernel
theorem dX7_left_78 : decode cX7_left 78 = .ok (.iload 7, 2) := by decide +kernel
theorem dX7_left_80 : decode cX7_left 80 = .ok (.iload 4, 2) := by decide +kernel
theorem dX7_left_82 : decode cX7_left 82 = .ok (.invokestatic 172, 3) := by decide +kernel
theorem dX7_left_85 : decode cX7_left 85 = .ok (.if_icmp .ge 16, 3) := by decide +kernel
theorem dX7_left_88 : decode cX7_left 88 = .ok (.iload 6, 2) := by decide +kernel
theorem dX7_left_90 : decode cX7_left 90 = .ok (.bipush 10, 2) := by decide +kernel
theorem dX7_left_92 : decode cX7_left 92 = .ok (.imul, 1) := by decide +kernel
theorem dX7_left_93 : decode cX7_left 93 = .ok (.istore 6, 2) := by decide +kernel
theorem dX7_left_95 : decode cX7_left 95 = .ok (.iinc 7 1, 3) := by decide +kernel
theorem dX7_left_98 : decode cX7_left 98 = .ok (.goto (-20), 3) := by decide +kernel
theorem dX7_left_101 : decode cX7_left 101 = .ok (.iconst 0, 1) := by decide +kernel
theorem dX7_left_102 : decode cX7_left 102 = .ok (.istore 7, 2) := by decide +kernel
theorem dX7_left_104 : decode cX7_left 104 = .ok (.iload 7, 2) := by decide +kernel
theorem dX7_left_106 : decode cX7_left 106 = .ok (.iload 4, 2) := by decide +kernel
theorem dX7_left_108 : decode cX7_left 108 = .ok (.if_icmp .gt 140, 3) := by decide +kernel
theorem dX7_left_111 : decode cX7_left 111 = .ok (.iload 7, 2) := by decide +kernel
theorem dX7_left_113 : decode cX7_left 113 = .ok (.iload 4, 2) := by decide +kernel
theorem dX7_left_115 : decode cX7_left 115 = .ok (.iconst (-1), 1) := by decide +kernel
theorem dX7_left_116 : decode cX7_left 116 = .ok (.ixor, 1) := by decide +kernel
theorem dX7_left_117 : decode cX7_left 117 = .ok (.iand, 1) := by decide +kernel
theorem dX7_left_118 : decode cX7_left 118 = .ok (.ifCond .ne 124, 3) := by decide +kernel
theorem dX7_left_121 : decode cX7_left 121 = .ok (.iconst 1, 1) := by decide +kernel
theorem dX7_left_122 : decode cX7_left 122 = .ok (.istore 8, 2) := by decide +kernel
theorem dX7_left_124 : decode cX7_left 124 = .ok (.iconst 0, 1) := by decide +kernel
theorem dX7_left_125 : decode cX7_left 125 = .ok (.istore 9, 2) := by decide +kernel
theorem dX7_left_127 : decode cX7_left 127 = .ok (.iload 9, 2) := by decide +kernel
theorem dX7_left_129 : decode cX7_left 129 = .ok (.aload_n 0, 1) := by decide +kernel
theorem dX7_left_130 : decode cX7_left 130 = .ok (.getfield 25, 3) := by decide +kernel
theorem dX7_left_133 : decode cX7_left 133 = .ok (.iconst 2, 1) := by decide +kernel
theorem dX7_left_134 : decode cX7_left 134 = .ok (.iaload, 1) := by decide +kernel
theorem dX7_left_135 : decode cX7_left 135 = .ok (.if_icmp .ge 46, 3) := by decide +kernel
theorem dX7_left_138 : decode cX7_left 138 = .ok (.iload 8, 2) := by decide +kernel
theorem dX7_left_140 : decode cX7_left 140 = .ok (.iload 4, 2) := by decide +kernel
theorem dX7_left_142 : decode cX7_left 142 = .ok (.iload 9, 2) := by decide +kernel
theorem dX7_left_144 : decode cX7_left 144 = .ok (.invokestatic 164, 3) := by decide +kernel
theorem dX7_left_147 : decode cX7_left 147 = .ok (.ifCond .ne 7, 3) := by decide +kernel
theorem dX7_left_150 : decode cX7_left 150 = .ok (.iconst 1, 1) := by decide +kernel
theorem dX7_left_151 : decode cX7_left 151 = .ok (.goto 21, 3) := by decide +kernel
theorem dX7_left_154 : decode cX7_left 154 = .ok (.iload 7, 2) := by decide +kernel
theorem dX7_left_156 : decode cX7_left 156 = .ok (.iload 9, 2) := by decide +kernel
theorem dX7_left_158 : decode cX7_left 158 = .ok (.invokestatic 164, 3) := by decide +kernel
theorem dX7_left_161 : decode cX7_left 161 = .ok (.ifCond .eq 7, 3) := by decide +kernel
theorem dX7_left_164 : decode cX7_left 164 = .ok (.iload_n 2, 1) := by decide +kernel
theorem dX7_left_165 : decode cX7_left 165 = .ok (.goto 7, 3) := by decide +kernel
theorem dX7_left_168 : decode cX7_left 168 = .ok (.bipush 10, 2) := by decide +kernel
theorem dX7_left_170 : decode cX7_left 170 = .ok (.iload_n 2, 1) := by decide +kernel
theorem dX7_left_171 : decode cX7_left 171 = .ok (.isub, 1) := by decide +kernel
theorem dX7_left_172 : decode cX7_left 172 = .ok (.imul, 1) := by decide +kernel
theorem dX7_left_173 : decode cX7_left 173 = .ok (.istore 8, 2) := by decide +kernel
theorem dX7_left_175 : decode cX7_left 175 = .ok (.iinc 9 1, 3) := by decide +kernel
theorem dX7_left_178 : decode cX7_left 178 = .ok (.goto (-51), 3) := by decide +kernel
theorem dX7_left_181 : decode cX7_left 181 = .ok (.aload_n 0, 1) := by decide +kernel
theorem dX7_left_182 : decode cX7_left 182 = .ok (.getfield 25, 3) := by decide +kernel
theorem dX7_left_185 : decode cX7_left 185 = .ok (.iconst 0, 1) := by decide +kernel
theorem dX7_left_186 : decode cX7_left 186 = .ok (.aload_n 0, 1) := by decide +kernel
theorem dX7_left_187 : decode cX7_left 187 = .ok (.getfield 31, 3) := by decide +kernel
theorem dX7_left_190 : decode cX7_left 190 = .ok (.iconst 0, 1) := by decide +kernel
theorem dX7_left_191 : decode cX7_left 191 = .ok (.invokestatic 151, 3) := by decide +kernel
theorem dX7_left_194 : decode cX7_left 194 = .ok (.aload_n 0, 1) := by decide +kernel
theorem dX7_left_195 : decode cX7_left 195 = .ok (.getfield 25, 3) := by decide +kernel
theorem dX7_left_198 : decode cX7_left 198 = .ok (.iconst 4, 1) := by decide +kernel
theorem dX7_left_199 : decode cX7_left 199 = .ok (.iaload, 1) := by decide +kernel
theorem dX7_left_200 : decode cX7_left 200 = .ok (.iconst 1, 1) := by decide +kernel
theorem dX7_left_201 : decode cX7_left 201 = .ok (.if_icmp .ne 10, 3) := by decide +kernel
theorem dX7_left_204 : decode cX7_left 204 = .ok (.aload_n 0, 1) := by decide +kernel
theorem dX7_left_205 : decode cX7_left 205 = .ok (.getfield 31, 3) := by decide +kernel
theorem dX7_left_208 : decode cX7_left 208 = .ok (.invokestatic 176, 3) := by decide +kernel
theorem dX7_left_211 : decode cX7_left 211 = .ok (.aload_n 0, 1) := by decide +kernel
theorem dX7_left_212 : decode cX7_left 212 = .ok (.getfield 31, 3) := by decide +kernel
theorem dX7_left_215 : decode cX7_left 215 = .ok (.iload 7, 2) := by decide +kernel
theorem dX7_left_217 : decode cX7_left 217 = .ok (.invokestatic 180, 3) := by decide +kernel
theorem dX7_left_220 : decode cX7_left 220 = .ok (.iload 5, 2) := by decide +kernel
theorem dX7_left_222 : decode cX7_left 222 = .ok (.aload_n 0, 1) := by decide +kernel
theorem dX7_left_223 : decode cX7_left 223 = .ok (.getfield 31, 3) := by decide +kernel
theorem dX7_left_226 : decode cX7_left 226 = .ok (.iload_n 1, 1) := by decide +kernel
theorem dX7_left_227 : decode cX7_left 227 = .ok (.invokestatic 158, 3) := by decide +kernel
theorem dX7_left_230 : decode cX7_left 230 = .ok (.ifCond .le 8, 3) := by decide +kernel
theorem dX7_left_233 : decode cX7_left 233 = .ok (.iload 8, 2) := by decide +kernel
theorem dX7_left_235 : decode cX7_left 235 = .ok (.goto 4, 3) := by decide +kernel
theorem dX7_left_238 : decode cX7_left 238 = .ok (.iconst 0, 1) := by decide +kernel
theorem dX7_left_239 : decode cX7_left 239 = .ok (.iadd, 1) := by decide +kernel
theorem dX7_left_240 : decode cX7_left 240 = .ok (.istore 5, 2) := by decide +kernel
theorem dX7_left_242 : decode cX7_left 242 = .ok (.iinc 7 1, 3) := by decide +kernel
theorem dX7_left_245 : decode cX7_left 245 = .ok (.goto (-141), 3) := by decide +kernel
theorem dX7_left_248 : decode cX7_left 248 = .ok (.iload 5, 2) := by decide +kernel
theorem dX7_left_250 : decode cX7_left 250 = .ok (.istore 7, 2) := by decide +kernel
theorem dX7_left_252 : decode cX7_left 252 = .ok (.iload 6, 2) := by decide +kernel
theorem dX7_left_254 : decode cX7_left 254 = .ok (.istore 8, 2) := by decide +kernel
theorem dX7_left_256 : decode cX7_left 256 = .ok (.iload 8, 2) := by decide +kernel
theorem dX7_left_258 : decode cX7_left 258 = .ok (.ifCond .eq 21, 3) := by decide +kernel
theorem dX7_left_261 : decode cX7_left 261 = .ok (.iload 7, 2) := by decide +kernel
theorem dX7_left_263 : decode cX7_left 263 = .ok (.iload 8, 2) := by decide +kernel
theorem dX7_left_265 : decode cX7_left 265 = .ok (.irem, 1) := by decide +kernel
theorem dX7_left_266 : decode cX7_left 266 = .ok (.istore 9, 2) := by decide +kernel
theorem dX7_left_268 : decode cX7_left 268 = .ok (.iload 8, 2) := by decide +kernel
theorem dX7_left_270 : decode cX7_left 270 = .ok (.istore 7, 2) := by decide +kernel
theorem dX7_left_272 : decode cX7_left 272 = .ok (.iload 9, 2) := by decide +kernel
theorem dX7_left_274 : decode cX7_left 274 = .ok (.istore 8, 2) := by decide +kernel
theorem dX7_left_276 : decode cX7_left 276 = .ok (.goto (-20), 3) := by decide +kernel
theorem dX7_left_279 : decode cX7_left 279 = .ok (.iload_n 3, 1) := by decide +kernel
theorem dX7_left_280 : decode cX7_left 280 = .ok (.ifCond .ne 8, 3) := by decide +kernel
theorem dX7_left_283 : decode cX7_left 283 = .ok (.iload 5, 2) := by decide +kernel
theorem dX7_left_285 : decode cX7_left 285 = .ok (.goto 5, 3) := by decide +kernel
theorem dX7_left_288 : decode cX7_left 288 = .ok (.iload 6, 2) := by decide +kernel
theorem dX7_left_290 : decode cX7_left 290 = .ok (.iload 7, 2) := by decide +kernel
theorem dX7_left_292 : decode cX7_left 292 = .ok (.idiv, 1) := by decide +kernel
theorem dX7_left_293 : decode cX7_left 293 = .ok (.ireturn, 1) := by decide +kernel
theorem dX7_drawn_0 : decode cX7_drawn 0 = .ok (.aload_n 0, 1) := by decide +kernel
theorem dX7_drawn_1 : decode cX7_drawn 1 = .ok (.invokevirtual 183, 3) := by decide +kernel
theorem dX7_drawn_4 : decode cX7_drawn 4 = .ok (.ifCond .ne 6, 3) := by decide +kernel
theorem dX7_drawn_7 : decode cX7_drawn 7 = .ok (.ldc 186, 2) := by decide +kernel
theorem dX7_drawn_9 : decode cX7_drawn 9 = .ok (.ireturn, 1) := by decide +kernel
theorem dX7_drawn_10 : decode cX7_drawn 10 = .ok (.iload_n 1, 1) := by decide +kernel
theorem dX7_drawn_11 : decode cX7_drawn 11 = .ok (.iconst 0, 1) := by decide +kernel
theorem dX7_drawn_12 : decode cX7_drawn 12 = .ok (.bipush 30, 2) := by decide +kernel
theorem dX7_drawn_14 : decode cX7_drawn 14 = .ok (.invokestatic 62, 3) := by decide +kernel
theorem dX7_drawn_17 : decode cX7_drawn 17 = .ok (.ifCond .eq 22, 3) := by decide +kernel
theorem dX7_drawn_20 : decode cX7_drawn 20 = .ok (.iload_n 2, 1) := by decide +kernel
theorem dX7_drawn_21 : decode cX7_drawn 21 = .ok (.iconst 1, 1) := by decide +kernel
theorem dX7_drawn_22 : decode cX7_drawn 22 = .ok (.ldc 175, 2) := by decide +kernel
theorem dX7_drawn_24 : decode cX7_drawn 24 = .ok (.invokestatic 62, 3) := by decide +kernel
theorem dX7_drawn_27 : decode cX7_drawn 27 = .ok (.ifCond .eq 12, 3) := by decide +kernel
theorem dX7_drawn_30 : decode cX7_drawn 30 = .ok (.iload_n 3, 1) := by decide +kernel
theorem dX7_drawn_31 : decode cX7_drawn 31 = .ok (.iconst 0, 1) := by decide +kernel
theorem dX7_drawn_32 : decode cX7_drawn 32 = .ok (.iconst 1, 1) := by decide +kernel
theorem dX7_drawn_33 : decode cX7_drawn 33 = .ok (.invokestatic 62, 3) := by decide +kernel
theorem dX7_drawn_36 : decode cX7_drawn 36 = .ok (.ifCond .ne 6, 3) := by decide +kernel
theorem dX7_drawn_39 : decode cX7_drawn 39 = .ok (.ldc 70, 2) := by decide +kernel
theorem dX7_drawn_41 : decode cX7_drawn 41 = .ok (.ireturn, 1) := by decide +kernel
theorem dX7_drawn_42 : decode cX7_drawn 42 = .ok (.aload_n 0, 1) := by decide +kernel
theorem dX7_drawn_43 : decode cX7_drawn 43 = .ok (.getfield 25, 3) := by decide +kernel
theorem dX7_drawn_46 : decode cX7_drawn 46 = .ok (.iconst 0, 1) := by decide +kernel
theorem dX7_drawn_47 : decode cX7_drawn 47 = .ok (.aload_n 0, 1) := by decide +kernel
theorem dX7_drawn_48 : decode cX7_drawn 48 = .ok (.getfield 31, 3) := by decide +kernel
theorem dX7_drawn_51 : decode cX7_drawn 51 = .ok (.iconst 0, 1) := by decide +kernel
theorem dX7_drawn_52 : decode cX7_drawn 52 = .ok (.invokestatic 151, 3) := by decide +kernel
theorem dX7_drawn_55 : decode cX7_drawn 55 = .ok (.aload_n 0, 1) := by decide +kernel
theorem dX7_drawn_56 : decode cX7_drawn 56 = .ok (.getfield 31, 3) := by decide +kernel
theorem dX7_drawn_59 : decode cX7_drawn 59 = .ok (.iconst 5, 1) := by decide +kernel
theorem dX7_drawn_60 : decode cX7_drawn 60 = .ok (.iconst 0, 1) := by decide +kernel
theorem dX7_drawn_61 : decode cX7_drawn 61 = .ok (.iastore, 1) := by decide +kernel
theorem dX7_drawn_62 : decode cX7_drawn 62 = .ok (.iload_n 2, 1) := by decide +kernel
theorem dX7_drawn_63 : decode cX7_drawn 63 = .ok (.i2l, 1) := by decide +kernel
theorem dX7_drawn_64 : decode cX7_drawn 64 = .ok (.lstore 4, 2) := by decide +kernel
theorem dX7_drawn_66 : decode cX7_drawn 66 = .ok (.iconst 0, 1) := by decide +kernel
theorem dX7_drawn_67 : decode cX7_drawn 67 = .ok (.istore 6, 2) := by decide +kernel
theorem dX7_drawn_69 : decode cX7_drawn 69 = .ok (.iload 6, 2) := by decide +kernel
theorem dX7_drawn_71 : decode cX7_drawn 71 = .ok (.iload_n 1, 1) := by decide +kernel
theorem dX7_drawn_72 : decode cX7_drawn 72 = .ok (.if_icmp .ge 86, 3) := by decide +kernel
theorem dX7_drawn_75 : decode cX7_drawn 75 = .ok (.lload 4, 2) := by decide +kernel
theorem dX7_drawn_77 : decode cX7_drawn 77 = .ok (.ldc2_w 234, 3) := by decide +kernel
theorem dX7_drawn_80 : decode cX7_drawn 80 = .ok (.lmul, 1) := by decide +kernel
theorem dX7_drawn_81 : decode cX7_drawn 81 = .ok (.ldc2_w 236, 3) := by decide +kernel
theorem dX7_drawn_84 : decode cX7_drawn 84 = .ok (.lrem, 1) := by decide +kernel
theorem dX7_drawn_85 : decode cX7_drawn 85 = .ok (.lstore 4, 2) := by decide +kernel
theorem dX7_drawn_87 : decode cX7_drawn 87 = .ok (.aload_n 0, 1) := by decide +kernel
theorem dX7_drawn_88 : decode cX7_drawn 88 = .ok (.getfield 31, 3) := by decide +kernel
theorem dX7_drawn_91 : decode cX7_drawn 91 = .ok (.iconst 0, 1) := by decide +kernel
theorem dX7_drawn_92 : decode cX7_drawn 92 = .ok (.lload 4, 2) := by decide +kernel
theorem dX7_drawn_94 : decode cX7_drawn 94 = .ok (.ldc2_w 238, 3) := by decide +kernel
theorem dX7_drawn_97 : decode cX7_drawn 97 = .ok (.lrem, 1) := by decide +kernel
theorem dX7_drawn_98 : decode cX7_drawn 98 = .ok (.l2i, 1) := by decide +kernel
theorem dX7_drawn_99 : decode cX7_drawn 99 = .ok (.iastore, 1) := by decide +kernel
theorem dX7_drawn_100 : decode cX7_drawn 100 = .ok (.aload_n 0, 1) := by decide +kernel
theorem dX7_drawn_101 : decode cX7_drawn 101 = .ok (.getfield 31, 3) := by decide +kernel
theorem dX7_drawn_104 : decode cX7_drawn 104 = .ok (.iconst 4, 1) := by decide +kernel
theorem dX7_drawn_105 : decode cX7_drawn 105 = .ok (.iaload, 1) := by decide +kernel
theorem dX7_drawn_106 : decode cX7_drawn 106 = .ok (.iconst 1, 1) := by decide +kernel
theorem dX7_drawn_107 : decode cX7_drawn 107 = .ok (.if_icmp .ne 41, 3) := by decide +kernel
theorem dX7_drawn_110 : decode cX7_drawn 110 = .ok (.aload_n 0, 1) := by decide +kernel
theorem dX7_drawn_111 : decode cX7_drawn 111 = .ok (.getfield 25, 3) := by decide +kernel
theorem dX7_drawn_114 : decode cX7_drawn 114 = .ok (.iconst 2, 1) := by decide +kernel
theorem dX7_drawn_115 : decode cX7_drawn 115 = .ok (.iaload, 1) := by decide +kernel
theorem dX7_drawn_116 : decode cX7_drawn 116 = .ok (.ifCond .le 32, 3) := by decide +kernel
theorem dX7_drawn_119 : decode cX7_drawn 119 = .ok (.aload_n 0, 1) := by decide +kernel
theorem dX7_drawn_120 : decode cX7_drawn 120 = .ok (.getfield 31, 3) := by decide +kernel
theorem dX7_drawn_123 : decode cX7_drawn 123 = .ok (.lload 4, 2) := by decide +kernel
theorem dX7_drawn_125 : decode cX7_drawn 125 = .ok (.aload_n 0, 1) := by decide +kernel
theorem dX7_drawn_126 : decode cX7_drawn 126 = .ok (.getfield 25, 3) := by decide +kernel
theorem dX7_drawn_129 : decode cX7_drawn 129 = .ok (.iconst 2, 1) := by decide +kernel
theorem dX7_drawn_130 : decode cX7_drawn 130 = .ok (.iaload, 1) := by decide +kernel
theorem dX7_drawn_131 : decode cX7_drawn 131 = .ok (.i2l, 1) := by decide +kernel
theorem dX7_drawn_132 : decode cX7_drawn 132 = .ok (.lrem, 1) := by decide +kernel
theorem dX7_drawn_133 : decode cX7_drawn 133 = .ok (.l2i, 1) := by decide +kernel
theorem dX7_drawn_134 : decode cX7_drawn 134 = .ok (.lload 4, 2) := by decide +kernel
theorem dX7_drawn_136 : decode cX7_drawn 136 = .ok (.aload_n 0, 1) := by decide +kernel
theorem dX7_drawn_137 : decode cX7_drawn 137 = .ok (.getfield 25, 3) := by decide +kernel
theorem dX7_drawn_140 : decode cX7_drawn 140 = .ok (.iconst 1, 1) := by decide +kernel
theorem dX7_drawn_141 : decode cX7_drawn 141 = .ok (.iaload, 1) := by decide +kernel
theorem dX7_drawn_142 : decode cX7_drawn 142 = .ok (.i2l, 1) := by decide +kernel
theorem dX7_drawn_143 : decode cX7_drawn 143 = .ok (.lrem, 1) := by decide +kernel
theorem dX7_drawn_144 : decode cX7_drawn 144 = .ok (.l2i, 1) := by decide +kernel
theorem dX7_drawn_145 : decode cX7_drawn 145 = .ok (.invokestatic 199, 3) := by decide +kernel
theorem dX7_drawn_148 : decode cX7_drawn 148 = .ok (.aload_n 0, 1) := by decide +kernel
theorem dX7_drawn_149 : decode cX7_drawn 149 = .ok (.invokevirtual 221, 3) := by decide +kernel
theorem dX7_drawn_152 : decode cX7_drawn 152 = .ok (.iinc 6 1, 3) := by decide +kernel
theorem dX7_drawn_155 : decode cX7_drawn 155 = .ok (.goto (-86), 3) := by decide +kernel
theorem dX7_drawn_158 : decode cX7_drawn 158 = .ok (.iload_n 3, 1) := by decide +kernel
theorem dX7_drawn_159 : decode cX7_drawn 159 = .ok (.ifCond .ne 12, 3) := by decide +kernel
theorem dX7_drawn_162 : decode cX7_drawn 162 = .ok (.aload_n 0, 1) := by decide +kernel
theorem dX7_drawn_163 : decode cX7_drawn 163 = .ok (.getfield 31, 3) := by decide +kernel
theorem dX7_drawn_166 : decode cX7_drawn 166 = .ok (.iconst 5, 1) := by decide +kernel
theorem dX7_drawn_167 : decode cX7_drawn 167 = .ok (.iaload, 1) := by decide +kernel
theorem dX7_drawn_168 : decode cX7_drawn 168 = .ok (.goto 13, 3) := by decide +kernel
theorem dX7_drawn_171 : decode cX7_drawn 171 = .ok (.aload_n 0, 1) := by decide +kernel
theorem dX7_drawn_172 : decode cX7_drawn 172 = .ok (.getfield 31, 3) := by decide +kernel
theorem dX7_drawn_175 : decode cX7_drawn 175 = .ok (.invokestatic 207, 3) := by decide +kernel
theorem dX7_drawn_178 : decode cX7_drawn 178 = .ok (.invokestatic 172, 3) := by decide +kernel
theorem dX7_drawn_181 : decode cX7_drawn 181 = .ok (.ireturn, 1) := by decide +kernel
theorem dX7_image_0 : decode cX7_image 0 = .ok (.iload_n 1, 1) := by decide +kernel
theorem dX7_image_1 : decode cX7_image 1 = .ok (.iconst 0, 1) := by decide +kernel
theorem dX7_image_2 : decode cX7_image 2 = .ok (.iconst 1, 1) := by decide +kernel
theorem dX7_image_3 : decode cX7_image 3 = .ok (.invokestatic 62, 3) := by decide +kernel
theorem dX7_image_6 : decode cX7_image 6 = .ok (.ifCond .ne 6, 3) := by decide +kernel
theorem dX7_image_9 : decode cX7_image 9 = .ok (.ldc 70, 2) := by decide +kernel
theorem dX7_image_11 : decode cX7_image 11 = .ok (.ireturn, 1) := by decide +kernel
theorem dX7_image_12 : decode cX7_image 12 = .ok (.aload_n 0, 1) := by decide +kernel
theorem dX7_image_13 : decode cX7_image 13 = .ok (.invokevirtual 183, 3) := by decide +kernel
theorem dX7_image_16 : decode cX7_image 16 = .ok (.ifCond .ne 6, 3) := by decide +kernel
theorem dX7_image_19 : decode cX7_image 19 = .ok (.ldc 186, 2) := by decide +kernel
theorem dX7_image_21 : decode cX7_image 21 = .ok (.ireturn, 1) := by decide +kernel
theorem dX7_image_22 : decode cX7_image 22 = .ok (.aload_n 0, 1) := by decide +kernel
theorem dX7_image_23 : decode cX7_image 23 = .ok (.getfield 25, 3) := by decide +kernel
theorem dX7_image_26 : decode cX7_image 26 = .ok (.iconst 0, 1) := by decide +kernel
theorem dX7_image_27 : decode cX7_image 27 = .ok (.aload_n 0, 1) := by decide +kernel
theorem dX7_image_28 : decode cX7_image 28 = .ok (.getfield 37, 3) := by decide +kernel
theorem dX7_image_31 : decode cX7_image 31 = .ok (.bipush 64, 2) := by decide +kernel
theorem dX7_image_33 : decode cX7_image 33 = .ok (.iload_n 1, 1) := by decide +kernel
theorem dX7_image_34 : decode cX7_image 34 = .ok (.imul, 1) := by decide +kernel
theorem dX7_image_35 : decode cX7_image 35 = .ok (.invokestatic 151, 3) := by decide +kernel
theorem dX7_image_38 : decode cX7_image 38 = .ok (.aload_n 0, 1) := by decide +kernel
theorem dX7_image_39 : decode cX7_image 39 = .ok (.getfield 40, 3) := by decide +kernel
theorem dX7_image_42 : decode cX7_image 42 = .ok (.iload_n 1, 1) := by decide +kernel
theorem dX7_image_43 : decode cX7_image 43 = .ok (.iconst 1, 1) := by decide +kernel
theorem dX7_image_44 : decode cX7_image 44 = .ok (.bastore, 1) := by decide +kernel
theorem dX7_image_45 : decode cX7_image 45 = .ok (.iconst 1, 1) := by decide +kernel
theorem dX7_image_46 : decode cX7_image 46 = .ok (.ireturn, 1) := by decide +kernel
theorem dX7_restore_0 : decode cX7_restore 0 = .ok (.iload_n 1, 1) := by decide +kernel
theorem dX7_restore_1 : decode cX7_restore 1 = .ok (.iconst 0, 1) := by decide +kernel
theorem dX7_restore_2 : decode cX7_restore 2 = .ok (.iconst 1, 1) := by decide +kernel
theorem dX7_restore_3 : decode cX7_restore 3 = .ok (.invokestatic 62, 3) := by decide +kernel
theorem dX7_restore_6 : decode cX7_restore 6 = .ok (.ifCond .ne 6, 3) := by decide +kernel
theorem dX7_restore_9 : decode cX7_restore 9 = .ok (.ldc 70, 2) := by decide +kernel
theorem dX7_restore_11 : decode cX7_restore 11 = .ok (.ireturn, 1) := by decide +kernel
theorem dX7_restore_12 : decode cX7_restore 12 = .ok (.aload_n 0, 1) := by decide +kernel
theorem dX7_restore_13 : decode cX7_restore 13 = .ok (.getfield 40, 3) := by decide +kernel
theorem dX7_restore_16 : decode cX7_restore 16 = .ok (.iload_n 1, 1) := by decide +kernel
theorem dX7_restore_17 : decode cX7_restore 17 = .ok (.baload, 1) := by decide +kernel
theorem dX7_restore_18 : decode cX7_restore 18 = .ok (.ifCond .ne 6, 3) := by decide +kernel
theorem dX7_restore_21 : decode cX7_restore 21 = .ok (.ldc 186, 2) := by decide +kernel
theorem dX7_restore_23 : decode cX7_restore 23 = .ok (.ireturn, 1) := by decide +kernel
theorem dX7_restore_24 : decode cX7_restore 24 = .ok (.aload_n 0, 1) := by decide +kernel
theorem dX7_restore_25 : decode cX7_restore 25 = .ok (.getfield 37, 3) := by decide +kernel
theorem dX7_restore_28 : decode cX7_restore 28 = .ok (.bipush 64, 2) := by decide +kernel
theorem dX7_restore_30 : decode cX7_restore 30 = .ok (.iload_n 1, 1) := by decide +kernel
theorem dX7_restore_31 : decode cX7_restore 31 = .ok (.imul, 1) := by decide +kernel
theorem dX7_restore_32 : decode cX7_restore 32 = .ok (.aload_n 0, 1) := by decide +kernel
theorem dX7_restore_33 : decode cX7_restore 33 = .ok (.getfield 25, 3) := by decide +kernel
theorem dX7_restore_36 : decode cX7_restore 36 = .ok (.iconst 0, 1) := by decide +kernel
theorem dX7_restore_37 : decode cX7_restore 37 = .ok (.invokestatic 151, 3) := by decide +kernel
theorem dX7_restore_40 : decode cX7_restore 40 = .ok (.aload_n 0, 1) := by decide +kernel
theorem dX7_restore_41 : decode cX7_restore 41 = .ok (.iconst 0, 1) := by decide +kernel
theorem dX7_restore_42 : decode cX7_restore 42 = .ok (.putfield 155, 3) := by decide +kernel
theorem dX7_restore_45 : decode cX7_restore 45 = .ok (.iconst 1, 1) := by decide +kernel
theorem dX7_restore_46 : decode cX7_restore 46 = .ok (.ireturn, 1) := by decide +kernel
theorem dX7_kindIn_0 : decode cX7_kindIn 0 = .ok (.aload_n 0, 1) := by decide +kernel
theorem dX7_kindIn_1 : decode cX7_kindIn 1 = .ok (.getfield 25, 3) := by decide +kernel
theorem dX7_kindIn_4 : decode cX7_kindIn 4 = .ok (.bipush 22, 2) := by decide +kernel
theorem dX7_kindIn_6 : decode cX7_kindIn 6 = .ok (.bipush 6, 2) := by decide +kernel
theorem dX7_kindIn_8 : decode cX7_kindIn 8 = .ok (.iload_n 1, 1) := by decide +kernel
theorem dX7_kindIn_9 : decode cX7_kindIn 9 = .ok (.imul, 1) := by decide +kernel
theorem dX7_kindIn_10 : decode cX7_kindIn 10 = .ok (.iadd, 1) := by decide +kernel
theorem dX7_kindIn_11 : decode cX7_kindIn 11 = .ok (.iaload, 1) := by decide +kernel
theorem dX7_kindIn_12 : decode cX7_kindIn 12 = .ok (.ireturn, 1) := by decide +kernel
theorem dX7_kind_0 : decode cX7_kind 0 = .ok (.aload_n 0, 1) := by decide +kernel
theorem dX7_kind_1 : decode cX7_kind 1 = .ok (.iload_n 1, 1) := by decide +kernel
theorem dX7_kind_2 : decode cX7_kind 2 = .ok (.invokevirtual 193, 3) := by decide +kernel
theorem dX7_kind_5 : decode cX7_kind 5 = .ok (.ifCond .eq 11, 3) := by decide +kernel
theorem dX7_kind_8 : decode cX7_kind 8 = .ok (.aload_n 0, 1) := by decide +kernel
theorem dX7_kind_9 : decode cX7_kind 9 = .ok (.iload_n 1, 1) := by decide +kernel
theorem dX7_kind_10 : decode cX7_kind 10 = .ok (.invokevirtual 240, 3) := by decide +kernel
theorem dX7_kind_13 : decode cX7_kind 13 = .ok (.goto 5, 3) := by decide +kernel
theorem dX7_kind_16 : decode cX7_kind 16 = .ok (.ldc 70, 2) := by decide +kernel
theorem dX7_kind_18 : decode cX7_kind 18 = .ok (.ireturn, 1) := by decide +kernel
theorem dX7_as_0 : decode cX7_as 0 = .ok (.aload_n 0, 1) := by decide +kernel
theorem dX7_as_1 : decode cX7_as 1 = .ok (.iload_n 1, 1) := by decide +kernel
theorem dX7_as_2 : decode cX7_as 2 = .ok (.invokevirtual 193, 3) := by decide +kernel
theorem dX7_as_5 : decode cX7_as 5 = .ok (.ifCond .eq 12, 3) := by decide +kernel
theorem dX7_as_8 : decode cX7_as 8 = .ok (.iload_n 2, 1) := by decide +kernel
theorem dX7_as_9 : decode cX7_as 9 = .ok (.iconst 0, 1) := by decide +kernel
theorem dX7_as_10 : decode cX7_as 10 = .ok (.iconst 5, 1) := by decide +kernel
theorem dX7_as_11 : decode cX7_as 11 = .ok (.invokestatic 62, 3) := by decide +kernel
theorem dX7_as_14 : decode cX7_as 14 = .ok (.ifCond .ne 6, 3) := by decide +kernel
theorem dX7_as_17 : decode cX7_as 17 = .ok (.ldc 70, 2) := by decide +kernel
theorem dX7_as_19 : decode cX7_as 19 = .ok (.ireturn, 1) := by decide +kernel
theorem dX7_as_20 : decode cX7_as 20 = .ok (.aload_n 0, 1) := by decide +kernel
theorem dX7_as_21 : decode cX7_as 21 = .ok (.iload_n 1, 1) := by decide +kernel
theorem dX7_as_22 : decode cX7_as 22 = .ok (.invokevirtual 240, 3) := by decide +kernel
theorem dX7_as_25 : decode cX7_as 25 = .ok (.istore_n 3, 1) := by decide +kernel
theorem dX7_as_26 : decode cX7_as 26 = .ok (.iload_n 2, 1) := by decide +kernel
theorem dX7_as_27 : decode cX7_as 27 = .ok (.ifCond .eq 28, 3) := by decide +kernel
theorem dX7_as_30 : decode cX7_as 30 = .ok (.iload_n 2, 1) := by decide +kernel
theorem dX7_as_31 : decode cX7_as 31 = .ok (.iload_n 3, 1) := by decide +kernel
theorem dX7_as_32 : decode cX7_as 32 = .ok (.if_icmp .eq 23, 3) := by decide +kernel
theorem dX7_as_35 : decode cX7_as 35 = .ok (.iload_n 2, 1) := by decide +kernel
theorem dX7_as_36 : decode cX7_as 36 = .ok (.iconst 1, 1) := by decide +kernel
theorem dX7_as_37 : decode cX7_as 37 = .ok (.if_icmp .ne 8, 3) := by decide +kernel
theorem dX7_as_40 : decode cX7_as 40 = .ok (.iload_n 3, 1) := by decide +kernel
theorem dX7_as_41 : decode cX7_as 41 = .ok (.iconst 4, 1) := by decide +kernel
theorem dX7_as_42 : decode cX7_as 42 = .ok (.if_icmp .lt 13, 3) := by decide +kernel
theorem dX7_as_45 : decode cX7_as 45 = .ok (.iload_n 2, 1) := by decide +kernel
theorem dX7_as_46 : decode cX7_as 46 = .ok (.iconst 4, 1) := by decide +kernel
theorem dX7_as_47 : decode cX7_as 47 = .ok (.if_icmp .ne 12, 3) := by decide +kernel
theorem dX7_as_50 : decode cX7_as 50 = .ok (.iload_n 3, 1) := by decide +kernel
theorem dX7_as_51 : decode cX7_as 51 = .ok (.iconst 5, 1) := by decide +kernel
theorem dX7_as_52 : decode cX7_as 52 = .ok (.if_icmp .ne 7, 3) := by decide +kernel
theorem dX7_as_55 : decode cX7_as 55 = .ok (.iconst 1, 1) := by decide +kernel
theorem dX7_as_56 : decode cX7_as 56 = .ok (.goto 4, 3) := by decide +kernel
theorem dX7_as_59 : decode cX7_as 59 = .ok (.iconst 0, 1) := by decide +kernel
theorem dX7_as_60 : decode cX7_as 60 = .ok (.istore 4, 2) := by decide +kernel
theorem dX7_as_62 : decode cX7_as 62 = .ok (.iload 4, 2) := by decide +kernel
theorem dX7_as_64 : decode cX7_as 64 = .ok (.ifCond .eq 11, 3) := by decide +kernel
theorem dX7_as_67 : decode cX7_as 67 = .ok (.aload_n 0, 1) := by decide +kernel
theorem dX7_as_68 : decode cX7_as 68 = .ok (.iload_n 1, 1) := by decide +kernel
theorem dX7_as_69 : decode cX7_as 69 = .ok (.invokevirtual 75, 3) := by decide +kernel
theorem dX7_as_72 : decode cX7_as 72 = .ok (.goto 8, 3) := by decide +kernel
theorem dX7_as_75 : decode cX7_as 75 = .ok (.aload_n 0, 1) := by decide +kernel
theorem dX7_as_76 : decode cX7_as 76 = .ok (.iconst 3, 1) := by decide +kernel
theorem dX7_as_77 : decode cX7_as 77 = .ok (.invokevirtual 71, 3) := by decide +kernel
theorem dX7_as_80 : decode cX7_as 80 = .ok (.ireturn, 1) := by decide +kernel
theorem dX7_begins_0 : decode cX7_begins 0 = .ok (.aload_n 0, 1) := by decide +kernel
theorem dX7_begins_1 : decode cX7_begins 1 = .ok (.getfield 243, 3) := by decide +kernel
theorem dX7_begins_4 : decode cX7_begins 4 = .ok (.bipush 16, 2) := by decide +kernel
theorem dX7_begins_6 : decode cX7_begins 6 = .ok (.if_icmp .ge 23, 3) := by decide +kernel
theorem dX7_begins_9 : decode cX7_begins 9 = .ok (.aload_n 0, 1) := by decide +kernel
theorem dX7_begins_10 : decode cX7_begins 10 = .ok (.getfield 53, 3) := by decide +kernel
theorem dX7_begins_13 : decode cX7_begins 13 = .ok (.aload_n 0, 1) := by decide +kernel
theorem dX7_begins_14 : decode cX7_begins 14 = .ok (.getfield 243, 3) := by decide +kernel
theorem dX7_begins_17 : decode cX7_begins 17 = .ok (.iload_n 1, 1) := by decide +kernel
theorem dX7_begins_18 : decode cX7_begins 18 = .ok (.iastore, 1) := by decide +kernel
theorem dX7_begins_19 : decode cX7_begins 19 = .ok (.aload_n 0, 1) := by decide +kernel
theorem dX7_begins_20 : decode cX7_begins 20 = .ok (.dup, 1) := by decide +kernel
theorem dX7_begins_21 : decode cX7_begins 21 = .ok (.getfield 243, 3) := by decide +kernel
theorem dX7_begins_24 : decode cX7_begins 24 = .ok (.iconst 1, 1) := by decide +kernel
theorem dX7_begins_25 : decode cX7_begins 25 = .ok (.iadd, 1) := by decide +kernel
theorem dX7_begins_26 : decode cX7_begins 26 = .ok (.putfield 243, 3) := by decide +kernel
theorem dX7_begins_29 : decode cX7_begins 29 = .ok (.return_, 1) := by decide +kernel
theorem dX7_agentMark_0 : decode cX7_agentMark 0 = .ok (.aload_n 0, 1) := by decide +kernel
theorem dX7_agentMark_1 : decode cX7_agentMark 1 = .ok (.iload_n 1, 1) := by decide +kernel
theorem dX7_agentMark_2 : decode cX7_agentMark 2 = .ok (.invokevirtual 240, 3) := by decide +kernel
theorem dX7_agentMark_5 : decode cX7_agentMark 5 = .ok (.istore_n 2, 1) := by decide +kernel
theorem dX7_agentMark_6 : decode cX7_agentMark 6 = .ok (.iload_n 2, 1) := by decide +kernel
theorem dX7_agentMark_7 : decode cX7_agentMark 7 = .ok (.iconst 1, 1) := by decide +kernel
theorem dX7_agentMark_8 : decode cX7_agentMark 8 = .ok (.if_icmp .eq 19, 3) := by decide +kernel
theorem dX7_agentMark_11 : decode cX7_agentMark 11 = .ok (.aload_n 0, 1) := by decide +kernel
theorem dX7_agentMark_12 : decode cX7_agentMark 12 = .ok (.iload_n 2, 1) := by decide +kernel
theorem dX7_agentMark_13 : decode cX7_agentMark 13 = .ok (.iconst 2, 1) := by decide +kernel
theorem dX7_agentMark_14 : decode cX7_agentMark 14 = .ok (.if_icmp .ne 8, 3) := by decide +kernel
theorem dX7_agentMark_17 : decode cX7_agentMark 17 = .ok (.bipush 24, 2) := by decide +kernel
theorem dX7_agentMark_19 : decode cX7_agentMark 19 = .ok (.goto 5, 3) := by decide +kernel
theorem dX7_agentMark_22 : decode cX7_agentMark 22 = .ok (.bipush 22, 2) := by decide +kernel
theorem dX7_agentMark_24 : decode cX7_agentMark 24 = .ok (.invokevirtual 246, 3) := by decide +kernel
theorem dX7_agentMark_27 : decode cX7_agentMark 27 = .ok (.aload_n 0, 1) := by decide +kernel
theorem dX7_agentMark_28 : decode cX7_agentMark 28 = .ok (.bipush 21, 2) := by decide +kernel
theorem dX7_agentMark_30 : decode cX7_agentMark 30 = .ok (.invokevirtual 246, 3) := by decide +kernel
theorem dX7_agentMark_33 : decode cX7_agentMark 33 = .ok (.aload_n 0, 1) := by decide +kernel
theorem dX7_agentMark_34 : decode cX7_agentMark 34 = .ok (.bipush 20, 2) := by decide +kernel
theorem dX7_agentMark_36 : decode cX7_agentMark 36 = .ok (.invokevirtual 246, 3) := by decide +kernel
theorem dX7_agentMark_39 : decode cX7_agentMark 39 = .ok (.iload_n 1, 1) := by decide +kernel
theorem dX7_agentMark_40 : decode cX7_agentMark 40 = .ok (.aload_n 0, 1) := by decide +kernel
theorem dX7_agentMark_41 : decode cX7_agentMark 41 = .ok (.getfield 25, 3) := by decide +kernel
theorem dX7_agentMark_44 : decode cX7_agentMark 44 = .ok (.bipush 22, 2) := by decide +kernel
theorem dX7_agentMark_46 : decode cX7_agentMark 46 = .ok (.bipush 6, 2) := by decide +kernel
theorem dX7_agentMark_48 : decode cX7_agentMark 48 = .ok (.iload_n 1, 1) := by decide +kernel
theorem dX7_agentMark_49 : decode cX7_agentMark 49 = .ok (.imul, 1) := by decide +kernel
theorem dX7_agentMark_50 : decode cX7_agentMark 50 = .ok (.iadd, 1) := by decide +kernel
theorem dX7_agentMark_51 : decode cX7_agentMark 51 = .ok (.iconst 5, 1) := by decide +kernel
theorem dX7_agentMark_52 : decode cX7_agentMark 52 = .ok (.iadd, 1) := by decide +kernel
theorem dX7_agentMark_53 : decode cX7_agentMark 53 = .ok (.iaload, 1) := by decide +kernel
theorem dX7_agentMark_54 : decode cX7_agentMark 54 = .ok (.iadd, 1) := by decide +kernel
theorem dX7_agentMark_55 : decode cX7_agentMark 55 = .ok (.istore_n 3, 1) := by decide +kernel
theorem dX7_agentMark_56 : decode cX7_agentMark 56 = .ok (.iload_n 2, 1) := by decide +kernel
theorem dX7_agentMark_57 : decode cX7_agentMark 57 = .ok (.iconst 2, 1) := by decide +kernel
theorem dX7_agentMark_58 : decode cX7_agentMark 58 = .ok (.if_icmp .ne 9, 3) := by decide +kernel
theorem dX7_agentMark_61 : decode cX7_agentMark 61 = .ok (.iconst 2, 1) := by decide +kernel
theorem dX7_agentMark_62 : decode cX7_agentMark 62 = .ok (.iload_n 3, 1) := by decide +kernel
theorem dX7_agentMark_63 : decode cX7_agentMark 63 = .ok (.imul, 1) := by decide +kernel
theorem dX7_agentMark_64 : decode cX7_agentMark 64 = .ok (.goto 17, 3) := by decide +kernel
theorem dX7_agentMark_67 : decode cX7_agentMark 67 = .ok (.iload_n 2, 1) := by decide +kernel
theorem dX7_agentMark_68 : decode cX7_agentMark 68 = .ok (.iconst 3, 1) := by decide +kernel
theorem dX7_agentMark_69 : decode cX7_agentMark 69 = .ok (.if_icmp .ne 11, 3) := by decide +kernel
theorem dX7_agentMark_72 : decode cX7_agentMark 72 = .ok (.iload_n 3, 1) := by decide +kernel
theorem dX7_agentMark_73 : decode cX7_agentMark 73 = .ok (.sipush 1000, 3) := by decide +kernel
theorem dX7_agentMark_76 : decode cX7_agentMark 76 = .ok (.isub, 1) := by decide +kernel
theorem dX7_agentMark_77 : decode cX7_agentMark 77 = .ok (.goto 4, 3) := by decide +kernel
theorem dX7_agentMark_80 : decode cX7_agentMark 80 = .ok (.iload_n 3, 1) := by decide +kernel
theorem dX7_agentMark_81 : decode cX7_agentMark 81 = .ok (.ireturn, 1) := by decide +kernel
theorem dX7_oldSize_0 : decode cX7_oldSize 0 = .ok (.aload_n 0, 1) := by decide +kernel
theorem dX7_oldSize_1 : decode cX7_oldSize 1 = .ok (.iload_n 1, 1) := by decide +kernel
theorem dX7_oldSize_2 : decode cX7_oldSize 2 = .ok (.invokevirtual 240, 3) := by decide +kernel
theorem dX7_oldSize_5 : decode cX7_oldSize 5 = .ok (.iconst 5, 1) := by decide +kernel
theorem dX7_oldSize_6 : decode cX7_oldSize 6 = .ok (.if_icmp .ne 7, 3) := by decide +kernel
theorem dX7_oldSize_9 : decode cX7_oldSize 9 = .ok (.iconst 1, 1) := by decide +kernel
theorem dX7_oldSize_10 : decode cX7_oldSize 10 = .ok (.goto 4, 3) := by decide +kernel
theorem dX7_oldSize_13 : decode cX7_oldSize 13 = .ok (.iconst 0, 1) := by decide +kernel
theorem dX7_oldSize_14 : decode cX7_oldSize 14 = .ok (.istore_n 2, 1) := by decide +kernel
theorem dX7_oldSize_15 : decode cX7_oldSize 15 = .ok (.iload_n 2, 1) := by decide +kernel
theorem dX7_oldSize_16 : decode cX7_oldSize 16 = .ok (.ifCond .eq 9, 3) := by decide +kernel
theorem dX7_oldSize_19 : decode cX7_oldSize 19 = .ok (.aload_n 0, 1) := by decide +kernel
theorem dX7_oldSize_20 : decode cX7_oldSize 20 = .ok (.bipush 14, 2) := by decide +kernel
theorem dX7_oldSize_22 : decode cX7_oldSize 22 = .ok (.invokevirtual 246, 3) := by decide +kernel
theorem dX7_oldSize_25 : decode cX7_oldSize 25 = .ok (.aload_n 0, 1) := by decide +kernel
theorem dX7_oldSize_26 : decode cX7_oldSize 26 = .ok (.bipush 13, 2) := by decide +kernel
theorem dX7_oldSize_28 : decode cX7_oldSize 28 = .ok (.invokevirtual 246, 3) := by decide +kernel
theorem dX7_oldSize_31 : decode cX7_oldSize 31 = .ok (.aload_n 0, 1) := by decide +kernel
theorem dX7_oldSize_32 : decode cX7_oldSize 32 = .ok (.bipush 10, 2) := by decide +kernel
theorem dX7_oldSize_34 : decode cX7_oldSize 34 = .ok (.invokevirtual 246, 3) := by decide +kernel
theorem dX7_oldSize_37 : decode cX7_oldSize 37 = .ok (.aload_n 0, 1) := by decide +kernel
theorem dX7_oldSize_38 : decode cX7_oldSize 38 = .ok (.getfield 25, 3) := by decide +kernel
theorem dX7_oldSize_41 : decode cX7_oldSize 41 = .ok (.bipush 22, 2) := by decide +kernel
theorem dX7_oldSize_43 : decode cX7_oldSize 43 = .ok (.bipush 6, 2) := by decide +kernel
theorem dX7_oldSize_45 : decode cX7_oldSize 45 = .ok (.iload_n 1, 1) := by decide +kernel
theorem dX7_oldSize_46 : decode cX7_oldSize 46 = .ok (.imul, 1) := by decide +kernel
theorem dX7_oldSize_47 : decode cX7_oldSize 47 = .ok (.iadd, 1) := by decide +kernel
theorem dX7_oldSize_48 : decode cX7_oldSize 48 = .ok (.iconst 2, 1) := by decide +kernel
theorem dX7_oldSize_49 : decode cX7_oldSize 49 = .ok (.iadd, 1) := by decide +kernel
theorem dX7_oldSize_50 : decode cX7_oldSize 50 = .ok (.iaload, 1) := by decide +kernel
theorem dX7_oldSize_51 : decode cX7_oldSize 51 = .ok (.bipush 100, 2) := by decide +kernel
theorem dX7_oldSize_53 : decode cX7_oldSize 53 = .ok (.isub, 1) := by decide +kernel
theorem dX7_oldSize_54 : decode cX7_oldSize 54 = .ok (.istore_n 3, 1) := by decide +kernel
theorem dX7_oldSize_55 : decode cX7_oldSize 55 = .ok (.iload_n 2, 1) := by decide +kernel
theorem dX7_oldSize_56 : decode cX7_oldSize 56 = .ok (.ifCond .eq 9, 3) := by decide +kernel
theorem dX7_oldSize_59 : decode cX7_oldSize 59 = .ok (.iconst 2, 1) := by decide +kernel
theorem dX7_oldSize_60 : decode cX7_oldSize 60 = .ok (.iload_n 3, 1) := by decide +kernel
theorem dX7_oldSize_61 : decode cX7_oldSize 61 = .ok (.imul, 1) := by decide +kernel
theorem dX7_oldSize_62 : decode cX7_oldSize 62 = .ok (.goto 4, 3) := by decide +kernel
theorem dX7_oldSize_65 : decode cX7_oldSize 65 = .ok (.iload_n 3, 1) := by decide +kernel
theorem dX7_oldSize_66 : decode cX7_oldSize 66 = .ok (.ireturn, 1) := by decide +kernel
theorem dX7_agentSize_0 : decode cX7_agentSize 0 = .ok (.aload_n 0, 1) := by decide +kernel
theorem dX7_agentSize_1 : decode cX7_agentSize 1 = .ok (.iload_n 1, 1) := by decide +kernel
theorem dX7_agentSize_2 : decode cX7_agentSize 2 = .ok (.invokevirtual 240, 3) := by decide +kernel
theorem dX7_agentSize_5 : decode cX7_agentSize 5 = .ok (.iconst 2, 1) := by decide +kernel
theorem dX7_agentSize_6 : decode cX7_agentSize 6 = .ok (.if_icmp .ne 7, 3) := by decide +kernel
theorem dX7_agentSize_9 : decode cX7_agentSize 9 = .ok (.iconst 1, 1) := by decide +kernel
theorem dX7_agentSize_10 : decode cX7_agentSize 10 = .ok (.goto 4, 3) := by decide +kernel
theorem dX7_agentSize_13 : decode cX7_agentSize 13 = .ok (.iconst 0, 1) := by decide +kernel
theorem dX7_agentSize_14 : decode cX7_agentSize 14 = .ok (.istore_n 2, 1) := by decide +kernel
theorem dX7_agentSize_15 : decode cX7_agentSize 15 = .ok (.iload_n 2, 1) := by decide +kernel
theorem dX7_agentSize_16 : decode cX7_agentSize 16 = .ok (.ifCond .eq 9, 3) := by decide +kernel
theorem dX7_agentSize_19 : decode cX7_agentSize 19 = .ok (.aload_n 0, 1) := by decide +kernel
theorem dX7_agentSize_20 : decode cX7_agentSize 20 = .ok (.bipush 12, 2) := by decide +kernel
theorem dX7_agentSize_22 : decode cX7_agentSize 22 = .ok (.invokevirtual 246, 3) := by decide +kernel
theorem dX7_agentSize_25 : decode cX7_agentSize 25 = .ok (.aload_n 0, 1) := by decide +kernel
theorem dX7_agentSize_26 : decode cX7_agentSize 26 = .ok (.bipush 11, 2) := by decide +kernel
theorem dX7_agentSize_28 : decode cX7_agentSize 28 = .ok (.invokevirtual 246, 3) := by decide +kernel
theorem dX7_agentSize_31 : decode cX7_agentSize 31 = .ok (.aload_n 0, 1) := by decide +kernel
theorem dX7_agentSize_32 : decode cX7_agentSize 32 = .ok (.bipush 10, 2) := by decide +kernel
theorem dX7_agentSize_34 : decode cX7_agentSize 34 = .ok (.invokevirtual 246, 3) := by decide +kernel
theorem dX7_agentSize_37 : decode cX7_agentSize 37 = .ok (.aload_n 0, 1) := by decide +kernel
theorem dX7_agentSize_38 : decode cX7_agentSize 38 = .ok (.getfield 25, 3) := by decide +kernel
theorem dX7_agentSize_41 : decode cX7_agentSize 41 = .ok (.bipush 22, 2) := by decide +kernel
theorem dX7_agentSize_43 : decode cX7_agentSize 43 = .ok (.bipush 6, 2) := by decide +kernel
theorem dX7_agentSize_45 : decode cX7_agentSize 45 = .ok (.iload_n 1, 1) := by decide +kernel
theorem dX7_agentSize_46 : decode cX7_agentSize 46 = .ok (.imul, 1) := by decide +kernel
theorem dX7_agentSize_47 : decode cX7_agentSize 47 = .ok (.iadd, 1) := by decide +kernel
theorem dX7_agentSize_48 : decode cX7_agentSize 48 = .ok (.iconst 2, 1) := by decide +kernel
theorem dX7_agentSize_49 : decode cX7_agentSize 49 = .ok (.iadd, 1) := by decide +kernel
theorem dX7_agentSize_50 : decode cX7_agentSize 50 = .ok (.iaload, 1) := by decide +kernel
theorem dX7_agentSize_51 : decode cX7_agentSize 51 = .ok (.aload_n 0, 1) := by decide +kernel
theorem dX7_agentSize_52 : decode cX7_agentSize 52 = .ok (.iload_n 1, 1) := by decide +kernel
theorem dX7_agentSize_53 : decode cX7_agentSize 53 = .ok (.invokevirtual 249, 3) := by decide +kernel
theorem dX7_agentSize_56 : decode cX7_agentSize 56 = .ok (.iadd, 1) := by decide +kernel
theorem dX7_agentSize_57 : decode cX7_agentSize 57 = .ok (.istore_n 3, 1) := by decide +kernel
theorem dX7_agentSize_58 : decode cX7_agentSize 58 = .ok (.iload_n 2, 1) := by decide +kernel
theorem dX7_agentSize_59 : decode cX7_agentSize 59 = .ok (.ifCond .eq 8, 3) := by decide +kernel
theorem dX7_agentSize_62 : decode cX7_agentSize 62 = .ok (.iload_n 3, 1) := by decide +kernel
theorem dX7_agentSize_63 : decode cX7_agentSize 63 = .ok (.ineg, 1) := by decide +kernel
theorem dX7_agentSize_64 : decode cX7_agentSize 64 = .ok (.goto 4, 3) := by decide +kernel
theorem dX7_agentSize_67 : decode cX7_agentSize 67 = .ok (.iload_n 3, 1) := by decide +kernel
theorem dX7_agentSize_68 : decode cX7_agentSize 68 = .ok (.ireturn, 1) := by decide +kernel
theorem dX7_oldMark_0 : decode cX7_oldMark 0 = .ok (.aload_n 0, 1) := by decide +kernel
theorem dX7_oldMark_1 : decode cX7_oldMark 1 = .ok (.bipush 23, 2) := by decide +kernel
theorem dX7_oldMark_3 : decode cX7_oldMark 3 = .ok (.invokevirtual 246, 3) := by decide +kernel
theorem dX7_oldMark_6 : decode cX7_oldMark 6 = .ok (.aload_n 0, 1) := by decide +kernel
theorem dX7_oldMark_7 : decode cX7_oldMark 7 = .ok (.bipush 20, 2) := by decide +kernel
theorem dX7_oldMark_9 : decode cX7_oldMark 9 = .ok (.invokevirtual 246, 3) := by decide +kernel
theorem dX7_oldMark_12 : decode cX7_oldMark 12 = .ok (.iload_n 1, 1) := by decide +kernel
theorem dX7_oldMark_13 : decode cX7_oldMark 13 = .ok (.aload_n 0, 1) := by decide +kernel
theorem dX7_oldMark_14 : decode cX7_oldMark 14 = .ok (.iload_n 1, 1) := by decide +kernel
theorem dX7_oldMark_15 : decode cX7_oldMark 15 = .ok (.invokevirtual 252, 3) := by decide +kernel
theorem dX7_oldMark_18 : decode cX7_oldMark 18 = .ok (.isub, 1) := by decide +kernel
theorem dX7_oldMark_19 : decode cX7_oldMark 19 = .ok (.ireturn, 1) := by decide +kernel
theorem dX7_ask_0 : decode cX7_ask 0 = .ok (.aload_n 0, 1) := by decide +kernel
theorem dX7_ask_1 : decode cX7_ask 1 = .ok (.iload_n 1, 1) := by decide +kernel
theorem dX7_ask_2 : decode cX7_ask 2 = .ok (.invokevirtual 193, 3) := by decide +kernel
theorem dX7_ask_5 : decode cX7_ask 5 = .ok (.ifCond .eq 12, 3) := by decide +kernel
theorem dX7_ask_8 : decode cX7_ask 8 = .ok (.iload_n 2, 1) := by decide +kernel
theorem dX7_ask_9 : decode cX7_ask 9 = .ok (.iconst 0, 1) := by decide +kernel
theorem dX7_ask_10 : decode cX7_ask 10 = .ok (.iconst 1, 1) := by decide +kernel
theorem dX7_ask_11 : decode cX7_ask 11 = .ok (.invokestatic 62, 3) := by decide +kernel
theorem dX7_ask_14 : decode cX7_ask 14 = .ok (.ifCond .ne 6, 3) := by decide +kernel
theorem dX7_ask_17 : decode cX7_ask 17 = .ok (.ldc 70, 2) := by decide +kernel
theorem dX7_ask_19 : decode cX7_ask 19 = .ok (.ireturn, 1) := by decide +kernel
theorem dX7_ask_20 : decode cX7_ask 20 = .ok (.aload_n 0, 1) := by decide +kernel
theorem dX7_ask_21 : decode cX7_ask 21 = .ok (.iconst 0, 1) := by decide +kernel
theorem dX7_ask_22 : decode cX7_ask 22 = .ok (.putfield 243, 3) := by decide +kernel
theorem dX7_ask_25 : decode cX7_ask 25 = .ok (.aload_n 0, 1) := by decide +kernel
theorem dX7_ask_26 : decode cX7_ask 26 = .ok (.iload_n 1, 1) := by decide +kernel
theorem dX7_ask_27 : decode cX7_ask 27 = .ok (.invokevirtual 240, 3) := by decide +kernel
theorem dX7_ask_30 : decode cX7_ask 30 = .ok (.iconst 4, 1) := by decide +kernel
theorem dX7_ask_31 : decode cX7_ask 31 = .ok (.if_icmp .lt 7, 3) := by decide +kernel
theorem dX7_ask_34 : decode cX7_ask 34 = .ok (.iconst 1, 1) := by decide +kernel
theorem dX7_ask_35 : decode cX7_ask 35 = .ok (.goto 4, 3) := by decide +kernel
theorem dX7_ask_38 : decode cX7_ask 38 = .ok (.iconst 0, 1) := by decide +kernel
theorem dX7_ask_39 : decode cX7_ask 39 = .ok (.istore_n 3, 1) := by decide +kernel
theorem dX7_ask_40 : decode cX7_ask 40 = .ok (.iload_n 2, 1) := by decide +kernel
theorem dX7_ask_41 : decode cX7_ask 41 = .ok (.ifCond .ne 21, 3) := by decide +kernel
theorem dX7_ask_44 : decode cX7_ask 44 = .ok (.iload_n 3, 1) := by decide +kernel
theorem dX7_ask_45 : decode cX7_ask 45 = .ok (.ifCond .eq 11, 3) := by decide +kernel
theorem dX7_ask_48 : decode cX7_ask 48 = .ok (.aload_n 0, 1) := by decide +kernel
theorem dX7_ask_49 : decode cX7_ask 49 = .ok (.iload_n 1, 1) := by decide +kernel
theorem dX7_ask_50 : decode cX7_ask 50 = .ok (.invokevirtual 252, 3) := by decide +kernel
theorem dX7_ask_53 : decode cX7_ask 53 = .ok (.goto 8, 3) := by decide +kernel
theorem dX7_ask_56 : decode cX7_ask 56 = .ok (.aload_n 0, 1) := by decide +kernel
theorem dX7_ask_57 : decode cX7_ask 57 = .ok (.iload_n 1, 1) := by decide +kernel
theorem dX7_ask_58 : decode cX7_ask 58 = .ok (.invokevirtual 255, 3) := by decide +kernel
theorem dX7_ask_61 : decode cX7_ask 61 = .ok (.ireturn, 1) := by decide +kernel
theorem dX7_ask_62 : decode cX7_ask 62 = .ok (.iload_n 3, 1) := by decide +kernel
theorem dX7_ask_63 : decode cX7_ask 63 = .ok (.ifCond .eq 11, 3) := by decide +kernel
theorem dX7_ask_66 : decode cX7_ask 66 = .ok (.aload_n 0, 1) := by decide +kernel
theorem dX7_ask_67 : decode cX7_ask 67 = .ok (.iload_n 1, 1) := by decide +kernel
theorem dX7_ask_68 : decode cX7_ask 68 = .ok (.invokevirtual 258, 3) := by decide +kernel
theorem dX7_ask_71 : decode cX7_ask 71 = .ok (.goto 8, 3) := by decide +kernel
theorem dX7_ask_74 : decode cX7_ask 74 = .ok (.aload_n 0, 1) := by decide +kernel
theorem dX7_ask_75 : decode cX7_ask 75 = .ok (.iload_n 1, 1) := by decide +kernel
theorem dX7_ask_76 : decode cX7_ask 76 = .ok (.invokevirtual 249, 3) := by decide +kernel
theorem dX7_ask_79 : decode cX7_ask 79 = .ok (.ireturn, 1) := by decide +kernel
theorem dX7_trace_0 : decode cX7_trace 0 = .ok (.iload_n 1, 1) := by decide +kernel
theorem dX7_trace_1 : decode cX7_trace 1 = .ok (.iconst 0, 1) := by decide +kernel
theorem dX7_trace_2 : decode cX7_trace 2 = .ok (.aload_n 0, 1) := by decide +kernel
theorem dX7_trace_3 : decode cX7_trace 3 = .ok (.getfield 243, 3) := by decide +kernel
theorem dX7_trace_6 : decode cX7_trace 6 = .ok (.iconst 1, 1) := by decide +kernel
theorem dX7_trace_7 : decode cX7_trace 7 = .ok (.isub, 1) := by decide +kernel
theorem dX7_trace_8 : decode cX7_trace 8 = .ok (.invokestatic 62, 3) := by decide +kernel
theorem dX7_trace_11 : decode cX7_trace 11 = .ok (.ifCond .eq 12, 3) := by decide +kernel
theorem dX7_trace_14 : decode cX7_trace 14 = .ok (.aload_n 0, 1) := by decide +kernel
theorem dX7_trace_15 : decode cX7_trace 15 = .ok (.getfield 53, 3) := by decide +kernel
theorem dX7_trace_18 : decode cX7_trace 18 = .ok (.iload_n 1, 1) := by decide +kernel
theorem dX7_trace_19 : decode cX7_trace 19 = .ok (.iaload, 1) := by decide +kernel
theorem dX7_trace_20 : decode cX7_trace 20 = .ok (.goto 5, 3) := by decide +kernel
theorem dX7_trace_23 : decode cX7_trace 23 = .ok (.ldc 56, 2) := by decide +kernel
theorem dX7_trace_25 : decode cX7_trace 25 = .ok (.ireturn, 1) := by decide +kernel
theorem dX7_count_0 : decode cX7_count 0 = .ok (.iconst 0, 1) := by decide +kernel
theorem dX7_count_1 : decode cX7_count 1 = .ok (.istore_n 2, 1) := by decide +kernel
theorem dX7_count_2 : decode cX7_count 2 = .ok (.iload_n 1, 1) := by decide +kernel
theorem dX7_count_3 : decode cX7_count 3 = .ok (.tableswitch 145 0 9 #[53, 85, 92, 99, 106, 113, 120, 127, 135, 140], 53) := by decide +kernel
theorem dX7_count_56 : decode cX7_count 56 = .ok (.iconst 0, 1) := by decide +kernel
theorem dX7_count_57 : decode cX7_count 57 = .ok (.istore_n 3, 1) := by decide +kernel
theorem dX7_count_58 : decode cX7_count 58 = .ok (.iload_n 3, 1) := by decide +kernel
theorem dX7_count_59 : decode cX7_count 59 = .ok (.bipush 8, 2) := by decide +kernel
theorem dX7_count_61 : decode cX7_count 61 = .ok (.if_icmp .ge 25, 3) := by decide +kernel
theorem dX7_count_64 : decode cX7_count 64 = .ok (.iload_n 2, 1) := by decide +kernel
theorem dX7_count_65 : decode cX7_count 65 = .ok (.aload_n 0, 1) := by decide +kernel
theorem dX7_count_66 : decode cX7_count 66 = .ok (.iload_n 3, 1) := by decide +kernel
theorem dX7_count_67 : decode cX7_count 67 = .ok (.invokevirtual 78, 3) := by decide +kernel
theorem dX7_count_70 : decode cX7_count 70 = .ok (.ifCond .eq 7, 3) := by decide +kernel
theorem dX7_count_73 : decode cX7_count 73 = .ok (.iconst 0, 1) := by decide +kernel
theorem dX7_count_74 : decode cX7_count 74 = .ok (.goto 4, 3) := by decide +kernel
theorem dX7_count_77 : decode cX7_count 77 = .ok (.iconst 1, 1) := by decide +kernel
theorem dX7_count_78 : decode cX7_count 78 = .ok (.iadd, 1) := by decide +kernel
theorem dX7_count_79 : decode cX7_count 79 = .ok (.istore_n 2, 1) := by decide +kernel
theorem dX7_count_80 : decode cX7_count 80 = .ok (.iinc 3 1, 3) := by decide +kernel
theorem dX7_count_83 : decode cX7_count 83 = .ok (.goto (-25), 3) := by decide +kernel
theorem dX7_count_86 : decode cX7_count 86 = .ok (.iload_n 2, 1) := by decide +kernel
theorem dX7_count_87 : decode cX7_count 87 = .ok (.ireturn, 1) := by decide +kernel
theorem dX7_count_88 : decode cX7_count 88 = .ok (.aload_n 0, 1) := by decide +kernel
theorem dX7_count_89 : decode cX7_count 89 = .ok (.getfield 25, 3) := by decide +kernel
theorem dX7_count_92 : decode cX7_count 92 = .ok (.iconst 1, 1) := by decide +kernel
theorem dX7_count_93 : decode cX7_count 93 = .ok (.iaload, 1) := by decide +kernel
theorem dX7_count_94 : decode cX7_count 94 = .ok (.ireturn, 1) := by decide +kernel
theorem dX7_count_95 : decode cX7_count 95 = .ok (.aload_n 0, 1) := by decide +kernel
theorem dX7_count_96 : decode cX7_count 96 = .ok (.getfield 25, 3) := by decide +kernel
theorem dX7_count_99 : decode cX7_count 99 = .ok (.iconst 2, 1) := by decide +kernel
theorem dX7_count_100 : decode cX7_count 100 = .ok (.iaload, 1) := by decide +kernel
theorem dX7_count_101 : decode cX7_count 101 = .ok (.ireturn, 1) := by decide +kernel
theorem dX7_count_102 : decode cX7_count 102 = .ok (.aload_n 0, 1) := by decide +kernel
theorem dX7_count_103 : decode cX7_count 103 = .ok (.getfield 25, 3) := by decide +kernel
theorem dX7_count_106 : decode cX7_count 106 = .ok (.iconst 3, 1) := by decide +kernel
theorem dX7_count_107 : decode cX7_count 107 = .ok (.iaload, 1) := by decide +kernel
theorem dX7_count_108 : decode cX7_count 108 = .ok (.ireturn, 1) := by decide +kernel
theorem dX7_count_109 : decode cX7_count 109 = .ok (.aload_n 0, 1) := by decide +kernel
theorem dX7_count_110 : decode cX7_count 110 = .ok (.getfield 25, 3) := by decide +kernel
theorem dX7_count_113 : decode cX7_count 113 = .ok (.iconst 4, 1) := by decide +kernel
theorem dX7_count_114 : decode cX7_count 114 = .ok (.iaload, 1) := by decide +kernel
theorem dX7_count_115 : decode cX7_count 115 = .ok (.ireturn, 1) := by decide +kernel
theorem dX7_count_116 : decode cX7_count 116 = .ok (.aload_n 0, 1) := by decide +kernel
theorem dX7_count_117 : decode cX7_count 117 = .ok (.getfield 25, 3) := by decide +kernel
theorem dX7_count_120 : decode cX7_count 120 = .ok (.iconst 0, 1) := by decide +kernel
theorem dX7_count_121 : decode cX7_count 121 = .ok (.iaload, 1) := by decide +kernel
theorem dX7_count_122 : decode cX7_count 122 = .ok (.ireturn, 1) := by decide +kernel
theorem dX7_count_123 : decode cX7_count 123 = .ok (.aload_n 0, 1) := by decide +kernel
theorem dX7_count_124 : decode cX7_count 124 = .ok (.getfield 25, 3) := by decide +kernel
theorem dX7_count_127 : decode cX7_count 127 = .ok (.iconst 5, 1) := by decide +kernel
theorem dX7_count_128 : decode cX7_count 128 = .ok (.iaload, 1) := by decide +kernel
theorem dX7_count_129 : decode cX7_count 129 = .ok (.ireturn, 1) := by decide +kernel
theorem dX7_count_130 : decode cX7_count 130 = .ok (.aload_n 0, 1) := by decide +kernel
theorem dX7_count_131 : decode cX7_count 131 = .ok (.getfield 25, 3) := by decide +kernel
theorem dX7_count_134 : decode cX7_count 134 = .ok (.invokestatic 231, 3) := by decide +kernel
theorem dX7_count_137 : decode cX7_count 137 = .ok (.ireturn, 1) := by decide +kernel
theorem dX7_count_138 : decode cX7_count 138 = .ok (.aload_n 0, 1) := by decide +kernel
theorem dX7_count_139 : decode cX7_count 139 = .ok (.getfield 155, 3) := by decide +kernel
theorem dX7_count_142 : decode cX7_count 142 = .ok (.ireturn, 1) := by decide +kernel
theorem dX7_count_143 : decode cX7_count 143 = .ok (.aload_n 0, 1) := by decide +kernel
theorem dX7_count_144 : decode cX7_count 144 = .ok (.getfield 88, 3) := by decide +kernel
theorem dX7_count_147 : decode cX7_count 147 = .ok (.ireturn, 1) := by decide +kernel
theorem dX7_count_148 : decode cX7_count 148 = .ok (.ldc 70, 2) := by decide +kernel
theorem dX7_count_150 : decode cX7_count 150 = .ok (.ireturn, 1) := by decide +kernel
theorem dX7_status_0 : decode cX7_status 0 = .ok (.aload_n 0, 1) := by decide +kernel
theorem dX7_status_1 : decode cX7_status 1 = .ok (.getfield 57, 3) := by decide +kernel
theorem dX7_status_4 : decode cX7_status 4 = .ok (.ireturn, 1) := by decide +kernel
theorem dJ6_bitCount_0f7a4_0 : decode cJ6_bitCount_0f7a4 0 = .ok (.iload_n 0, 1) := by decide +kernel
theorem dJ6_bitCount_0f7a4_1 : decode cJ6_bitCount_0f7a4 1 = .ok (.iload_n 0, 1) := by decide +kernel
theorem dJ6_bitCount_0f7a4_2 : decode cJ6_bitCount_0f7a4 2 = .ok (.iconst 1, 1) := by decide +kernel
theorem dJ6_bitCount_0f7a4_3 : decode cJ6_bitCount_0f7a4 3 = .ok (.iushr, 1) := by decide +kernel
theorem dJ6_bitCount_0f7a4_4 : decode cJ6_bitCount_0f7a4 4 = .ok (.ldc_w 265, 3) := by decide +kernel
theorem dJ6_bitCount_0f7a4_7 : decode cJ6_bitCount_0f7a4 7 = .ok (.iand, 1) := by decide +kernel
theorem dJ6_bitCount_0f7a4_8 : decode cJ6_bitCount_0f7a4 8 = .ok (.isub, 1) := by decide +kernel
theorem dJ6_bitCount_0f7a4_9 : decode cJ6_bitCount_0f7a4 9 = .ok (.istore_n 0, 1) := by decide +kernel
theorem dJ6_bitCount_0f7a4_10 : decode cJ6_bitCount_0f7a4 10 = .ok (.iload_n 0, 1) := by decide +kernel
theorem dJ6_bitCount_0f7a4_11 : decode cJ6_bitCount_0f7a4 11 = .ok (.ldc_w 266, 3) := by decide +kernel
theorem dJ6_bitCount_0f7a4_14 : decode cJ6_bitCount_0f7a4 14 = .ok (.iand, 1) := by decide +kernel
theorem dJ6_bitCount_0f7a4_15 : decode cJ6_bitCount_0f7a4 15 = .ok (.iload_n 0, 1) := by decide +kernel
theorem dJ6_bitCount_0f7a4_16 : decode cJ6_bitCount_0f7a4 16 = .ok (.iconst 2, 1) := by decide +kernel
theorem dJ6_bitCount_0f7a4_17 : decode cJ6_bitCount_0f7a4 17 = .ok (.iushr, 1) := by decide +kernel
theorem dJ6_bitCount_0f7a4_18 : decode cJ6_bitCount_0f7a4 18 = .ok (.ldc_w 266, 3) := by decide +kernel
theorem dJ6_bitCount_0f7a4_21 : decode cJ6_bitCount_0f7a4 21 = .ok (.iand, 1) := by decide +kernel
theorem dJ6_bitCount_0f7a4_22 : decode cJ6_bitCount_0f7a4 22 = .ok (.iadd, 1) := by decide +kernel
theorem dJ6_bitCount_0f7a4_23 : decode cJ6_bitCount_0f7a4 23 = .ok (.istore_n 0, 1) := by decide +kernel
theorem dJ6_bitCount_0f7a4_24 : decode cJ6_bitCount_0f7a4 24 = .ok (.iload_n 0, 1) := by decide +kernel
theorem dJ6_bitCount_0f7a4_25 : decode cJ6_bitCount_0f7a4 25 = .ok (.iload_n 0, 1) := by decide +kernel
theorem dJ6_bitCount_0f7a4_26 : decode cJ6_bitCount_0f7a4 26 = .ok (.iconst 4, 1) := by decide +kernel
theorem dJ6_bitCount_0f7a4_27 : decode cJ6_bitCount_0f7a4 27 = .ok (.iushr, 1) := by decide +kernel
theorem dJ6_bitCount_0f7a4_28 : decode cJ6_bitCount_0f7a4 28 = .ok (.iadd, 1) := by decide +kernel
theorem dJ6_bitCount_0f7a4_29 : decode cJ6_bitCount_0f7a4 29 = .ok (.ldc_w 267, 3) := by decide +kernel
theorem dJ6_bitCount_0f7a4_32 : decode cJ6_bitCount_0f7a4 32 = .ok (.iand, 1) := by decide +kernel
theorem dJ6_bitCount_0f7a4_33 : decode cJ6_bitCount_0f7a4 33 = .ok (.istore_n 0, 1) := by decide +kernel
theorem dJ6_bitCount_0f7a4_34 : decode cJ6_bitCount_0f7a4 34 = .ok (.iload_n 0, 1) := by decide +kernel
theorem dJ6_bitCount_0f7a4_35 : decode cJ6_bitCount_0f7a4 35 = .ok (.iload_n 0, 1) := by decide +kernel
theorem dJ6_bitCount_0f7a4_36 : decode cJ6_bitCount_0f7a4 36 = .ok (.bipush 8, 2) := by decide +kernel
theorem dJ6_bitCount_0f7a4_38 : decode cJ6_bitCount_0f7a4 38 = .ok (.iushr, 1) := by decide +kernel
theorem dJ6_bitCount_0f7a4_39 : decode cJ6_bitCount_0f7a4 39 = .ok (.iadd, 1) := by decide +kernel
theorem dJ6_bitCount_0f7a4_40 : decode cJ6_bitCount_0f7a4 40 = .ok (.istore_n 0, 1) := by decide +kernel
theorem dJ6_bitCount_0f7a4_41 : decode cJ6_bitCount_0f7a4 41 = .ok (.iload_n 0, 1) := by decide +kernel
theorem dJ6_bitCount_0f7a4_42 : decode cJ6_bitCount_0f7a4 42 = .ok (.iload_n 0, 1) := by decide +kernel
theorem dJ6_bitCount_0f7a4_43 : decode cJ6_bitCount_0f7a4 43 = .ok (.bipush 16, 2) := by decide +kernel
theorem dJ6_bitCount_0f7a4_45 : decode cJ6_bitCount_0f7a4 45 = .ok (.iushr, 1) := by decide +kernel
theorem dJ6_bitCount_0f7a4_46 : decode cJ6_bitCount_0f7a4 46 = .ok (.iadd, 1) := by decide +kernel
theorem dJ6_bitCount_0f7a4_47 : decode cJ6_bitCount_0f7a4 47 = .ok (.istore_n 0, 1) := by decide +kernel
theorem dJ6_bitCount_0f7a4_48 : decode cJ6_bitCount_0f7a4 48 = .ok (.iload_n 0, 1) := by decide +kernel
theorem dJ6_bitCount_0f7a4_49 : decode cJ6_bitCount_0f7a4 49 = .ok (.bipush 63, 2) := by decide +kernel
theorem dJ6_bitCount_0f7a4_51 : decode cJ6_bitCount_0f7a4 51 = .ok (.iand, 1) := by decide +kernel
theorem dJ6_bitCount_0f7a4_52 : decode cJ6_bitCount_0f7a4 52 = .ok (.ireturn, 1) := by decide +kernel
theorem dJ9_min_7cf53_0 : decode cJ9_min_7cf53 0 = .ok (.iload_n 0, 1) := by decide +kernel
theorem dJ9_min_7cf53_1 : decode cJ9_min_7cf53 1 = .ok (.iload_n 1, 1) := by decide +kernel
theorem dJ9_min_7cf53_2 : decode cJ9_min_7cf53 2 = .ok (.if_icmp .gt 7, 3) := by decide +kernel
theorem dJ9_min_7cf53_5 : decode cJ9_min_7cf53 5 = .ok (.iload_n 0, 1) := by decide +kernel
theorem dJ9_min_7cf53_6 : decode cJ9_min_7cf53 6 = .ok (.goto 4, 3) := by decide +kernel
theorem dJ9_min_7cf53_9 : decode cJ9_min_7cf53 9 = .ok (.iload_n 1, 1) := by decide +kernel
theorem dJ9_min_7cf53_10 : decode cJ9_min_7cf53 10 = .ok (.ireturn, 1) := by decide +kernel
end
