section
-- ===== PART A: goes FIRST, ahead of the names: the tables' words, and 'selects' of the private methods out of them =====
/-- a private method of a class that the tables say can be made, by its rows of tables_1 -/
def lw_okq (q : MethodName × Nat) : Prop := (q.1.cls ≠ "java/lang/invoke/MethodHandle" ∧ q.1.cls ≠ "java/lang/invoke/VarHandle") ∧ Cond.instantiable q.1.cls q.2 ∈ tables_1 ∧ Cond.privateMethod q.1 ∈ tables_1 ∧ Cond.instanceMethod q.1 ∈ tables_1
theorem lw_p0 : lw_okq (⟨"PinBoards", "finding", "(I)I"⟩, 8) := ⟨⟨by decide +kernel, by decide +kernel⟩, List.mem_of_getElem? (i := 13) (by decide +kernel), List.mem_of_getElem? (i := 239) (by decide +kernel), List.mem_of_getElem? (i := 240) (by decide +kernel)⟩
theorem lw_p1 : lw_okq (⟨"PinBoards", "foundNothing", "(I)I"⟩, 8) := ⟨⟨by decide +kernel, by decide +kernel⟩, List.mem_of_getElem? (i := 13) (by decide +kernel), List.mem_of_getElem? (i := 248) (by decide +kernel), List.mem_of_getElem? (i := 249) (by decide +kernel)⟩
theorem lw_p2 : lw_okq (⟨"PinBoards$Reader", "readLaw", "(LPinBoards$Board;)Z"⟩, 6) := ⟨⟨by decide +kernel, by decide +kernel⟩, List.mem_of_getElem? (i := 42) (by decide +kernel), List.mem_of_getElem? (i := 304) (by decide +kernel), List.mem_of_getElem? (i := 305) (by decide +kernel)⟩
theorem lw_p3 : lw_okq (⟨"PinBoards$Reader", "takes", "(I)Z"⟩, 6) := ⟨⟨by decide +kernel, by decide +kernel⟩, List.mem_of_getElem? (i := 42) (by decide +kernel), List.mem_of_getElem? (i := 308) (by decide +kernel), List.mem_of_getElem? (i := 309) (by decide +kernel)⟩
theorem lw_p4 : lw_okq (⟨"PinBoards$Reader", "isNext", "(I)Z"⟩, 6) := ⟨⟨by decide +kernel, by decide +kernel⟩, List.mem_of_getElem? (i := 42) (by decide +kernel), List.mem_of_getElem? (i := 312) (by decide +kernel), List.mem_of_getElem? (i := 313) (by decide +kernel)⟩
theorem lw_p5 : lw_okq (⟨"PinBoards$Reader", "faultAt", "(II)Z"⟩, 6) := ⟨⟨by decide +kernel, by decide +kernel⟩, List.mem_of_getElem? (i := 42) (by decide +kernel), List.mem_of_getElem? (i := 316) (by decide +kernel), List.mem_of_getElem? (i := 317) (by decide +kernel)⟩
theorem lw_p6 : lw_okq (⟨"PinBoards$Reader", "takesNumber", "(II)Z"⟩, 6) := ⟨⟨by decide +kernel, by decide +kernel⟩, List.mem_of_getElem? (i := 42) (by decide +kernel), List.mem_of_getElem? (i := 320) (by decide +kernel), List.mem_of_getElem? (i := 321) (by decide +kernel)⟩
theorem lw_p7 : lw_okq (⟨"PinBoards$Reader", "readCells", "(LPinBoards$Board;)Z"⟩, 6) := ⟨⟨by decide +kernel, by decide +kernel⟩, List.mem_of_getElem? (i := 42) (by decide +kernel), List.mem_of_getElem? (i := 325) (by decide +kernel), List.mem_of_getElem? (i := 326) (by decide +kernel)⟩
theorem lw_p8 : lw_okq (⟨"PinBoards$Reader", "readCell", "(LPinBoards$Board;)Z"⟩, 6) := ⟨⟨by decide +kernel, by decide +kernel⟩, List.mem_of_getElem? (i := 42) (by decide +kernel), List.mem_of_getElem? (i := 329) (by decide +kernel), List.mem_of_getElem? (i := 330) (by decide +kernel)⟩
theorem lw_p9 : lw_okq (⟨"PinBoards$Reader", "readPins", "(LPinBoards$Board;)Z"⟩, 6) := ⟨⟨by decide +kernel, by decide +kernel⟩, List.mem_of_getElem? (i := 42) (by decide +kernel), List.mem_of_getElem? (i := 333) (by decide +kernel), List.mem_of_getElem? (i := 334) (by decide +kernel)⟩
theorem lw_p10 : lw_okq (⟨"PinBoards$Reader", "readPin", "(LPinBoards$Board;)Z"⟩, 6) := ⟨⟨by decide +kernel, by decide +kernel⟩, List.mem_of_getElem? (i := 42) (by decide +kernel), List.mem_of_getElem? (i := 337) (by decide +kernel), List.mem_of_getElem? (i := 338) (by decide +kernel)⟩
theorem lw_p11 : lw_okq (⟨"PinBoards$Reader", "readHome", "(LPinBoards$Board;)Z"⟩, 6) := ⟨⟨by decide +kernel, by decide +kernel⟩, List.mem_of_getElem? (i := 42) (by decide +kernel), List.mem_of_getElem? (i := 344) (by decide +kernel), List.mem_of_getElem? (i := 345) (by decide +kernel)⟩
theorem lw_p12 : lw_okq (⟨"PinBoards$Board", "mix", "(I)V"⟩, 12) := ⟨⟨by decide +kernel, by decide +kernel⟩, List.mem_of_getElem? (i := 70) (by decide +kernel), List.mem_of_getElem? (i := 401) (by decide +kernel), List.mem_of_getElem? (i := 402) (by decide +kernel)⟩
theorem lw_p13 : lw_okq (⟨"PinBoards$Board", "yieldOfAll", "()I"⟩, 12) := ⟨⟨by decide +kernel, by decide +kernel⟩, List.mem_of_getElem? (i := 70) (by decide +kernel), List.mem_of_getElem? (i := 410) (by decide +kernel), List.mem_of_getElem? (i := 411) (by decide +kernel)⟩
theorem lw_p14 : lw_okq (⟨"PinBoards$Foresight", "isSamePlaces", "()Z"⟩, 2) := ⟨⟨by decide +kernel, by decide +kernel⟩, List.mem_of_getElem? (i := 147) (by decide +kernel), List.mem_of_getElem? (i := 512) (by decide +kernel), List.mem_of_getElem? (i := 513) (by decide +kernel)⟩
theorem lw_p15 : lw_okq (⟨"PinBoards$Board", "fillsHomes", "()Z"⟩, 12) := ⟨⟨by decide +kernel, by decide +kernel⟩, List.mem_of_getElem? (i := 70) (by decide +kernel), List.mem_of_getElem? (i := 528) (by decide +kernel), List.mem_of_getElem? (i := 529) (by decide +kernel)⟩
def lw_privs_1 : List (MethodName × Nat) := [(⟨"PinBoards", "finding", "(I)I"⟩, 8), (⟨"PinBoards", "foundNothing", "(I)I"⟩, 8), (⟨"PinBoards$Reader", "readLaw", "(LPinBoards$Board;)Z"⟩, 6), (⟨"PinBoards$Reader", "takes", "(I)Z"⟩, 6), (⟨"PinBoards$Reader", "isNext", "(I)Z"⟩, 6), (⟨"PinBoards$Reader", "faultAt", "(II)Z"⟩, 6), (⟨"PinBoards$Reader", "takesNumber", "(II)Z"⟩, 6), (⟨"PinBoards$Reader", "readCells", "(LPinBoards$Board;)Z"⟩, 6), (⟨"PinBoards$Reader", "readCell", "(LPinBoards$Board;)Z"⟩, 6), (⟨"PinBoards$Reader", "readPins", "(LPinBoards$Board;)Z"⟩, 6), (⟨"PinBoards$Reader", "readPin", "(LPinBoards$Board;)Z"⟩, 6), (⟨"PinBoards$Reader", "readHome", "(LPinBoards$Board;)Z"⟩, 6), (⟨"PinBoards$Board", "mix", "(I)V"⟩, 12), (⟨"PinBoards$Board", "yieldOfAll", "()I"⟩, 12), (⟨"PinBoards$Foresight", "isSamePlaces", "()Z"⟩, 2), (⟨"PinBoards$Board", "fillsHomes", "()Z"⟩, 12)]
theorem lw_r1 : ∀ q ∈ lw_privs_1, lw_okq q := List.forall_mem_cons.mpr ⟨lw_p0, List.forall_mem_cons.mpr ⟨lw_p1, List.forall_mem_cons.mpr ⟨lw_p2, List.forall_mem_cons.mpr ⟨lw_p3, List.forall_mem_cons.mpr ⟨lw_p4, List.forall_mem_cons.mpr ⟨lw_p5, List.forall_mem_cons.mpr ⟨lw_p6, List.forall_mem_cons.mpr ⟨lw_p7, List.forall_mem_cons.mpr ⟨lw_p8, List.forall_mem_cons.mpr ⟨lw_p9, List.forall_mem_cons.mpr ⟨lw_p10, List.forall_mem_cons.mpr ⟨lw_p11, List.forall_mem_cons.mpr ⟨lw_p12, List.forall_mem_cons.mpr ⟨lw_p13, List.forall_mem_cons.mpr ⟨lw_p14, List.forall_mem_cons.mpr ⟨lw_p15, fun _ h => absurd h List.not_mem_nil⟩⟩⟩⟩⟩⟩⟩⟩⟩⟩⟩⟩⟩⟩⟩⟩
theorem lw_p16 : lw_okq (⟨"PinBoards$Board", "ringOf", "(I)I"⟩, 12) := ⟨⟨by decide +kernel, by decide +kernel⟩, List.mem_of_getElem? (i := 70) (by decide +kernel), List.mem_of_getElem? (i := 532) (by decide +kernel), List.mem_of_getElem? (i := 533) (by decide +kernel)⟩
theorem lw_p17 : lw_okq (⟨"PinBoards$Foresight", "strongest", "(I)I"⟩, 2) := ⟨⟨by decide +kernel, by decide +kernel⟩, List.mem_of_getElem? (i := 147) (by decide +kernel), List.mem_of_getElem? (i := 547) (by decide +kernel), List.mem_of_getElem? (i := 548) (by decide +kernel)⟩
theorem lw_p18 : lw_okq (⟨"PinBoards$Foresight", "busiest", "(I)I"⟩, 2) := ⟨⟨by decide +kernel, by decide +kernel⟩, List.mem_of_getElem? (i := 147) (by decide +kernel), List.mem_of_getElem? (i := 552) (by decide +kernel), List.mem_of_getElem? (i := 553) (by decide +kernel)⟩
theorem lw_p19 : lw_okq (⟨"PinBoards$Foresight", "leastCell", "(III)I"⟩, 2) := ⟨⟨by decide +kernel, by decide +kernel⟩, List.mem_of_getElem? (i := 147) (by decide +kernel), List.mem_of_getElem? (i := 562) (by decide +kernel), List.mem_of_getElem? (i := 563) (by decide +kernel)⟩
theorem lw_p20 : lw_okq (⟨"PinBoards$Foresight", "mostSupposed", "(I)I"⟩, 2) := ⟨⟨by decide +kernel, by decide +kernel⟩, List.mem_of_getElem? (i := 147) (by decide +kernel), List.mem_of_getElem? (i := 574) (by decide +kernel), List.mem_of_getElem? (i := 575) (by decide +kernel)⟩
theorem lw_p21 : lw_okq (⟨"PinBoards$Foresight", "suppose", "(III)V"⟩, 2) := ⟨⟨by decide +kernel, by decide +kernel⟩, List.mem_of_getElem? (i := 147) (by decide +kernel), List.mem_of_getElem? (i := 578) (by decide +kernel), List.mem_of_getElem? (i := 579) (by decide +kernel)⟩
theorem lw_p22 : lw_okq (⟨"PinBoards$Foresight", "tells", "([IIII)Z"⟩, 2) := ⟨⟨by decide +kernel, by decide +kernel⟩, List.mem_of_getElem? (i := 147) (by decide +kernel), List.mem_of_getElem? (i := 582) (by decide +kernel), List.mem_of_getElem? (i := 583) (by decide +kernel)⟩
theorem lw_p23 : lw_okq (⟨"PinBoards$Foresight", "isHeld", "(II)Z"⟩, 2) := ⟨⟨by decide +kernel, by decide +kernel⟩, List.mem_of_getElem? (i := 147) (by decide +kernel), List.mem_of_getElem? (i := 599) (by decide +kernel), List.mem_of_getElem? (i := 600) (by decide +kernel)⟩
theorem lw_p24 : lw_okq (⟨"PinBoards$Asks", "sizeOfOldOne", "(I)I"⟩, 3) := ⟨⟨by decide +kernel, by decide +kernel⟩, List.mem_of_getElem? (i := 183) (by decide +kernel), List.mem_of_getElem? (i := 657) (by decide +kernel), List.mem_of_getElem? (i := 658) (by decide +kernel)⟩
theorem lw_p25 : lw_okq (⟨"PinBoards$Asks", "body13", "(I)I"⟩, 3) := ⟨⟨by decide +kernel, by decide +kernel⟩, List.mem_of_getElem? (i := 183) (by decide +kernel), List.mem_of_getElem? (i := 661) (by decide +kernel), List.mem_of_getElem? (i := 662) (by decide +kernel)⟩
theorem lw_p26 : lw_okq (⟨"PinBoards$Asks", "leave", "(I)V"⟩, 3) := ⟨⟨by decide +kernel, by decide +kernel⟩, List.mem_of_getElem? (i := 183) (by decide +kernel), List.mem_of_getElem? (i := 665) (by decide +kernel), List.mem_of_getElem? (i := 666) (by decide +kernel)⟩
theorem lw_p27 : lw_okq (⟨"PinBoards$Asks", "body10", "(I)I"⟩, 3) := ⟨⟨by decide +kernel, by decide +kernel⟩, List.mem_of_getElem? (i := 183) (by decide +kernel), List.mem_of_getElem? (i := 669) (by decide +kernel), List.mem_of_getElem? (i := 670) (by decide +kernel)⟩
theorem lw_p28 : lw_okq (⟨"PinBoards$Asks", "body11", "(I)I"⟩, 3) := ⟨⟨by decide +kernel, by decide +kernel⟩, List.mem_of_getElem? (i := 183) (by decide +kernel), List.mem_of_getElem? (i := 673) (by decide +kernel), List.mem_of_getElem? (i := 674) (by decide +kernel)⟩
theorem lw_p29 : lw_okq (⟨"PinBoards$Asks", "markOfAgent", "(I)I"⟩, 3) := ⟨⟨by decide +kernel, by decide +kernel⟩, List.mem_of_getElem? (i := 183) (by decide +kernel), List.mem_of_getElem? (i := 677) (by decide +kernel), List.mem_of_getElem? (i := 678) (by decide +kernel)⟩
theorem lw_p30 : lw_okq (⟨"PinBoards$Asks", "body21", "(I)I"⟩, 3) := ⟨⟨by decide +kernel, by decide +kernel⟩, List.mem_of_getElem? (i := 183) (by decide +kernel), List.mem_of_getElem? (i := 681) (by decide +kernel), List.mem_of_getElem? (i := 682) (by decide +kernel)⟩
theorem lw_p31 : lw_okq (⟨"PinBoards$Asks", "body20", "(I)I"⟩, 3) := ⟨⟨by decide +kernel, by decide +kernel⟩, List.mem_of_getElem? (i := 183) (by decide +kernel), List.mem_of_getElem? (i := 685) (by decide +kernel), List.mem_of_getElem? (i := 686) (by decide +kernel)⟩
def lw_privs_2 : List (MethodName × Nat) := [(⟨"PinBoards$Board", "ringOf", "(I)I"⟩, 12), (⟨"PinBoards$Foresight", "strongest", "(I)I"⟩, 2), (⟨"PinBoards$Foresight", "busiest", "(I)I"⟩, 2), (⟨"PinBoards$Foresight", "leastCell", "(III)I"⟩, 2), (⟨"PinBoards$Foresight", "mostSupposed", "(I)I"⟩, 2), (⟨"PinBoards$Foresight", "suppose", "(III)V"⟩, 2), (⟨"PinBoards$Foresight", "tells", "([IIII)Z"⟩, 2), (⟨"PinBoards$Foresight", "isHeld", "(II)Z"⟩, 2), (⟨"PinBoards$Asks", "sizeOfOldOne", "(I)I"⟩, 3), (⟨"PinBoards$Asks", "body13", "(I)I"⟩, 3), (⟨"PinBoards$Asks", "leave", "(I)V"⟩, 3), (⟨"PinBoards$Asks", "body10", "(I)I"⟩, 3), (⟨"PinBoards$Asks", "body11", "(I)I"⟩, 3), (⟨"PinBoards$Asks", "markOfAgent", "(I)I"⟩, 3), (⟨"PinBoards$Asks", "body21", "(I)I"⟩, 3), (⟨"PinBoards$Asks", "body20", "(I)I"⟩, 3)]
theorem lw_r2 : ∀ q ∈ lw_privs_2, lw_okq q := List.forall_mem_cons.mpr ⟨lw_p16, List.forall_mem_cons.mpr ⟨lw_p17, List.forall_mem_cons.mpr ⟨lw_p18, List.forall_mem_cons.mpr ⟨lw_p19, List.forall_mem_cons.mpr ⟨lw_p20, List.forall_mem_cons.mpr ⟨lw_p21, List.forall_mem_cons.mpr ⟨lw_p22, List.forall_mem_cons.mpr ⟨lw_p23, List.forall_mem_cons.mpr ⟨lw_p24, List.forall_mem_cons.mpr ⟨lw_p25, List.forall_mem_cons.mpr ⟨lw_p26, List.forall_mem_cons.mpr ⟨lw_p27, List.forall_mem_cons.mpr ⟨lw_p28, List.forall_mem_cons.mpr ⟨lw_p29, List.forall_mem_cons.mpr ⟨lw_p30, List.forall_mem_cons.mpr ⟨lw_p31, fun _ h => absurd h List.not_mem_nil⟩⟩⟩⟩⟩⟩⟩⟩⟩⟩⟩⟩⟩⟩⟩⟩
theorem lw_p32 : lw_okq (⟨"PinBoards$Asks", "body23", "(I)I"⟩, 3) := ⟨⟨by decide +kernel, by decide +kernel⟩, List.mem_of_getElem? (i := 183) (by decide +kernel), List.mem_of_getElem? (i := 693) (by decide +kernel), List.mem_of_getElem? (i := 694) (by decide +kernel)⟩
theorem lw_p33 : lw_okq (⟨"PinBoardsModel", "found", "(I)I"⟩, 25) := ⟨⟨by decide +kernel, by decide +kernel⟩, List.mem_of_getElem? (i := 715) (by decide +kernel), List.mem_of_getElem? (i := 810) (by decide +kernel), List.mem_of_getElem? (i := 811) (by decide +kernel)⟩
theorem lw_p34 : lw_okq (⟨"PinBoardsModel", "well", "(I)I"⟩, 25) := ⟨⟨by decide +kernel, by decide +kernel⟩, List.mem_of_getElem? (i := 715) (by decide +kernel), List.mem_of_getElem? (i := 815) (by decide +kernel), List.mem_of_getElem? (i := 816) (by decide +kernel)⟩
theorem lw_p35 : lw_okq (⟨"PinBoardsModel", "isMissing", "(I)Z"⟩, 25) := ⟨⟨by decide +kernel, by decide +kernel⟩, List.mem_of_getElem? (i := 715) (by decide +kernel), List.mem_of_getElem? (i := 823) (by decide +kernel), List.mem_of_getElem? (i := 824) (by decide +kernel)⟩
theorem lw_p36 : lw_okq (⟨"PinBoardsModel", "isPart", "(III)Z"⟩, 25) := ⟨⟨by decide +kernel, by decide +kernel⟩, List.mem_of_getElem? (i := 715) (by decide +kernel), List.mem_of_getElem? (i := 834) (by decide +kernel), List.mem_of_getElem? (i := 835) (by decide +kernel)⟩
theorem lw_p37 : lw_okq (⟨"PinBoardsModel", "advances", "()V"⟩, 25) := ⟨⟨by decide +kernel, by decide +kernel⟩, List.mem_of_getElem? (i := 715) (by decide +kernel), List.mem_of_getElem? (i := 851) (by decide +kernel), List.mem_of_getElem? (i := 852) (by decide +kernel)⟩
theorem lw_p38 : lw_okq (⟨"PinBoardsModel", "byteAt", "(I)I"⟩, 25) := ⟨⟨by decide +kernel, by decide +kernel⟩, List.mem_of_getElem? (i := 715) (by decide +kernel), List.mem_of_getElem? (i := 855) (by decide +kernel), List.mem_of_getElem? (i := 856) (by decide +kernel)⟩
theorem lw_p39 : lw_okq (⟨"PinBoardsModel", "takes", "(ZI)I"⟩, 25) := ⟨⟨by decide +kernel, by decide +kernel⟩, List.mem_of_getElem? (i := 715) (by decide +kernel), List.mem_of_getElem? (i := 859) (by decide +kernel), List.mem_of_getElem? (i := 860) (by decide +kernel)⟩
theorem lw_p40 : lw_okq (⟨"PinBoardsModel", "isWell", "()Z"⟩, 25) := ⟨⟨by decide +kernel, by decide +kernel⟩, List.mem_of_getElem? (i := 715) (by decide +kernel), List.mem_of_getElem? (i := 863) (by decide +kernel), List.mem_of_getElem? (i := 864) (by decide +kernel)⟩
theorem lw_p41 : lw_okq (⟨"PinBoardsModel", "figure", "(II)I"⟩, 25) := ⟨⟨by decide +kernel, by decide +kernel⟩, List.mem_of_getElem? (i := 715) (by decide +kernel), List.mem_of_getElem? (i := 867) (by decide +kernel), List.mem_of_getElem? (i := 868) (by decide +kernel)⟩
theorem lw_p42 : lw_okq (⟨"PinBoardsModel", "readsCell", "()V"⟩, 25) := ⟨⟨by decide +kernel, by decide +kernel⟩, List.mem_of_getElem? (i := 715) (by decide +kernel), List.mem_of_getElem? (i := 871) (by decide +kernel), List.mem_of_getElem? (i := 872) (by decide +kernel)⟩
theorem lw_p43 : lw_okq (⟨"PinBoardsModel", "must", "(Z)V"⟩, 25) := ⟨⟨by decide +kernel, by decide +kernel⟩, List.mem_of_getElem? (i := 715) (by decide +kernel), List.mem_of_getElem? (i := 875) (by decide +kernel), List.mem_of_getElem? (i := 876) (by decide +kernel)⟩
theorem lw_p44 : lw_okq (⟨"PinBoardsModel", "readsPin", "()V"⟩, 25) := ⟨⟨by decide +kernel, by decide +kernel⟩, List.mem_of_getElem? (i := 715) (by decide +kernel), List.mem_of_getElem? (i := 882) (by decide +kernel), List.mem_of_getElem? (i := 883) (by decide +kernel)⟩
theorem lw_p45 : lw_okq (⟨"PinBoardsModel", "takes2", "(Z)V"⟩, 25) := ⟨⟨by decide +kernel, by decide +kernel⟩, List.mem_of_getElem? (i := 715) (by decide +kernel), List.mem_of_getElem? (i := 889) (by decide +kernel), List.mem_of_getElem? (i := 890) (by decide +kernel)⟩
theorem lw_p46 : lw_okq (⟨"PinBoardsModel", "follows", "(II)I"⟩, 25) := ⟨⟨by decide +kernel, by decide +kernel⟩, List.mem_of_getElem? (i := 715) (by decide +kernel), List.mem_of_getElem? (i := 893) (by decide +kernel), List.mem_of_getElem? (i := 894) (by decide +kernel)⟩
theorem lw_p47 : lw_okq (⟨"PinBoardsModel", "isMap", "()Z"⟩, 25) := ⟨⟨by decide +kernel, by decide +kernel⟩, List.mem_of_getElem? (i := 715) (by decide +kernel), List.mem_of_getElem? (i := 909) (by decide +kernel), List.mem_of_getElem? (i := 910) (by decide +kernel)⟩
def lw_privs_3 : List (MethodName × Nat) := [(⟨"PinBoards$Asks", "body23", "(I)I"⟩, 3), (⟨"PinBoardsModel", "found", "(I)I"⟩, 25), (⟨"PinBoardsModel", "well", "(I)I"⟩, 25), (⟨"PinBoardsModel", "isMissing", "(I)Z"⟩, 25), (⟨"PinBoardsModel", "isPart", "(III)Z"⟩, 25), (⟨"PinBoardsModel", "advances", "()V"⟩, 25), (⟨"PinBoardsModel", "byteAt", "(I)I"⟩, 25), (⟨"PinBoardsModel", "takes", "(ZI)I"⟩, 25), (⟨"PinBoardsModel", "isWell", "()Z"⟩, 25), (⟨"PinBoardsModel", "figure", "(II)I"⟩, 25), (⟨"PinBoardsModel", "readsCell", "()V"⟩, 25), (⟨"PinBoardsModel", "must", "(Z)V"⟩, 25), (⟨"PinBoardsModel", "readsPin", "()V"⟩, 25), (⟨"PinBoardsModel", "takes2", "(Z)V"⟩, 25), (⟨"PinBoardsModel", "follows", "(II)I"⟩, 25), (⟨"PinBoardsModel", "isMap", "()Z"⟩, 25)]
theorem lw_r3 : ∀ q ∈ lw_privs_3, lw_okq q := List.forall_mem_cons.mpr ⟨lw_p32, List.forall_mem_cons.mpr ⟨lw_p33, List.forall_mem_cons.mpr ⟨lw_p34, List.forall_mem_cons.mpr ⟨lw_p35, List.forall_mem_cons.mpr ⟨lw_p36, List.forall_mem_cons.mpr ⟨lw_p37, List.forall_mem_cons.mpr ⟨lw_p38, List.forall_mem_cons.mpr ⟨lw_p39, List.forall_mem_cons.mpr ⟨lw_p40, List.forall_mem_cons.mpr ⟨lw_p41, List.forall_mem_cons.mpr ⟨lw_p42, List.forall_mem_cons.mpr ⟨lw_p43, List.forall_mem_cons.mpr ⟨lw_p44, List.forall_mem_cons.mpr ⟨lw_p45, List.forall_mem_cons.mpr ⟨lw_p46, List.forall_mem_cons.mpr ⟨lw_p47, fun _ h => absurd h List.not_mem_nil⟩⟩⟩⟩⟩⟩⟩⟩⟩⟩⟩⟩⟩⟩⟩⟩
theorem lw_p48 : lw_okq (⟨"PinBoardsModel", "notes", "()V"⟩, 25) := ⟨⟨by decide +kernel, by decide +kernel⟩, List.mem_of_getElem? (i := 715) (by decide +kernel), List.mem_of_getElem? (i := 914) (by decide +kernel), List.mem_of_getElem? (i := 915) (by decide +kernel)⟩
theorem lw_p49 : lw_okq (⟨"PinBoardsModel", "isPin", "(I)Z"⟩, 25) := ⟨⟨by decide +kernel, by decide +kernel⟩, List.mem_of_getElem? (i := 715) (by decide +kernel), List.mem_of_getElem? (i := 947) (by decide +kernel), List.mem_of_getElem? (i := 948) (by decide +kernel)⟩
theorem lw_p50 : lw_okq (⟨"PinBoardsModel", "isCell", "(I)Z"⟩, 25) := ⟨⟨by decide +kernel, by decide +kernel⟩, List.mem_of_getElem? (i := 715) (by decide +kernel), List.mem_of_getElem? (i := 951) (by decide +kernel), List.mem_of_getElem? (i := 952) (by decide +kernel)⟩
theorem lw_p51 : lw_okq (⟨"PinBoardsModel", "goesOn", "(I)V"⟩, 25) := ⟨⟨by decide +kernel, by decide +kernel⟩, List.mem_of_getElem? (i := 715) (by decide +kernel), List.mem_of_getElem? (i := 986) (by decide +kernel), List.mem_of_getElem? (i := 987) (by decide +kernel)⟩
theorem lw_p52 : lw_okq (⟨"PinBoardsModel", "changes", "()I"⟩, 25) := ⟨⟨by decide +kernel, by decide +kernel⟩, List.mem_of_getElem? (i := 715) (by decide +kernel), List.mem_of_getElem? (i := 1009) (by decide +kernel), List.mem_of_getElem? (i := 1010) (by decide +kernel)⟩
theorem lw_p53 : lw_okq (⟨"PinBoardsModel", "mostOf", "(II)I"⟩, 25) := ⟨⟨by decide +kernel, by decide +kernel⟩, List.mem_of_getElem? (i := 715) (by decide +kernel), List.mem_of_getElem? (i := 1017) (by decide +kernel), List.mem_of_getElem? (i := 1018) (by decide +kernel)⟩
theorem lw_p54 : lw_okq (⟨"PinBoardsModel", "triesBy", "(III)V"⟩, 25) := ⟨⟨by decide +kernel, by decide +kernel⟩, List.mem_of_getElem? (i := 715) (by decide +kernel), List.mem_of_getElem? (i := 1028) (by decide +kernel), List.mem_of_getElem? (i := 1029) (by decide +kernel)⟩
theorem lw_p55 : lw_okq (⟨"PinBoardsModel", "isSeen", "(III)Z"⟩, 25) := ⟨⟨by decide +kernel, by decide +kernel⟩, List.mem_of_getElem? (i := 715) (by decide +kernel), List.mem_of_getElem? (i := 1032) (by decide +kernel), List.mem_of_getElem? (i := 1033) (by decide +kernel)⟩
theorem lw_p56 : lw_okq (⟨"PinBoardsModel", "toOpening", "()V"⟩, 25) := ⟨⟨by decide +kernel, by decide +kernel⟩, List.mem_of_getElem? (i := 715) (by decide +kernel), List.mem_of_getElem? (i := 1036) (by decide +kernel), List.mem_of_getElem? (i := 1037) (by decide +kernel)⟩
theorem lw_p57 : lw_okq (⟨"PinBoardsModel", "kindIn", "(I)I"⟩, 25) := ⟨⟨by decide +kernel, by decide +kernel⟩, List.mem_of_getElem? (i := 715) (by decide +kernel), List.mem_of_getElem? (i := 1066) (by decide +kernel), List.mem_of_getElem? (i := 1067) (by decide +kernel)⟩
theorem lw_p58 : lw_okq (⟨"PinBoardsModel", "oldSize", "(I)I"⟩, 25) := ⟨⟨by decide +kernel, by decide +kernel⟩, List.mem_of_getElem? (i := 715) (by decide +kernel), List.mem_of_getElem? (i := 1078) (by decide +kernel), List.mem_of_getElem? (i := 1079) (by decide +kernel)⟩
theorem lw_p59 : lw_okq (⟨"PinBoardsModel", "begins", "(I)V"⟩, 25) := ⟨⟨by decide +kernel, by decide +kernel⟩, List.mem_of_getElem? (i := 715) (by decide +kernel), List.mem_of_getElem? (i := 1082) (by decide +kernel), List.mem_of_getElem? (i := 1083) (by decide +kernel)⟩
theorem lw_p60 : lw_okq (⟨"PinBoardsModel", "agentSize", "(I)I"⟩, 25) := ⟨⟨by decide +kernel, by decide +kernel⟩, List.mem_of_getElem? (i := 715) (by decide +kernel), List.mem_of_getElem? (i := 1086) (by decide +kernel), List.mem_of_getElem? (i := 1087) (by decide +kernel)⟩
theorem lw_p61 : lw_okq (⟨"PinBoardsModel", "agentMark", "(I)I"⟩, 25) := ⟨⟨by decide +kernel, by decide +kernel⟩, List.mem_of_getElem? (i := 715) (by decide +kernel), List.mem_of_getElem? (i := 1090) (by decide +kernel), List.mem_of_getElem? (i := 1091) (by decide +kernel)⟩
theorem lw_p62 : lw_okq (⟨"PinBoardsModel", "oldMark", "(I)I"⟩, 25) := ⟨⟨by decide +kernel, by decide +kernel⟩, List.mem_of_getElem? (i := 715) (by decide +kernel), List.mem_of_getElem? (i := 1094) (by decide +kernel), List.mem_of_getElem? (i := 1095) (by decide +kernel)⟩
def lw_privs_4 : List (MethodName × Nat) := [(⟨"PinBoardsModel", "notes", "()V"⟩, 25), (⟨"PinBoardsModel", "isPin", "(I)Z"⟩, 25), (⟨"PinBoardsModel", "isCell", "(I)Z"⟩, 25), (⟨"PinBoardsModel", "goesOn", "(I)V"⟩, 25), (⟨"PinBoardsModel", "changes", "()I"⟩, 25), (⟨"PinBoardsModel", "mostOf", "(II)I"⟩, 25), (⟨"PinBoardsModel", "triesBy", "(III)V"⟩, 25), (⟨"PinBoardsModel", "isSeen", "(III)Z"⟩, 25), (⟨"PinBoardsModel", "toOpening", "()V"⟩, 25), (⟨"PinBoardsModel", "kindIn", "(I)I"⟩, 25), (⟨"PinBoardsModel", "oldSize", "(I)I"⟩, 25), (⟨"PinBoardsModel", "begins", "(I)V"⟩, 25), (⟨"PinBoardsModel", "agentSize", "(I)I"⟩, 25), (⟨"PinBoardsModel", "agentMark", "(I)I"⟩, 25), (⟨"PinBoardsModel", "oldMark", "(I)I"⟩, 25)]
theorem lw_r4 : ∀ q ∈ lw_privs_4, lw_okq q := List.forall_mem_cons.mpr ⟨lw_p48, List.forall_mem_cons.mpr ⟨lw_p49, List.forall_mem_cons.mpr ⟨lw_p50, List.forall_mem_cons.mpr ⟨lw_p51, List.forall_mem_cons.mpr ⟨lw_p52, List.forall_mem_cons.mpr ⟨lw_p53, List.forall_mem_cons.mpr ⟨lw_p54, List.forall_mem_cons.mpr ⟨lw_p55, List.forall_mem_cons.mpr ⟨lw_p56, List.forall_mem_cons.mpr ⟨lw_p57, List.forall_mem_cons.mpr ⟨lw_p58, List.forall_mem_cons.mpr ⟨lw_p59, List.forall_mem_cons.mpr ⟨lw_p60, List.forall_mem_cons.mpr ⟨lw_p61, List.forall_mem_cons.mpr ⟨lw_p62, fun _ h => absurd h List.not_mem_nil⟩⟩⟩⟩⟩⟩⟩⟩⟩⟩⟩⟩⟩⟩⟩
def lw_privs : List (MethodName × Nat) := lw_privs_1 ++ (lw_privs_2 ++ (lw_privs_3 ++ (lw_privs_4)))
def lw_tbl : List Cond := k2_sels lw_privs ++ tables_1
theorem lw_privs_ok : ∀ q ∈ lw_privs, lw_okq q := by
  show ∀ q ∈ lw_privs_1 ++ (lw_privs_2 ++ (lw_privs_3 ++ (lw_privs_4))), lw_okq q
  exact List.forall_mem_append.mpr ⟨lw_r1, List.forall_mem_append.mpr ⟨lw_r2, List.forall_mem_append.mpr ⟨lw_r3, lw_r4⟩⟩⟩
end
section
def RX0 : String := "PinBoards$Asks"
def TX0 : u_T := fun k => match k with
  | 0 => ("PinBoards$Asks", "numbers", "[I", true)
  | 1 => ("PinBoards$Asks", "traced", "I", false)
  | _ => ("PinBoards$Asks", "board", "LPinBoards$Board;", true)
def tyX0 : Nat → FieldType := fun k => match k with
  | 0 => .array .int
  | 1 => .int
  | _ => .object "PinBoards$Board"
abbrev wsX00 : List Cond := u_ws RX0 TX0 3
theorem nmX0 : ∀ a, a < 3 → ∀ b, b < 3 → a ≠ b → (TX0 a).2.1 ≠ (TX0 b).2.1 := by decide +kernel
theorem tyX0_ok : ∀ k, k < 3 → parseFieldDescriptor (TX0 k).2.2.1 = some (tyX0 k) := by decide +kernel
abbrev cX0_init : ByteArray := prog_2_method_1_code
def yX0_init : MethodName := ⟨RX0, "<init>", "(LPinBoards$Board;)V"⟩
abbrev cX0_begin : ByteArray := prog_2_method_2_code
def yX0_begin : MethodName := ⟨RX0, "begin", "()V"⟩
abbrev cX0_sizeOf : ByteArray := prog_2_method_3_code
def yX0_sizeOf : MethodName := ⟨RX0, "sizeOf", "(I)I"⟩
abbrev cX0_sizeOfOldOne : ByteArray := prog_2_method_4_code
def yX0_sizeOfOldOne : MethodName := ⟨RX0, "sizeOfOldOne", "(I)I"⟩
abbrev cX0_markOf : ByteArray := prog_2_method_5_code
def yX0_markOf : MethodName := ⟨RX0, "markOf", "(I)I"⟩
abbrev cX0_markOfAgent : ByteArray := prog_2_method_6_code
def yX0_markOfAgent : MethodName := ⟨RX0, "markOfAgent", "(I)I"⟩
abbrev cX0_body10 : ByteArray := prog_2_method_7_code
def yX0_body10 : MethodName := ⟨RX0, "body10", "(I)I"⟩
abbrev cX0_body11 : ByteArray := prog_2_method_8_code
def yX0_body11 : MethodName := ⟨RX0, "body11", "(I)I"⟩
abbrev cX0_body13 : ByteArray := prog_2_method_9_code
def yX0_body13 : MethodName := ⟨RX0, "body13", "(I)I"⟩
abbrev cX0_body20 : ByteArray := prog_2_method_10_code
def yX0_body20 : MethodName := ⟨RX0, "body20", "(I)I"⟩
abbrev cX0_body21 : ByteArray := prog_2_method_11_code
def yX0_body21 : MethodName := ⟨RX0, "body21", "(I)I"⟩
abbrev cX0_body23 : ByteArray := prog_2_method_12_code
def yX0_body23 : MethodName := ⟨RX0, "body23", "(I)I"⟩
abbrev cX0_leave : ByteArray := prog_2_method_13_code
def yX0_leave : MethodName := ⟨RX0, "leave", "(I)V"⟩
def RX1 : String := "PinBoards$Board"
def TX1 : u_T := fun k => match k with
  | 0 => ("PinBoards$Board", "cells", "I", false)
  | 1 => ("PinBoards$Board", "pins", "I", false)
  | 2 => ("PinBoards$Board", "slip", "I", false)
  | 3 => ("PinBoards$Board", "time", "I", false)
  | 4 => ("PinBoards$Board", "earned", "I", false)
  | 5 => ("PinBoards$Board", "day", "Z", false)
  | 6 => ("PinBoards$Board", "work", "[I", true)
  | 7 => ("PinBoards$Board", "home", "[I", true)
  | 8 => ("PinBoards$Board", "skill", "[I", true)
  | 9 => ("PinBoards$Board", "colour", "[I", true)
  | 10 => ("PinBoards$Board", "kind", "[I", true)
  | _ => ("PinBoards$Board", "last", "[I", true)
def tyX1 : Nat → FieldType := fun k => match k with
  | 0 => .int
  | 1 => .int
  | 2 => .int
  | 3 => .int
  | 4 => .int
  | 5 => .boolean
  | 6 => .array .int
  | 7 => .array .int
  | 8 => .array .int
  | 9 => .array .int
  | 10 => .array .int
  | _ => .array .int
abbrev wsX10 : List Cond := u_ws RX1 TX1 12
theorem nmX1 : ∀ a, a < 12 → ∀ b, b < 12 → a ≠ b → (TX1 a).2.1 ≠ (TX1 b).2.1 := by decide +kernel
theorem tyX1_ok : ∀ k, k < 12 → parseFieldDescriptor (TX1 k).2.2.1 = some (tyX1 k) := by decide +kernel
abbrev cX1_init : ByteArray := prog_3_method_1_code
def yX1_init : MethodName := ⟨RX1, "<init>", "()V"⟩
abbrev cX1_stands : ByteArray := prog_3_method_2_code
def yX1_stands : MethodName := ⟨RX1, "stands", "()Z"⟩
abbrev cX1_hasPin : ByteArray := prog_3_method_3_code
def yX1_hasPin : MethodName := ⟨RX1, "hasPin", "(I)Z"⟩
abbrev cX1_hasCell : ByteArray := prog_3_method_4_code
def yX1_hasCell : MethodName := ⟨RX1, "hasCell", "(I)Z"⟩
abbrev cX1_makeEmpty : ByteArray := prog_3_method_5_code
def yX1_makeEmpty : MethodName := ⟨RX1, "makeEmpty", "()V"⟩
abbrev cX1_takeFrom : ByteArray := prog_3_method_6_code
def yX1_takeFrom : MethodName := ⟨RX1, "takeFrom", "(LPinBoards$Board;)V"⟩
abbrev cX1_turn : ByteArray := prog_3_method_7_code
def yX1_turn : MethodName := ⟨RX1, "turn", "()V"⟩
abbrev cX1_openAndWork : ByteArray := prog_3_method_8_code
def yX1_openAndWork : MethodName := ⟨RX1, "openAndWork", "()V"⟩
abbrev cX1_open : ByteArray := prog_3_method_9_code
def yX1_open : MethodName := ⟨RX1, "open", "(I)V"⟩
abbrev cX1_mix : ByteArray := prog_3_method_10_code
def yX1_mix : MethodName := ⟨RX1, "mix", "(I)V"⟩
abbrev cX1_change : ByteArray := prog_3_method_11_code
def yX1_change : MethodName := ⟨RX1, "change", "(II)V"⟩
abbrev cX1_yieldOfAll : ByteArray := prog_3_method_12_code
def yX1_yieldOfAll : MethodName := ⟨RX1, "yieldOfAll", "()I"⟩
abbrev cX1_worth : ByteArray := prog_3_method_13_code
def yX1_worth : MethodName := ⟨RX1, "worth", "(II)I"⟩
abbrev cX1_place : ByteArray := prog_3_method_14_code
def yX1_place : MethodName := ⟨RX1, "place", "(I)I"⟩
abbrev cX1_pinsInTray : ByteArray := prog_3_method_15_code
def yX1_pinsInTray : MethodName := ⟨RX1, "pinsInTray", "()I"⟩
abbrev cX1_pinsIn : ByteArray := prog_3_method_16_code
def yX1_pinsIn : MethodName := ⟨RX1, "pinsIn", "(I)I"⟩
abbrev cX1_owner : ByteArray := prog_3_method_17_code
def yX1_owner : MethodName := ⟨RX1, "owner", "(I)I"⟩
abbrev cX1_pinsAtHome : ByteArray := prog_3_method_18_code
def yX1_pinsAtHome : MethodName := ⟨RX1, "pinsAtHome", "()I"⟩
abbrev cX1_fewestChanges : ByteArray := prog_3_method_19_code
def yX1_fewestChanges : MethodName := ⟨RX1, "fewestChanges", "()I"⟩
abbrev cX1_fillsHomes : ByteArray := prog_3_method_20_code
def yX1_fillsHomes : MethodName := ⟨RX1, "fillsHomes", "()Z"⟩
abbrev cX1_ringOf : ByteArray := prog_3_method_21_code
def yX1_ringOf : MethodName := ⟨RX1, "ringOf", "(I)I"⟩
def RX2 : String := "PinBoards$Foresight"
def TX2 : u_T := fun k => match k with
  | 0 => ("PinBoards$Foresight", "trial", "LPinBoards$Board;", true)
  | _ => ("PinBoards$Foresight", "board", "LPinBoards$Board;", true)
def tyX2 : Nat → FieldType := fun k => match k with
  | 0 => .object "PinBoards$Board"
  | _ => .object "PinBoards$Board"
abbrev wsX20 : List Cond := u_ws RX2 TX2 2
theorem nmX2 : ∀ a, a < 2 → ∀ b, b < 2 → a ≠ b → (TX2 a).2.1 ≠ (TX2 b).2.1 := by decide +kernel
theorem tyX2_ok : ∀ k, k < 2 → parseFieldDescriptor (TX2 k).2.2.1 = some (tyX2 k) := by decide +kernel
abbrev cX2_init : ByteArray := prog_4_method_1_code
def yX2_init : MethodName := ⟨RX2, "<init>", "(LPinBoards$Board;)V"⟩
abbrev cX2_goOn : ByteArray := prog_4_method_2_code
def yX2_goOn : MethodName := ⟨RX2, "goOn", "(I)V"⟩
abbrev cX2_turnsTillIn : ByteArray := prog_4_method_3_code
def yX2_turnsTillIn : MethodName := ⟨RX2, "turnsTillIn", "(II)I"⟩
abbrev cX2_turnsTillSame : ByteArray := prog_4_method_4_code
def yX2_turnsTillSame : MethodName := ⟨RX2, "turnsTillSame", "()I"⟩
abbrev cX2_isSamePlaces : ByteArray := prog_4_method_5_code
def yX2_isSamePlaces : MethodName := ⟨RX2, "isSamePlaces", "()Z"⟩
abbrev cX2_mostWorth : ByteArray := prog_4_method_6_code
def yX2_mostWorth : MethodName := ⟨RX2, "mostWorth", "(II)I"⟩
abbrev cX2_strongest : ByteArray := prog_4_method_7_code
def yX2_strongest : MethodName := ⟨RX2, "strongest", "(I)I"⟩
abbrev cX2_busiest : ByteArray := prog_4_method_8_code
def yX2_busiest : MethodName := ⟨RX2, "busiest", "(I)I"⟩
abbrev cX2_bestCell : ByteArray := prog_4_method_9_code
def yX2_bestCell : MethodName := ⟨RX2, "bestCell", "(I)I"⟩
abbrev cX2_leastCell : ByteArray := prog_4_method_10_code
def yX2_leastCell : MethodName := ⟨RX2, "leastCell", "(III)I"⟩
abbrev cX2_fitting : ByteArray := prog_4_method_11_code
def yX2_fitting : MethodName := ⟨RX2, "fitting", "(II[III)I"⟩
abbrev cX2_mostSupposed : ByteArray := prog_4_method_12_code
def yX2_mostSupposed : MethodName := ⟨RX2, "mostSupposed", "(I)I"⟩
abbrev cX2_suppose : ByteArray := prog_4_method_13_code
def yX2_suppose : MethodName := ⟨RX2, "suppose", "(III)V"⟩
abbrev cX2_tells : ByteArray := prog_4_method_14_code
def yX2_tells : MethodName := ⟨RX2, "tells", "([IIII)Z"⟩
abbrev cX2_heldWhenLeftOut : ByteArray := prog_4_method_15_code
def yX2_heldWhenLeftOut : MethodName := ⟨RX2, "heldWhenLeftOut", "(III)I"⟩
abbrev cX2_isHeld : ByteArray := prog_4_method_16_code
def yX2_isHeld : MethodName := ⟨RX2, "isHeld", "(II)Z"⟩
abbrev cX2_power : ByteArray := prog_4_method_17_code
def yX2_power : MethodName := ⟨RX2, "power", "(II)I"⟩
abbrev cX2_commonDivisor : ByteArray := prog_4_method_18_code
def yX2_commonDivisor : MethodName := ⟨RX2, "commonDivisor", "(II)I"⟩
abbrev cX2_drawYears : ByteArray := prog_4_method_19_code
def yX2_drawYears : MethodName := ⟨RX2, "drawYears", "(II)V"⟩
def RX3 : String := "PinBoards$Past"
def TX3 : u_T := fun k => match k with
  | 0 => ("PinBoards$Past", "held", "I", false)
  | 1 => ("PinBoards$Past", "oldest", "I", false)
  | _ => ("PinBoards$Past", "before", "[LPinBoards$Board;", true)
def tyX3 : Nat → FieldType := fun k => match k with
  | 0 => .int
  | 1 => .int
  | _ => .array (.object "PinBoards$Board")
abbrev wsX30 : List Cond := u_ws RX3 TX3 3
theorem nmX3 : ∀ a, a < 3 → ∀ b, b < 3 → a ≠ b → (TX3 a).2.1 ≠ (TX3 b).2.1 := by decide +kernel
theorem tyX3_ok : ∀ k, k < 3 → parseFieldDescriptor (TX3 k).2.2.1 = some (tyX3 k) := by decide +kernel
abbrev cX3_init : ByteArray := prog_5_method_1_code
def yX3_init : MethodName := ⟨RX3, "<init>", "()V"⟩
abbrev cX3_keep : ByteArray := prog_5_method_2_code
def yX3_keep : MethodName := ⟨RX3, "keep", "(LPinBoards$Board;)V"⟩
abbrev cX3_giveBack : ByteArray := prog_5_method_3_code
def yX3_giveBack : MethodName := ⟨RX3, "giveBack", "(LPinBoards$Board;)V"⟩
abbrev cX3_forget : ByteArray := prog_5_method_4_code
def yX3_forget : MethodName := ⟨RX3, "forget", "()V"⟩
def RX4 : String := "PinBoards$Reader"
def TX4 : u_T := fun k => match k with
  | 0 => ("PinBoards$Reader", "tape", "[I", true)
  | 1 => ("PinBoards$Reader", "length", "I", false)
  | 2 => ("PinBoards$Reader", "faultNumber", "I", false)
  | 3 => ("PinBoards$Reader", "faultPlace", "I", false)
  | 4 => ("PinBoards$Reader", "next", "I", false)
  | _ => ("PinBoards$Reader", "number", "I", false)
def tyX4 : Nat → FieldType := fun k => match k with
  | 0 => .array .int
  | 1 => .int
  | 2 => .int
  | 3 => .int
  | 4 => .int
  | _ => .int
abbrev wsX40 : List Cond := u_ws RX4 TX4 6
theorem nmX4 : ∀ a, a < 6 → ∀ b, b < 6 → a ≠ b → (TX4 a).2.1 ≠ (TX4 b).2.1 := by decide +kernel
theorem tyX4_ok : ∀ k, k < 6 → parseFieldDescriptor (TX4 k).2.2.1 = some (tyX4 k) := by decide +kernel
abbrev cX4_init : ByteArray := prog_6_method_1_code
def yX4_init : MethodName := ⟨RX4, "<init>", "()V"⟩
abbrev cX4_append : ByteArray := prog_6_method_2_code
def yX4_append : MethodName := ⟨RX4, "append", "(I)I"⟩
abbrev cX4_clear : ByteArray := prog_6_method_3_code
def yX4_clear : MethodName := ⟨RX4, "clear", "()V"⟩
abbrev cX4_readInto : ByteArray := prog_6_method_4_code
def yX4_readInto : MethodName := ⟨RX4, "readInto", "(LPinBoards$Board;)Z"⟩
abbrev cX4_readLaw : ByteArray := prog_6_method_5_code
def yX4_readLaw : MethodName := ⟨RX4, "readLaw", "(LPinBoards$Board;)Z"⟩
abbrev cX4_readCells : ByteArray := prog_6_method_6_code
def yX4_readCells : MethodName := ⟨RX4, "readCells", "(LPinBoards$Board;)Z"⟩
abbrev cX4_readCell : ByteArray := prog_6_method_7_code
def yX4_readCell : MethodName := ⟨RX4, "readCell", "(LPinBoards$Board;)Z"⟩
abbrev cX4_readPins : ByteArray := prog_6_method_8_code
def yX4_readPins : MethodName := ⟨RX4, "readPins", "(LPinBoards$Board;)Z"⟩
abbrev cX4_readPin : ByteArray := prog_6_method_9_code
def yX4_readPin : MethodName := ⟨RX4, "readPin", "(LPinBoards$Board;)Z"⟩
abbrev cX4_readHome : ByteArray := prog_6_method_10_code
def yX4_readHome : MethodName := ⟨RX4, "readHome", "(LPinBoards$Board;)Z"⟩
abbrev cX4_kindOf : ByteArray := prog_6_method_11_code
def yX4_kindOf : MethodName := ⟨RX4, "kindOf", "(I)I"⟩
abbrev cX4_isNext : ByteArray := prog_6_method_12_code
def yX4_isNext : MethodName := ⟨RX4, "isNext", "(I)Z"⟩
abbrev cX4_takes : ByteArray := prog_6_method_13_code
def yX4_takes : MethodName := ⟨RX4, "takes", "(I)Z"⟩
abbrev cX4_takesNumber : ByteArray := prog_6_method_14_code
def yX4_takesNumber : MethodName := ⟨RX4, "takesNumber", "(II)Z"⟩
abbrev cX4_faultAt : ByteArray := prog_6_method_15_code
def yX4_faultAt : MethodName := ⟨RX4, "faultAt", "(II)Z"⟩
def RX5 : String := "PinBoards$Rows"
def TX5 : u_T := fun k => match k with
  | 0 => ("PinBoards$Rows", "lanes", "[I", true)
  | 1 => ("PinBoards$Rows", "sizes", "[I", true)
  | _ => ("PinBoards$Rows", "items", "[[I", true)
def tyX5 : Nat → FieldType := fun k => match k with
  | 0 => .array .int
  | 1 => .array .int
  | _ => .array (.array .int)
abbrev wsX50 : List Cond := u_ws RX5 TX5 3
theorem nmX5 : ∀ a, a < 3 → ∀ b, b < 3 → a ≠ b → (TX5 a).2.1 ≠ (TX5 b).2.1 := by decide +kernel
theorem tyX5_ok : ∀ k, k < 3 → parseFieldDescriptor (TX5 k).2.2.1 = some (tyX5 k) := by decide +kernel
abbrev cX5_init : ByteArray := prog_7_method_1_code
def yX5_init : MethodName := ⟨RX5, "<init>", "()V"⟩
abbrev cX5_isRow : ByteArray := prog_7_method_2_code
def yX5_isRow : MethodName := ⟨RX5, "isRow", "(I)Z"⟩
abbrev cX5_isMissing : ByteArray := prog_7_method_3_code
def yX5_isMissing : MethodName := ⟨RX5, "isMissing", "(I)Z"⟩
abbrev cX5_hasPlaces : ByteArray := prog_7_method_4_code
def yX5_hasPlaces : MethodName := ⟨RX5, "hasPlaces", "(III)Z"⟩
abbrev cX5_lay : ByteArray := prog_7_method_5_code
def yX5_lay : MethodName := ⟨RX5, "lay", "(III)V"⟩
abbrev cX5_put : ByteArray := prog_7_method_6_code
def yX5_put : MethodName := ⟨RX5, "put", "(III)I"⟩
abbrev cX5_remove : ByteArray := prog_7_method_7_code
def yX5_remove : MethodName := ⟨RX5, "remove", "(I)I"⟩
abbrev cX5_present : ByteArray := prog_7_method_8_code
def yX5_present : MethodName := ⟨RX5, "present", "()I"⟩
def RX6 : String := "PinBoards"
def TX6 : u_T := fun k => match k with
  | 0 => ("PinBoards", "rows", "LPinBoards$Rows;", true)
  | 1 => ("PinBoards", "reader", "LPinBoards$Reader;", true)
  | 2 => ("PinBoards", "board", "LPinBoards$Board;", true)
  | 3 => ("PinBoards", "foresight", "LPinBoards$Foresight;", true)
  | 4 => ("PinBoards", "past", "LPinBoards$Past;", true)
  | 5 => ("PinBoards", "asks", "LPinBoards$Asks;", true)
  | 6 => ("PinBoards", "images", "[LPinBoards$Board;", true)
  | _ => ("PinBoards", "lastFinding", "I", false)
def tyX6 : Nat → FieldType := fun k => match k with
  | 0 => .object "PinBoards$Rows"
  | 1 => .object "PinBoards$Reader"
  | 2 => .object "PinBoards$Board"
  | 3 => .object "PinBoards$Foresight"
  | 4 => .object "PinBoards$Past"
  | 5 => .object "PinBoards$Asks"
  | 6 => .array (.object "PinBoards$Board")
  | _ => .int
abbrev wsX60 : List Cond := u_ws RX6 TX6 8
theorem nmX6 : ∀ a, a < 8 → ∀ b, b < 8 → a ≠ b → (TX6 a).2.1 ≠ (TX6 b).2.1 := by decide +kernel
theorem tyX6_ok : ∀ k, k < 8 → parseFieldDescriptor (TX6 k).2.2.1 = some (tyX6 k) := by decide +kernel
abbrev cX6_init : ByteArray := prog_1_method_1_code
def yX6_init : MethodName := ⟨RX6, "<init>", "()V"⟩
abbrev cX6_row : ByteArray := prog_1_method_2_code
def yX6_row : MethodName := ⟨RX6, "row", "(III)I"⟩
abbrev cX6_set : ByteArray := prog_1_method_3_code
def yX6_set : MethodName := ⟨RX6, "set", "(III)I"⟩
abbrev cX6_copy : ByteArray := prog_1_method_4_code
def yX6_copy : MethodName := ⟨RX6, "copy", "(IIIII)I"⟩
abbrev cX6_drop : ByteArray := prog_1_method_5_code
def yX6_drop : MethodName := ⟨RX6, "drop", "(I)I"⟩
abbrev cX6_feed : ByteArray := prog_1_method_6_code
def yX6_feed : MethodName := ⟨RX6, "feed", "(I)I"⟩
abbrev cX6_map : ByteArray := prog_1_method_7_code
def yX6_map : MethodName := ⟨RX6, "map", "()I"⟩
abbrev cX6_fault : ByteArray := prog_1_method_8_code
def yX6_fault : MethodName := ⟨RX6, "fault", "()I"⟩
abbrev cX6_times : ByteArray := prog_1_method_9_code
def yX6_times : MethodName := ⟨RX6, "times", "(I)I"⟩
abbrev cX6_move : ByteArray := prog_1_method_10_code
def yX6_move : MethodName := ⟨RX6, "move", "(II)I"⟩
abbrev cX6_swap : ByteArray := prog_1_method_11_code
def yX6_swap : MethodName := ⟨RX6, "swap", "(II)I"⟩
abbrev cX6_work : ByteArray := prog_1_method_12_code
def yX6_work : MethodName := ⟨RX6, "work", "(II)I"⟩
abbrev cX6_slip : ByteArray := prog_1_method_13_code
def yX6_slip : MethodName := ⟨RX6, "slip", "(I)I"⟩
abbrev cX6_undo : ByteArray := prog_1_method_14_code
def yX6_undo : MethodName := ⟨RX6, "undo", "()I"⟩
abbrev cX6_pin : ByteArray := prog_1_method_15_code
def yX6_pin : MethodName := ⟨RX6, "pin", "(II)I"⟩
abbrev cX6_cell : ByteArray := prog_1_method_16_code
def yX6_cell : MethodName := ⟨RX6, "cell", "(II)I"⟩
abbrev cX6_ahead : ByteArray := prog_1_method_17_code
def yX6_ahead : MethodName := ⟨RX6, "ahead", "(II)I"⟩
abbrev cX6_earned : ByteArray := prog_1_method_18_code
def yX6_earned : MethodName := ⟨RX6, "earned", "(I)I"⟩
abbrev cX6_tomsk : ByteArray := prog_1_method_19_code
def yX6_tomsk : MethodName := ⟨RX6, "tomsk", "(II)I"⟩
abbrev cX6_round : ByteArray := prog_1_method_20_code
def yX6_round : MethodName := ⟨RX6, "round", "()I"⟩
abbrev cX6_right : ByteArray := prog_1_method_21_code
def yX6_right : MethodName := ⟨RX6, "right", "(I)I"⟩
abbrev cX6_best : ByteArray := prog_1_method_22_code
def yX6_best : MethodName := ⟨RX6, "best", "(I)I"⟩
abbrev cX6_fits : ByteArray := prog_1_method_23_code
def yX6_fits : MethodName := ⟨RX6, "fits", "(IIIII)I"⟩
abbrev cX6_left : ByteArray := prog_1_method_24_code
def yX6_left : MethodName := ⟨RX6, "left", "(III)I"⟩
abbrev cX6_drawn : ByteArray := prog_1_method_25_code
def yX6_drawn : MethodName := ⟨RX6, "drawn", "(III)I"⟩
abbrev cX6_image : ByteArray := prog_1_method_26_code
def yX6_image : MethodName := ⟨RX6, "image", "(I)I"⟩
abbrev cX6_restore : ByteArray := prog_1_method_27_code
def yX6_restore : MethodName := ⟨RX6, "restore", "(I)I"⟩
abbrev cX6_kind : ByteArray := prog_1_method_28_code
def yX6_kind : MethodName := ⟨RX6, "kind", "(I)I"⟩
abbrev cX6_as : ByteArray := prog_1_method_29_code
def yX6_as : MethodName := ⟨RX6, "as", "(II)I"⟩
abbrev cX6_ask : ByteArray := prog_1_method_30_code
def yX6_ask : MethodName := ⟨RX6, "ask", "(II)I"⟩
abbrev cX6_trace : ByteArray := prog_1_method_31_code
def yX6_trace : MethodName := ⟨RX6, "trace", "(I)I"⟩
abbrev cX6_count : ByteArray := prog_1_method_32_code
def yX6_count : MethodName := ⟨RX6, "count", "(I)I"⟩
abbrev cX6_status : ByteArray := prog_1_method_33_code
def yX6_status : MethodName := ⟨RX6, "status", "()I"⟩
abbrev cX6_finding : ByteArray := prog_1_method_34_code
def yX6_finding : MethodName := ⟨RX6, "finding", "(I)I"⟩
abbrev cX6_foundNothing : ByteArray := prog_1_method_35_code
def yX6_foundNothing : MethodName := ⟨RX6, "foundNothing", "(I)I"⟩
abbrev cX6_within : ByteArray := prog_1_method_36_code
def yX6_within : MethodName := ⟨RX6, "within", "(III)Z"⟩
abbrev cX6_isSet : ByteArray := prog_1_method_37_code
def yX6_isSet : MethodName := ⟨RX6, "isSet", "(II)Z"⟩
abbrev cX6_isA : ByteArray := prog_1_method_38_code
def yX6_isA : MethodName := ⟨RX6, "isA", "(II)Z"⟩
def RX7 : String := "PinBoardsModel"
def TX7 : u_T := fun k => match k with
  | 0 => ("PinBoardsModel", "lane", "[I", true)
  | 1 => ("PinBoardsModel", "many", "[I", true)
  | 2 => ("PinBoardsModel", "items", "[I", true)
  | 3 => ("PinBoardsModel", "spare", "[I", true)
  | 4 => ("PinBoardsModel", "status", "I", false)
  | 5 => ("PinBoardsModel", "tape", "[I", true)
  | 6 => ("PinBoardsModel", "taped", "I", false)
  | 7 => ("PinBoardsModel", "faultKind", "I", false)
  | 8 => ("PinBoardsModel", "faultPlace", "I", false)
  | 9 => ("PinBoardsModel", "at", "I", false)
  | 10 => ("PinBoardsModel", "start", "I", false)
  | 11 => ("PinBoardsModel", "token", "I", false)
  | 12 => ("PinBoardsModel", "value", "I", false)
  | 13 => ("PinBoardsModel", "now", "[I", true)
  | 14 => ("PinBoardsModel", "draft", "[I", true)
  | 15 => ("PinBoardsModel", "tried", "[I", true)
  | 16 => ("PinBoardsModel", "past", "[I", true)
  | 17 => ("PinBoardsModel", "acts", "I", false)
  | 18 => ("PinBoardsModel", "images", "[I", true)
  | 19 => ("PinBoardsModel", "kept", "[Z", true)
  | 20 => ("PinBoardsModel", "skills", "[I", true)
  | 21 => ("PinBoardsModel", "works", "[I", true)
  | 22 => ("PinBoardsModel", "goes", "[I", true)
  | 23 => ("PinBoardsModel", "trace", "[I", true)
  | _ => ("PinBoardsModel", "traced", "I", false)
def tyX7 : Nat → FieldType := fun k => match k with
  | 0 => .array .int
  | 1 => .array .int
  | 2 => .array .int
  | 3 => .array .int
  | 4 => .int
  | 5 => .array .int
  | 6 => .int
  | 7 => .int
  | 8 => .int
  | 9 => .int
  | 10 => .int
  | 11 => .int
  | 12 => .int
  | 13 => .array .int
  | 14 => .array .int
  | 15 => .array .int
  | 16 => .array .int
  | 17 => .int
  | 18 => .array .int
  | 19 => .array .boolean
  | 20 => .array .int
  | 21 => .array .int
  | 22 => .array .int
  | 23 => .array .int
  | _ => .int
abbrev wsX70 : List Cond := u_ws RX7 TX7 25
theorem nmX7 : ∀ a, a < 25 → ∀ b, b < 25 → a ≠ b → (TX7 a).2.1 ≠ (TX7 b).2.1 := by decide +kernel
theorem tyX7_ok : ∀ k, k < 25 → parseFieldDescriptor (TX7 k).2.2.1 = some (tyX7 k) := by decide +kernel
abbrev cX7_init : ByteArray := prog_9_method_1_code
def yX7_init : MethodName := ⟨RX7, "<init>", "()V"⟩
abbrev cX7_in : ByteArray := prog_9_method_3_code
def yX7_in : MethodName := ⟨RX7, "in", "(III)Z"⟩
abbrev cX7_has : ByteArray := prog_9_method_4_code
def yX7_has : MethodName := ⟨RX7, "has", "(II)Z"⟩
abbrev cX7_ones : ByteArray := prog_9_method_5_code
def yX7_ones : MethodName := ⟨RX7, "ones", "(I)I"⟩
abbrev cX7_found : ByteArray := prog_9_method_6_code
def yX7_found : MethodName := ⟨RX7, "found", "(I)I"⟩
abbrev cX7_well : ByteArray := prog_9_method_7_code
def yX7_well : MethodName := ⟨RX7, "well", "(I)I"⟩
abbrev cX7_copies : ByteArray := prog_9_method_8_code
def yX7_copies : MethodName := ⟨RX7, "copies", "([II[II)V"⟩
abbrev cX7_isRow : ByteArray := prog_9_method_9_code
def yX7_isRow : MethodName := ⟨RX7, "isRow", "(I)Z"⟩
abbrev cX7_isMissing : ByteArray := prog_9_method_10_code
def yX7_isMissing : MethodName := ⟨RX7, "isMissing", "(I)Z"⟩
abbrev cX7_cut : ByteArray := prog_9_method_11_code
def yX7_cut : MethodName := ⟨RX7, "cut", "(II)I"⟩
abbrev cX7_row : ByteArray := prog_9_method_12_code
def yX7_row : MethodName := ⟨RX7, "row", "(III)I"⟩
abbrev cX7_set : ByteArray := prog_9_method_13_code
def yX7_set : MethodName := ⟨RX7, "set", "(III)I"⟩
abbrev cX7_isPart : ByteArray := prog_9_method_14_code
def yX7_isPart : MethodName := ⟨RX7, "isPart", "(III)Z"⟩
abbrev cX7_copy : ByteArray := prog_9_method_15_code
def yX7_copy : MethodName := ⟨RX7, "copy", "(IIIII)I"⟩
abbrev cX7_drop : ByteArray := prog_9_method_16_code
def yX7_drop : MethodName := ⟨RX7, "drop", "(I)I"⟩
abbrev cX7_feed : ByteArray := prog_9_method_17_code
def yX7_feed : MethodName := ⟨RX7, "feed", "(I)I"⟩
abbrev cX7_byteAt : ByteArray := prog_9_method_18_code
def yX7_byteAt : MethodName := ⟨RX7, "byteAt", "(I)I"⟩
abbrev cX7_advances : ByteArray := prog_9_method_19_code
def yX7_advances : MethodName := ⟨RX7, "advances", "()V"⟩
abbrev cX7_isWell : ByteArray := prog_9_method_20_code
def yX7_isWell : MethodName := ⟨RX7, "isWell", "()Z"⟩
abbrev cX7_takes : ByteArray := prog_9_method_21_code
def yX7_takes : MethodName := ⟨RX7, "takes", "(ZI)I"⟩
abbrev cX7_figure : ByteArray := prog_9_method_22_code
def yX7_figure : MethodName := ⟨RX7, "figure", "(II)I"⟩
abbrev cX7_kindOf : ByteArray := prog_9_method_23_code
def yX7_kindOf : MethodName := ⟨RX7, "kindOf", "(I)I"⟩
abbrev cX7_follows : ByteArray := prog_9_method_24_code
def yX7_follows : MethodName := ⟨RX7, "follows", "(II)I"⟩
abbrev cX7_readsCell : ByteArray := prog_9_method_25_code
def yX7_readsCell : MethodName := ⟨RX7, "readsCell", "()V"⟩
abbrev cX7_homeOf : ByteArray := prog_9_method_26_code
def yX7_homeOf : MethodName := ⟨RX7, "homeOf", "([II)I"⟩
abbrev cX7_takes2 : ByteArray := prog_9_method_27_code
def yX7_takes2 : MethodName := ⟨RX7, "takes2", "(Z)V"⟩
abbrev cX7_readsPin : ByteArray := prog_9_method_28_code
def yX7_readsPin : MethodName := ⟨RX7, "readsPin", "()V"⟩
abbrev cX7_must : ByteArray := prog_9_method_29_code
def yX7_must : MethodName := ⟨RX7, "must", "(Z)V"⟩
abbrev cX7_map : ByteArray := prog_9_method_30_code
def yX7_map : MethodName := ⟨RX7, "map", "()I"⟩
abbrev cX7_fault : ByteArray := prog_9_method_31_code
def yX7_fault : MethodName := ⟨RX7, "fault", "()I"⟩
abbrev cX7_isMap : ByteArray := prog_9_method_32_code
def yX7_isMap : MethodName := ⟨RX7, "isMap", "()Z"⟩
abbrev cX7_isPin : ByteArray := prog_9_method_33_code
def yX7_isPin : MethodName := ⟨RX7, "isPin", "(I)Z"⟩
abbrev cX7_isCell : ByteArray := prog_9_method_34_code
def yX7_isCell : MethodName := ⟨RX7, "isCell", "(I)Z"⟩
abbrev cX7_inCell : ByteArray := prog_9_method_35_code
def yX7_inCell : MethodName := ⟨RX7, "inCell", "([II)I"⟩
abbrev cX7_inTray : ByteArray := prog_9_method_36_code
def yX7_inTray : MethodName := ⟨RX7, "inTray", "([I)I"⟩
abbrev cX7_closes : ByteArray := prog_9_method_37_code
def yX7_closes : MethodName := ⟨RX7, "closes", "([I)V"⟩
abbrev cX7_mixedWith : ByteArray := prog_9_method_38_code
def yX7_mixedWith : MethodName := ⟨RX7, "mixedWith", "([II)I"⟩
abbrev cX7_putsBack : ByteArray := prog_9_method_39_code
def yX7_putsBack : MethodName := ⟨RX7, "putsBack", "([II)V"⟩
abbrev cX7_opens : ByteArray := prog_9_method_40_code
def yX7_opens : MethodName := ⟨RX7, "opens", "([II)V"⟩
abbrev cX7_passes : ByteArray := prog_9_method_41_code
def yX7_passes : MethodName := ⟨RX7, "passes", "([I)V"⟩
abbrev cX7_lays : ByteArray := prog_9_method_42_code
def yX7_lays : MethodName := ⟨RX7, "lays", "([III)V"⟩
abbrev cX7_rights : ByteArray := prog_9_method_43_code
def yX7_rights : MethodName := ⟨RX7, "rights", "([I)I"⟩
abbrev cX7_notes : ByteArray := prog_9_method_44_code
def yX7_notes : MethodName := ⟨RX7, "notes", "()V"⟩
abbrev cX7_times : ByteArray := prog_9_method_45_code
def yX7_times : MethodName := ⟨RX7, "times", "(I)I"⟩
abbrev cX7_move : ByteArray := prog_9_method_46_code
def yX7_move : MethodName := ⟨RX7, "move", "(II)I"⟩
abbrev cX7_swap : ByteArray := prog_9_method_47_code
def yX7_swap : MethodName := ⟨RX7, "swap", "(II)I"⟩
abbrev cX7_work : ByteArray := prog_9_method_48_code
def yX7_work : MethodName := ⟨RX7, "work", "(II)I"⟩
abbrev cX7_slip : ByteArray := prog_9_method_49_code
def yX7_slip : MethodName := ⟨RX7, "slip", "(I)I"⟩
abbrev cX7_undo : ByteArray := prog_9_method_50_code
def yX7_undo : MethodName := ⟨RX7, "undo", "()I"⟩
abbrev cX7_pin : ByteArray := prog_9_method_51_code
def yX7_pin : MethodName := ⟨RX7, "pin", "(II)I"⟩
abbrev cX7_cell : ByteArray := prog_9_method_52_code
def yX7_cell : MethodName := ⟨RX7, "cell", "(II)I"⟩
abbrev cX7_goesOn : ByteArray := prog_9_method_53_code
def yX7_goesOn : MethodName := ⟨RX7, "goesOn", "(I)V"⟩
abbrev cX7_ahead : ByteArray := prog_9_method_54_code
def yX7_ahead : MethodName := ⟨RX7, "ahead", "(II)I"⟩
abbrev cX7_earned : ByteArray := prog_9_method_55_code
def yX7_earned : MethodName := ⟨RX7, "earned", "(I)I"⟩
abbrev cX7_tomsk : ByteArray := prog_9_method_56_code
def yX7_tomsk : MethodName := ⟨RX7, "tomsk", "(II)I"⟩
abbrev cX7_round : ByteArray := prog_9_method_57_code
def yX7_round : MethodName := ⟨RX7, "round", "()I"⟩
abbrev cX7_changes : ByteArray := prog_9_method_58_code
def yX7_changes : MethodName := ⟨RX7, "changes", "()I"⟩
abbrev cX7_right : ByteArray := prog_9_method_59_code
def yX7_right : MethodName := ⟨RX7, "right", "(I)I"⟩
abbrev cX7_laysIn : ByteArray := prog_9_method_60_code
def yX7_laysIn : MethodName := ⟨RX7, "laysIn", "([III)V"⟩
abbrev cX7_mostOf : ByteArray := prog_9_method_61_code
def yX7_mostOf : MethodName := ⟨RX7, "mostOf", "(II)I"⟩
abbrev cX7_best : ByteArray := prog_9_method_62_code
def yX7_best : MethodName := ⟨RX7, "best", "(I)I"⟩
abbrev cX7_toOpening : ByteArray := prog_9_method_63_code
def yX7_toOpening : MethodName := ⟨RX7, "toOpening", "()V"⟩
abbrev cX7_isSeen : ByteArray := prog_9_method_64_code
def yX7_isSeen : MethodName := ⟨RX7, "isSeen", "(III)Z"⟩
abbrev cX7_triesBy : ByteArray := prog_9_method_65_code
def yX7_triesBy : MethodName := ⟨RX7, "triesBy", "(III)V"⟩
abbrev cX7_fits : ByteArray := prog_9_method_66_code
def yX7_fits : MethodName := ⟨RX7, "fits", "(IIIII)I"⟩
abbrev cX7_left : ByteArray := prog_9_method_67_code
def yX7_left : MethodName := ⟨RX7, "left", "(III)I"⟩
abbrev cX7_drawn : ByteArray := prog_9_method_68_code
def yX7_drawn : MethodName := ⟨RX7, "drawn", "(III)I"⟩
abbrev cX7_image : ByteArray := prog_9_method_69_code
def yX7_image : MethodName := ⟨RX7, "image", "(I)I"⟩
abbrev cX7_restore : ByteArray := prog_9_method_70_code
def yX7_restore : MethodName := ⟨RX7, "restore", "(I)I"⟩
abbrev cX7_kindIn : ByteArray := prog_9_method_71_code
def yX7_kindIn : MethodName := ⟨RX7, "kindIn", "(I)I"⟩
abbrev cX7_kind : ByteArray := prog_9_method_72_code
def yX7_kind : MethodName := ⟨RX7, "kind", "(I)I"⟩
abbrev cX7_as : ByteArray := prog_9_method_73_code
def yX7_as : MethodName := ⟨RX7, "as", "(II)I"⟩
abbrev cX7_begins : ByteArray := prog_9_method_74_code
def yX7_begins : MethodName := ⟨RX7, "begins", "(I)V"⟩
abbrev cX7_agentMark : ByteArray := prog_9_method_75_code
def yX7_agentMark : MethodName := ⟨RX7, "agentMark", "(I)I"⟩
abbrev cX7_oldSize : ByteArray := prog_9_method_76_code
def yX7_oldSize : MethodName := ⟨RX7, "oldSize", "(I)I"⟩
abbrev cX7_agentSize : ByteArray := prog_9_method_77_code
def yX7_agentSize : MethodName := ⟨RX7, "agentSize", "(I)I"⟩
abbrev cX7_oldMark : ByteArray := prog_9_method_78_code
def yX7_oldMark : MethodName := ⟨RX7, "oldMark", "(I)I"⟩
abbrev cX7_ask : ByteArray := prog_9_method_79_code
def yX7_ask : MethodName := ⟨RX7, "ask", "(II)I"⟩
abbrev cX7_trace : ByteArray := prog_9_method_80_code
def yX7_trace : MethodName := ⟨RX7, "trace", "(I)I"⟩
abbrev cX7_count : ByteArray := prog_9_method_81_code
def yX7_count : MethodName := ⟨RX7, "count", "(I)I"⟩
abbrev cX7_status : ByteArray := prog_9_method_82_code
def yX7_status : MethodName := ⟨RX7, "status", "()I"⟩
def RJ6 : String := "java/lang/Integer"
def TJ6 : u_T := fun k => match k with
  | _ => ("", "", "", false)
def tyJ6 : Nat → FieldType := fun k => match k with
  | _ => .int
abbrev wsJ60 : List Cond := u_ws RJ6 TJ6 0
theorem nmJ6 : ∀ a, a < 0 → ∀ b, b < 0 → a ≠ b → (TJ6 a).2.1 ≠ (TJ6 b).2.1 := by decide +kernel
theorem tyJ6_ok : ∀ k, k < 0 → parseFieldDescriptor (TJ6 k).2.2.1 = some (tyJ6 k) := by decide +kernel
abbrev cJ6_bitCount_0f7a4 : ByteArray := prog_10_method_49_code
def yJ6_bitCount_0f7a4 : MethodName := ⟨RJ6, "bitCount", "(I)I"⟩
def RJ9 : String := "java/lang/Math"
def TJ9 : u_T := fun k => match k with
  | _ => ("", "", "", false)
def tyJ9 : Nat → FieldType := fun k => match k with
  | _ => .int
abbrev wsJ90 : List Cond := u_ws RJ9 TJ9 0
theorem nmJ9 : ∀ a, a < 0 → ∀ b, b < 0 → a ≠ b → (TJ9 a).2.1 ≠ (TJ9 b).2.1 := by decide +kernel
theorem tyJ9_ok : ∀ k, k < 0 → parseFieldDescriptor (TJ9 k).2.2.1 = some (tyJ9 k) := by decide +kernel
abbrev cJ9_min_7cf53 : ByteArray := prog_11_method_69_code
def yJ9_min_7cf53 : MethodName := ⟨RJ9, "min", "(II)I"⟩
def RJ10 : String := "java/lang/System"
def TJ10 : u_T := fun k => match k with
  | _ => ("", "", "", false)
def tyJ10 : Nat → FieldType := fun k => match k with
  | _ => .int
abbrev wsJ100 : List Cond := u_ws RJ10 TJ10 0
theorem nmJ10 : ∀ a, a < 0 → ∀ b, b < 0 → a ≠ b → (TJ10 a).2.1 ≠ (TJ10 b).2.1 := by decide +kernel
theorem tyJ10_ok : ∀ k, k < 0 → parseFieldDescriptor (TJ10 k).2.2.1 = some (tyJ10 k) := by decide +kernel
def RL : String := "PinBoardsLaw"
abbrev cL_law : ByteArray := code
def yL_law : MethodName := ⟨RL, "law", "([I)Z"⟩
abbrev vwCl : List vw_C := [(RX0, TX0, 3), (RX1, TX1, 12), (RX2, TX2, 2), (RX3, TX3, 3), (RX4, TX4, 6), (RX5, TX5, 3), (RX6, TX6, 8), (RX7, TX7, 25)]
end
section
/-! the layer: a pure state (cell number, place) -> int; a world of cells whose shape never changes; one row an instruction -/
abbrev St : Type := Nat → Nat → Int32
def up (σ : St) (a i : Nat) (v : Int32) : St := fun a' i' => if a' = a ∧ i' = i then v else σ a' i'
def upR (σ : St) (a : Nat) (f : Nat → Int32) : St := fun a' i' => if a' = a then f i' else σ a' i'
abbrev Rt : Type := Option (Int32 × St)
def bd (i : Int32) (n : Nat) (t : Rt) : Rt := if 0 ≤ i.toInt ∧ i.toInt < n then t else none
def nz (y : Int32) (t : Rt) : Rt := if y = 0 then none else t
def nzl (y : Int64) (t : Rt) : Rt := if y = 0 then none else t
def vB (v : Int32) (t : Rt) : Rt := if v = 0 ∨ v = 1 then t else none
def bnd (o : Rt) (k : Int32 → St → Rt) : Rt := match o with
  | none => none
  | some p => k p.1 p.2
def nm (e : Int32) (k : Int32 → Rt) : Rt := k e
def nml (e : Int64) (k : Int64 → Rt) : Rt := k e
def nmS (e : St) (k : St → Rt) : Rt := k e
/-- arraycopy's bounds -/
def bdc (sp dp n : Int32) (n0 n1 : Nat) (t : Rt) : Rt := if ¬ sp < 0 ∧ ¬ dp < 0 ∧ ¬ n < 0 ∧ sp.toNatClampNeg + n.toNatClampNeg ≤ n0 ∧ dp.toNatClampNeg + n.toNatClampNeg ≤ n1 then t else none
/-- the words that any method may lean on -/
def gt : List Cond := lw_tbl.filter goodWord
def cx_isN : Cond → Bool
  | .methodLinkNest _ _ _ _ => true
  | _ => false
def nw : List Cond := lw_tbl.filter cx_isN
theorem gt_of {w : Cond} (h : w ∈ lw_tbl) (g : goodWord w = true) : w ∈ gt := List.mem_filter.mpr ⟨h, g⟩
theorem gt_good : ∀ {w : Cond}, w ∈ gt → (w.onTables && w.keeps) = true ∨ ∃ ty, w = .arrayClass ty := fun h => good_of_word (List.mem_filter.mp h).2
theorem gt_in {ws : List Cond} (h : ∀ w ∈ ws, w ∈ gt) : GoodIn gt ws := fun w hw => ⟨h w hw, gt_good (h w hw)⟩
theorem nw_warm {s U : State} (hW : s.WarmedH U.vm) (h : ∀ w ∈ nw, va_Nw w s) : ∀ w ∈ nw, va_Nw w U := by
  intro w hw
  have h2 := (List.mem_filter.mp hw).2
  cases w <;> first | exact va_Nw.warmM hW (h _ hw) | (simp [cx_isN] at h2)
theorem nw_blind {s U : State} (hv : s.vm = U.vm) (h : ∀ w ∈ nw, va_Nw w s) : ∀ w ∈ nw, va_Nw w U := by
  intro w hw
  have h2 := (List.mem_filter.mp hw).2
  cases w <;> first | exact va_Nw.same rfl hv (h _ hw) | (simp [cx_isN] at h2)
/-- a shape: how many cells, and what each holds -/
abbrev Sh : Type := Nat × ((Nat → Nat) → (Nat → ClassId) → St → Nat → va_E)
def wl (Z : Sh) (q : Nat → Nat) (k : Nat → ClassId) (σ : St) : va_W := (List.range Z.1).map fun i => (q i, Z.2 q k σ i)
theorem wl_get {Z : Sh} {q : Nat → Nat} {k : Nat → ClassId} {σ : St} {i : Nat} (h : i < Z.1) : (wl Z q k σ)[i]? = some (q i, Z.2 q k σ i) := by simp [wl, h]
theorem wl_at {Z : Sh} {q : Nat → Nat} {k : Nat → ClassId} {σ : St} {i : Nat} {x : Nat × va_E} (h : (wl Z q k σ)[i]? = some x) : i < Z.1 ∧ x = (q i, Z.2 q k σ i) := by
  have hl := (List.getElem?_eq_some_iff.mp h).1
  simp [wl] at hl
  rw [wl_get hl] at h
  exact ⟨hl, (Option.some.inj h).symm⟩
theorem wl_set {Z : Sh} {q : Nat → Nat} {k : Nat → ClassId} {σ σ' : St} {i : Nat} {e : va_E} (h : i < Z.1) (he : e = Z.2 q k σ' i) (ho : ∀ j, j ≠ i → Z.2 q k σ' j = Z.2 q k σ j) : (wl Z q k σ).set i (q i, e) = wl Z q k σ' := by
  subst he
  apply List.ext_getElem?
  intro j
  by_cases hj : j = i
  · subst hj
    rw [List.getElem?_set_self (by simpa [wl] using h), wl_get h]
  · rw [List.getElem?_set_ne (Ne.symm hj)]
    by_cases hl : j < Z.1
    · rw [wl_get hl, wl_get hl, ho j hj]
    · rw [List.getElem?_eq_none (by simp [wl]; omega), List.getElem?_eq_none (by simp [wl]; omega)]
def Inj (Z : Sh) (q : Nat → Nat) : Prop := ∀ i j : Nat, i < Z.1 → j < Z.1 → q i = q j → i = j
/-- what a cell holds lies in its own row of the state -/
def Lc (Z : Sh) : Prop := ∀ (q : Nat → Nat) (k : Nat → ClassId) (σ σ' : St) (i : Nat), σ i = σ' i → Z.2 q k σ i = Z.2 q k σ' i
def own (Z : Sh) (q : Nat → Nat) : Nat → Prop := fun a => ∃ i, i < Z.1 ∧ a = q i
theorem wl_D {Z : Sh} {q : Nat → Nat} {k : Nat → ClassId} {σ : St} (h : Inj Z q) : va_D (own Z q) (wl Z q k σ) := by
  refine ⟨fun i j x y hi hj hxy => ?_, fun i x hi => ?_⟩
  · obtain ⟨h1, rfl⟩ := wl_at hi
    obtain ⟨h2, rfl⟩ := wl_at hj
    exact h i j h1 h2 hxy
  · obtain ⟨h1, rfl⟩ := wl_at hi
    exact ⟨i, h1, rfl⟩
/-- the array classes: 0 int[], 1 boolean[], 2 Board[], 3 int[][] -/
def tysOf (k : Nat → ClassId) : List (ClassId × FieldType) := [(k 0, .int), (k 1, .boolean), (k 2, .object "PinBoards$Board"), (k 3, .array .int)]
/-- what a state holds -/
def hold (Z : Sh) (D : va_G) (k : Nat → ClassId) (q : Nat → Nat) (σ : St) (U : State) : Prop := va_P D vwCl (wl Z q k σ) U.heap ∧ va_K D vwCl (tysOf k) U ∧ ∀ w ∈ nw, va_Nw w U
def Qo (Z : Sh) (D : va_G) (k : Nat → ClassId) (q : Nat → Nat) (ret : Option FieldType) (x : Int32 × St) : Array Value → State → Outcome → State → Prop := match ret with
  | none => va_Qv (fun u : St => u = x.2) (fun u t => va_P D vwCl (wl Z q k u) t.heap) (own Z q)
  | some _ => va_Qi (fun (r : Int32) (u : St) => r = x.1 ∧ u = x.2) (fun u t => va_P D vwCl (wl Z q k u) t.heap) (own Z q)
/-- a method's contract at a pure state: where its pure text has an answer, it returns that -/
def Ct (l : Launch) (Z : Sh) (D : va_G) (k : Nat → ClassId) (q : Nat → Nat) (y : MethodName) (cc : ByteArray) (nL : Nat) (ret : Option FieldType) (fr lo : Nat) (av : List Value) (σ : St) (o : Rt) : Prop :=
  ∀ x : Int32 × St, o = some x → Met l y (.code y cc nL ret :: gt) ({ frames := fr, cells := 0, slots := 0, locals := lo }) (va_Pc av (hold Z D k q σ)) (Qo Z D k q ret x) 0 0 (own Z q)
/-- where a walk stands, all that never changes in it -/
abbrev CX : Type := Program × Launch × Env × Room × State × MethodId × Array Value × List Frame × Method × Code × va_G × (Nat → ClassId) × (Nat → Nat) × (Int32 × St)
def cp (X : CX) : Program := X.1
def cl (X : CX) : Launch := X.2.1
def ce (X : CX) : Env := X.2.2.1
def cR (X : CX) : Room := X.2.2.2.1
def cs (X : CX) : State := X.2.2.2.2.1
def cm (X : CX) : MethodId := X.2.2.2.2.2.1
def ca (X : CX) : Array Value := X.2.2.2.2.2.2.1
def cb (X : CX) : List Frame := X.2.2.2.2.2.2.2.1
def cM (X : CX) : Method := X.2.2.2.2.2.2.2.2.1
def cc_ (X : CX) : Code := X.2.2.2.2.2.2.2.2.2.1
def cD (X : CX) : va_G := X.2.2.2.2.2.2.2.2.2.2.1
def ck (X : CX) : Nat → ClassId := X.2.2.2.2.2.2.2.2.2.2.2.1
def cq (X : CX) : Nat → Nat := X.2.2.2.2.2.2.2.2.2.2.2.2.1
def cx (X : CX) : Int32 × St := X.2.2.2.2.2.2.2.2.2.2.2.2.2
def Cx (X : CX) (Z : Sh) (ow : String) (cc : ByteArray) (nL : Nat) (ret : Option FieldType) (fr lo : Nat) : Prop :=
  (cp X).tables.exec = Jvm.exec ∧ (cc_ X).code = cc ∧ (cc_ X).maxLocals = nL ∧ (cs X).vm.findClass ow = some (cm X).cls ∧ (∀ w ∈ gt, w.before (ca X) (cs X) = true) ∧ (∀ w ∈ nw, va_Nw w (cs X)) ∧ (cM X).sig.returnType = ret ∧ (cM X).locks = false ∧ cR X = { frames := fr, cells := 0, slots := 0, locals := lo } ∧ va_K (cD X) vwCl (tysOf (ck X)) (cs X) ∧ Inj Z (cq X) ∧ Lc Z
/-- from this frame, where the pure text has the answer that is due, the machine comes to its end with it -/
def Sm (X : CX) (Z : Sh) (nL : Nat) (ret : Option FieldType) (σ : St) (lv : List (Nat × Value)) (pc : Nat) (st : List Value) (t : Rt) : Prop :=
  t = some (cx X) → ∀ (H : Heap) (locs : List Loc) (ls : Array Slot), lv_has ls nL lv → va_P (cD X) vwCl (wl Z (cq X) (ck X) σ) H → va_S (own Z (cq X)) (cs X).heap H locs →
    W (cp X) (cl X) (ce X) (cR X) (cs X) (cm X) (ca X) (cb X) (cM X) (cc_ X) H locs 0 0 (MQ (cb X) (Qo Z (cD X) (ck X) (cq X) ret (cx X)) (ca X) (cs X) 0 0 (own Z (cq X))) (F0 (cm X) pc ls st)
def dec (cc : ByteArray) (pc : Nat) (i : Instr) (n nx : Nat) : Prop := decode cc pc = .ok (i, n) ∧ pc + n = nx
def lkp : List (Nat × Value) → Nat → Option Value
  | [], _ => none
  | (j, v) :: l, i => if j = i then some v else lkp l i
theorem lkp_mem : ∀ {l : List (Nat × Value)} {i : Nat} {v : Value}, lkp l i = some v → (i, v) ∈ l
  | (j, w) :: l, i, v, h => by
    unfold lkp at h
    by_cases e : j = i
    · subst e
      rw [if_pos rfl] at h
      cases h
      exact List.mem_cons_self
    · rw [if_neg e] at h
      exact List.mem_cons_of_mem _ (lkp_mem h)
theorem lkp_has {ls : Array Slot} {nL : Nat} {l : List (Nat × Value)} (h : lv_has ls nL l) {i : Nat} {v : Value} (e : lkp l i = some v) : ls[i]? = some (.val v) := h.2.2 (i, v) (lkp_mem e)
def sto (l : List (Nat × Value)) (i : Nat) (v : Value) : List (Nat × Value) := (i, v) :: l.filter (fun q => !(q.1 == i) && !(q.1 + 1 == i && q.2.category == 2))
def stoL (l : List (Nat × Value)) (i : Nat) (v : Value) : List (Nat × Value) := (i, v) :: l.filter (fun q => !(q.1 == i) && (!(q.1 == i + 1) && !(q.1 + 1 == i && q.2.category == 2)))
def subl : List (Nat × Value) → List (Nat × Value) → Prop
  | [], _ => True
  | (i, v) :: r, l => lkp l i = some v ∧ subl r l
theorem subl_has {ls : Array Slot} {nL : Nat} {l : List (Nat × Value)} (h : lv_has ls nL l) : ∀ {r : List (Nat × Value)}, subl r l → lv_has ls nL r
  | [], _ => ⟨h.1, h.2.1, fun q hq => by cases hq⟩
  | (i, v) :: r, ⟨h1, h2⟩ => by
    have ih := subl_has h h2
    refine ⟨h.1, h.2.1, fun q hq => ?_⟩
    rcases List.mem_cons.mp hq with rfl | hq
    · exact lkp_has h h1
    · exact ih.2.2 q hq
section ROWS
variable {X : CX} {Z : Sh} {ow : String} {cc : ByteArray} {nL : Nat} {ret : Option FieldType} {fr lo : Nat} {σ : St} {lv : List (Nat × Value)} {pc nx : Nat} {st : List Value} {t : Rt}
/-- a cut: fewer locals are told -/
theorem s_cut {lv' : List (Nat × Value)} (h : Sm X Z nL ret σ lv' pc st t) (hs : subl lv' lv) : Sm X Z nL ret σ lv pc st t :=
  fun e H locs ls hl hP hS => h e H locs ls (subl_has hl hs) hP hS
theorem s_none : Sm X Z nL ret σ lv pc st none := fun e => by cases e
theorem s_nm {e : Int32} {kt : Int32 → Rt} (kk : ∀ y : Int32, Sm X Z nL ret σ lv pc (.int y :: st) (kt y)) : Sm X Z nL ret σ lv pc (.int e :: st) (nm e kt) := kk e
theorem s_nml {e : Int64} {kt : Int64 → Rt} (kk : ∀ y : Int64, Sm X Z nL ret σ lv pc (.long y :: st) (kt y)) : Sm X Z nL ret σ lv pc (.long e :: st) (nml e kt) := kk e
theorem s_iload_n (C : Cx X Z ow cc nL ret fr lo) {i : Fin 4} {x : Int32} (hd : dec cc pc (.iload_n i) 1 nx) (hv : lkp lv i.val = some (.int x)) (kk : Sm X Z nL ret σ lv nx (.int x :: st) t) : Sm X Z nL ret σ lv pc st t :=
  fun e H locs ls hl hP hS => by
    obtain ⟨hd, rfl⟩ := hd
    exact lv_iload_n C.1 C.2.1 hd rfl (lkp_has hl hv) (kk e H locs ls hl hP hS)
theorem s_iload (C : Cx X Z ow cc nL ret fr lo) {i : Nat} {x : Int32} (hd : dec cc pc (.iload i) 2 nx) (hv : lkp lv i = some (.int x)) (kk : Sm X Z nL ret σ lv nx (.int x :: st) t) : Sm X Z nL ret σ lv pc st t :=
  fun e H locs ls hl hP hS => by
    obtain ⟨hd, rfl⟩ := hd
    exact lv_iload C.1 C.2.1 hd (lkp_has hl hv) (kk e H locs ls hl hP hS)
theorem s_lload_n (C : Cx X Z ow cc nL ret fr lo) {i : Fin 4} {x : Int64} (hd : dec cc pc (.lload_n i) 1 nx) (hv : lkp lv i.val = some (.long x)) (kk : Sm X Z nL ret σ lv nx (.long x :: st) t) : Sm X Z nL ret σ lv pc st t :=
  fun e H locs ls hl hP hS => by
    obtain ⟨hd, rfl⟩ := hd
    exact lv_lload_n C.1 C.2.1 hd rfl (lkp_has hl hv) (kk e H locs ls hl hP hS)
theorem s_lload (C : Cx X Z ow cc nL ret fr lo) {i : Nat} {x : Int64} (hd : dec cc pc (.lload i) 2 nx) (hv : lkp lv i = some (.long x)) (kk : Sm X Z nL ret σ lv nx (.long x :: st) t) : Sm X Z nL ret σ lv pc st t :=
  fun e H locs ls hl hP hS => by
    obtain ⟨hd, rfl⟩ := hd
    exact lv_lload C.1 C.2.1 hd (lkp_has hl hv) (kk e H locs ls hl hP hS)
theorem s_aload_n (C : Cx X Z ow cc nL ret fr lo) {i : Fin 4} {x : Nat} (hd : dec cc pc (.aload_n i) 1 nx) (hv : lkp lv i.val = some (.ref x)) (kk : Sm X Z nL ret σ lv nx (.ref x :: st) t) : Sm X Z nL ret σ lv pc st t :=
  fun e H locs ls hl hP hS => by
    obtain ⟨hd, rfl⟩ := hd
    exact lv_aload_n C.1 C.2.1 hd rfl (lkp_has hl hv) (kk e H locs ls hl hP hS)
theorem s_istore_n (C : Cx X Z ow cc nL ret fr lo) {i : Fin 4} {x : Int32} (hd : dec cc pc (.istore_n i) 1 nx) (hn : i.val < nL) (kk : Sm X Z nL ret σ (sto lv i.val (.int x)) nx st t) : Sm X Z nL ret σ lv pc (.int x :: st) t :=
  fun e H locs ls hl hP hS => by
    obtain ⟨hd, rfl⟩ := hd
    exact lv_istore_n C.1 C.2.1 hd rfl hl hn rfl (fun ls' hl' => kk e H locs ls' hl' hP hS)
theorem s_istore (C : Cx X Z ow cc nL ret fr lo) {i : Nat} {x : Int32} (hd : dec cc pc (.istore i) 2 nx) (hn : i < nL) (kk : Sm X Z nL ret σ (sto lv i (.int x)) nx st t) : Sm X Z nL ret σ lv pc (.int x :: st) t :=
  fun e H locs ls hl hP hS => by
    obtain ⟨hd, rfl⟩ := hd
    exact lv_istore C.1 C.2.1 hd hl hn rfl (fun ls' hl' => kk e H locs ls' hl' hP hS)
theorem s_astore_n (C : Cx X Z ow cc nL ret fr lo) {i : Fin 4} {x : Nat} (hd : dec cc pc (.astore_n i) 1 nx) (hn : i.val < nL) (kk : Sm X Z nL ret σ (sto lv i.val (.ref x)) nx st t) : Sm X Z nL ret σ lv pc (.ref x :: st) t :=
  fun e H locs ls hl hP hS => by
    obtain ⟨hd, rfl⟩ := hd
    exact lv_astore_n C.1 C.2.1 hd rfl hl hn rfl (fun ls' hl' => kk e H locs ls' hl' hP hS)
theorem s_lstore_n (C : Cx X Z ow cc nL ret fr lo) {i : Fin 4} {x : Int64} (hd : dec cc pc (.lstore_n i) 1 nx) (hn : i.val + 1 < nL) (kk : Sm X Z nL ret σ (stoL lv i.val (.long x)) nx st t) : Sm X Z nL ret σ lv pc (.long x :: st) t :=
  fun e H locs ls hl hP hS => by
    obtain ⟨hd, rfl⟩ := hd
    exact lv_lstore_n C.1 C.2.1 hd rfl hl hn rfl (fun ls' hl' => kk e H locs ls' hl' hP hS)
theorem s_lstore (C : Cx X Z ow cc nL ret fr lo) {i : Nat} {x : Int64} (hd : dec cc pc (.lstore i) 2 nx) (hn : i + 1 < nL) (kk : Sm X Z nL ret σ (stoL lv i (.long x)) nx st t) : Sm X Z nL ret σ lv pc (.long x :: st) t :=
  fun e H locs ls hl hP hS => by
    obtain ⟨hd, rfl⟩ := hd
    exact lv_lstore C.1 C.2.1 hd hl hn rfl (fun ls' hl' => kk e H locs ls' hl' hP hS)
theorem s_iinc (C : Cx X Z ow cc nL ret fr lo) {i : Nat} {n : Int} {x v : Int32} (hd : dec cc pc (.iinc i n) 3 nx) (hv : lkp lv i = some (.int x)) (hn : i < nL) (he : Int32.ofInt n = v) (kk : Sm X Z nL ret σ (sto lv i (.int (x + v))) nx st t) : Sm X Z nL ret σ lv pc st t :=
  fun e H locs ls hl hP hS => by
    obtain ⟨hd, rfl⟩ := hd
    subst he
    obtain ⟨k, hk, hke⟩ := List.getElem_of_mem (lkp_mem hv)
    exact lv_iinc C.1 C.2.1 hd hl (k := k) (by rw [List.getElem?_eq_getElem hk, hke]) rfl hn rfl (fun ls' hl' => kk e H locs ls' hl' hP hS)
theorem s_iconst (C : Cx X Z ow cc nL ret fr lo) {n : Int} {v : Int32} (hd : dec cc pc (.iconst n) 1 nx) (hv : Int32.ofInt n = v) (kk : Sm X Z nL ret σ lv nx (.int v :: st) t) : Sm X Z nL ret σ lv pc st t :=
  fun e H locs ls hl hP hS => by
    obtain ⟨hd, rfl⟩ := hd
    exact lv_iconst C.1 C.2.1 hd hv (kk e H locs ls hl hP hS)
theorem s_bipush (C : Cx X Z ow cc nL ret fr lo) {n : Int} {v : Int32} (hd : dec cc pc (.bipush n) 2 nx) (hv : (Int8.ofInt n).toInt32 = v) (kk : Sm X Z nL ret σ lv nx (.int v :: st) t) : Sm X Z nL ret σ lv pc st t :=
  fun e H locs ls hl hP hS => by
    obtain ⟨hd, rfl⟩ := hd
    exact lv_bipush C.1 C.2.1 hd hv (kk e H locs ls hl hP hS)
theorem s_sipush (C : Cx X Z ow cc nL ret fr lo) {n : Int} {v : Int32} (hd : dec cc pc (.sipush n) 3 nx) (hv : (Int16.ofInt n).toInt32 = v) (kk : Sm X Z nL ret σ lv nx (.int v :: st) t) : Sm X Z nL ret σ lv pc st t :=
  fun e H locs ls hl hP hS => by
    obtain ⟨hd, rfl⟩ := hd
    exact lv_sipush C.1 C.2.1 hd hv (kk e H locs ls hl hP hS)
theorem s_ldc (C : Cx X Z ow cc nL ret fr lo) {ix : Nat} {v : Int32} (hd : dec cc pc (.ldc ix) 2 nx) (hw : Cond.constant ow ix v ∈ gt) (kk : Sm X Z nL ret σ lv nx (.int v :: st) t) : Sm X Z nL ret σ lv pc st t :=
  fun e H locs ls hl hP hS => by
    obtain ⟨hd, rfl⟩ := hd
    exact lv_ldc C.1 C.2.1 C.2.2.2.1 (C.2.2.2.2.1 _ hw) hd (kk e H locs ls hl hP hS)
theorem s_ldcw (C : Cx X Z ow cc nL ret fr lo) {ix : Nat} {v : Int32} (hd : dec cc pc (.ldc_w ix) 3 nx) (hw : Cond.constant ow ix v ∈ gt) (kk : Sm X Z nL ret σ lv nx (.int v :: st) t) : Sm X Z nL ret σ lv pc st t :=
  fun e H locs ls hl hP hS => by
    obtain ⟨hd, rfl⟩ := hd
    exact lv_ldcw C.1 C.2.1 C.2.2.2.1 (C.2.2.2.2.1 _ hw) hd (kk e H locs ls hl hP hS)
theorem s_ldc2 (C : Cx X Z ow cc nL ret fr lo) {ix : Nat} {v : Int64} (hd : dec cc pc (.ldc2_w ix) 3 nx) (hw : Cond.constantLong ow ix v ∈ gt) (kk : Sm X Z nL ret σ lv nx (.long v :: st) t) : Sm X Z nL ret σ lv pc st t :=
  fun e H locs ls hl hP hS => by
    obtain ⟨hd, rfl⟩ := hd
    exact lv_ldc2 C.1 C.2.1 C.2.2.2.1 (C.2.2.2.2.1 _ hw) hd (kk e H locs ls hl hP hS)
theorem s_dup (C : Cx X Z ow cc nL ret fr lo) {v : Value} (hd : dec cc pc .dup 1 nx) (hv : v.category = 1) (kk : Sm X Z nL ret σ lv nx (v :: v :: st) t) : Sm X Z nL ret σ lv pc (v :: st) t :=
  fun e H locs ls hl hP hS => by
    obtain ⟨hd, rfl⟩ := hd
    exact lv_dup C.1 C.2.1 hd hv (kk e H locs ls hl hP hS)
theorem s_dup2 (C : Cx X Z ow cc nL ret fr lo) {v w : Value} (hd : dec cc pc .dup2 1 nx) (hv : v.category = 1) (hw : w.category = 1) (kk : Sm X Z nL ret σ lv nx (v :: w :: v :: w :: st) t) : Sm X Z nL ret σ lv pc (v :: w :: st) t :=
  fun e H locs ls hl hP hS => by
    obtain ⟨hd, rfl⟩ := hd
    exact lv_dup2_11 C.1 C.2.1 hd hv hw (kk e H locs ls hl hP hS)
theorem s_pop (C : Cx X Z ow cc nL ret fr lo) {v : Value} (hd : dec cc pc .pop 1 nx) (hv : v.category = 1) (kk : Sm X Z nL ret σ lv nx st t) : Sm X Z nL ret σ lv pc (v :: st) t :=
  fun e H locs ls hl hP hS => by
    obtain ⟨hd, rfl⟩ := hd
    exact lv_pop C.1 C.2.1 hd hv (kk e H locs ls hl hP hS)
theorem s_goto (C : Cx X Z ow cc nL ret fr lo) {off : Int} {tgt : Nat} (hd : dec cc pc (.goto off) 3 nx) (ht : (pc : Int) + off = (tgt : Int)) (kk : Sm X Z nL ret σ lv tgt st t) : Sm X Z nL ret σ lv pc st t :=
  fun e H locs ls hl hP hS => lv_goto C.1 C.2.1 hd.1 ht (kk e H locs ls hl hP hS)
theorem s_iadd (C : Cx X Z ow cc nL ret fr lo) {x y : Int32} (hd : dec cc pc .iadd 1 nx) (kk : Sm X Z nL ret σ lv nx (.int (x + y) :: st) t) : Sm X Z nL ret σ lv pc (.int y :: .int x :: st) t :=
  fun e H locs ls hl hP hS => by
    obtain ⟨hd, rfl⟩ := hd
    exact lv_iadd C.1 C.2.1 hd (kk e H locs ls hl hP hS)
theorem s_isub (C : Cx X Z ow cc nL ret fr lo) {x y : Int32} (hd : dec cc pc .isub 1 nx) (kk : Sm X Z nL ret σ lv nx (.int (x - y) :: st) t) : Sm X Z nL ret σ lv pc (.int y :: .int x :: st) t :=
  fun e H locs ls hl hP hS => by
    obtain ⟨hd, rfl⟩ := hd
    exact lv_isub C.1 C.2.1 hd (kk e H locs ls hl hP hS)
theorem s_imul (C : Cx X Z ow cc nL ret fr lo) {x y : Int32} (hd : dec cc pc .imul 1 nx) (kk : Sm X Z nL ret σ lv nx (.int (x * y) :: st) t) : Sm X Z nL ret σ lv pc (.int y :: .int x :: st) t :=
  fun e H locs ls hl hP hS => by
    obtain ⟨hd, rfl⟩ := hd
    exact lv_imul C.1 C.2.1 hd (kk e H locs ls hl hP hS)
theorem s_iand (C : Cx X Z ow cc nL ret fr lo) {x y : Int32} (hd : dec cc pc .iand 1 nx) (kk : Sm X Z nL ret σ lv nx (.int (x &&& y) :: st) t) : Sm X Z nL ret σ lv pc (.int y :: .int x :: st) t :=
  fun e H locs ls hl hP hS => by
    obtain ⟨hd, rfl⟩ := hd
    exact lv_iand C.1 C.2.1 hd (kk e H locs ls hl hP hS)
theorem s_ior (C : Cx X Z ow cc nL ret fr lo) {x y : Int32} (hd : dec cc pc .ior 1 nx) (kk : Sm X Z nL ret σ lv nx (.int (x ||| y) :: st) t) : Sm X Z nL ret σ lv pc (.int y :: .int x :: st) t :=
  fun e H locs ls hl hP hS => by
    obtain ⟨hd, rfl⟩ := hd
    exact lv_ior C.1 C.2.1 hd (kk e H locs ls hl hP hS)
theorem s_ixor (C : Cx X Z ow cc nL ret fr lo) {x y : Int32} (hd : dec cc pc .ixor 1 nx) (kk : Sm X Z nL ret σ lv nx (.int (x ^^^ y) :: st) t) : Sm X Z nL ret σ lv pc (.int y :: .int x :: st) t :=
  fun e H locs ls hl hP hS => by
    obtain ⟨hd, rfl⟩ := hd
    exact lv_ixor C.1 C.2.1 hd (kk e H locs ls hl hP hS)
theorem s_ishl (C : Cx X Z ow cc nL ret fr lo) {x y : Int32} (hd : dec cc pc .ishl 1 nx) (kk : Sm X Z nL ret σ lv nx (.int (x <<< (y &&& 31)) :: st) t) : Sm X Z nL ret σ lv pc (.int y :: .int x :: st) t :=
  fun e H locs ls hl hP hS => by
    obtain ⟨hd, rfl⟩ := hd
    exact lv_ishl C.1 C.2.1 hd (kk e H locs ls hl hP hS)
theorem s_ishr (C : Cx X Z ow cc nL ret fr lo) {x y : Int32} (hd : dec cc pc .ishr 1 nx) (kk : Sm X Z nL ret σ lv nx (.int (x >>> (y &&& 31)) :: st) t) : Sm X Z nL ret σ lv pc (.int y :: .int x :: st) t :=
  fun e H locs ls hl hP hS => by
    obtain ⟨hd, rfl⟩ := hd
    exact lv_ishr C.1 C.2.1 hd (kk e H locs ls hl hP hS)
theorem s_idiv (C : Cx X Z ow cc nL ret fr lo) {x y : Int32} (hd : dec cc pc .idiv 1 nx) (kk : Sm X Z nL ret σ lv nx (.int (x / y) :: st) t) : Sm X Z nL ret σ lv pc (.int y :: .int x :: st) (nz y t) :=
  fun e H locs ls hl hP hS => by
    obtain ⟨hd, rfl⟩ := hd
    unfold nz at e
    by_cases h0 : y = 0
    · rw [if_pos h0] at e
      cases e
    · rw [if_neg h0] at e
      exact lv_idiv C.1 C.2.1 hd h0 (kk e H locs ls hl hP hS)
theorem s_irem (C : Cx X Z ow cc nL ret fr lo) {x y : Int32} (hd : dec cc pc .irem 1 nx) (kk : Sm X Z nL ret σ lv nx (.int (x - x / y * y) :: st) t) : Sm X Z nL ret σ lv pc (.int y :: .int x :: st) (nz y t) :=
  fun e H locs ls hl hP hS => by
    obtain ⟨hd, rfl⟩ := hd
    unfold nz at e
    by_cases h0 : y = 0
    · rw [if_pos h0] at e
      cases e
    · rw [if_neg h0] at e
      exact lv_irem C.1 C.2.1 hd h0 (kk e H locs ls hl hP hS)
theorem s_lmul (C : Cx X Z ow cc nL ret fr lo) {x y : Int64} (hd : dec cc pc .lmul 1 nx) (kk : Sm X Z nL ret σ lv nx (.long (x * y) :: st) t) : Sm X Z nL ret σ lv pc (.long y :: .long x :: st) t :=
  fun e H locs ls hl hP hS => by
    obtain ⟨hd, rfl⟩ := hd
    exact lv_lmul C.1 C.2.1 hd (kk e H locs ls hl hP hS)
theorem s_lrem (C : Cx X Z ow cc nL ret fr lo) {x y : Int64} (hd : dec cc pc .lrem 1 nx) (kk : Sm X Z nL ret σ lv nx (.long (x - x / y * y) :: st) t) : Sm X Z nL ret σ lv pc (.long y :: .long x :: st) (nzl y t) :=
  fun e H locs ls hl hP hS => by
    obtain ⟨hd, rfl⟩ := hd
    unfold nzl at e
    by_cases h0 : y = 0
    · rw [if_pos h0] at e
      cases e
    · rw [if_neg h0] at e
      exact lv_lrem C.1 C.2.1 hd h0 (kk e H locs ls hl hP hS)
theorem s_iushr (C : Cx X Z ow cc nL ret fr lo) {x y : Int32} (hd : dec cc pc .iushr 1 nx) (kk : Sm X Z nL ret σ lv nx (.int ((x.toUInt32 >>> (y.toUInt32 &&& Int32.toUInt32 31)).toInt32) :: st) t) : Sm X Z nL ret σ lv pc (.int y :: .int x :: st) t :=
  fun e H locs ls hl hP hS => by
    obtain ⟨hd, rfl⟩ := hd
    exact lv_iushr C.1 C.2.1 hd rfl (kk e H locs ls hl hP hS)
theorem s_ineg (C : Cx X Z ow cc nL ret fr lo) {x : Int32} (hd : dec cc pc .ineg 1 nx) (kk : Sm X Z nL ret σ lv nx (.int (-x) :: st) t) : Sm X Z nL ret σ lv pc (.int x :: st) t :=
  fun e H locs ls hl hP hS => by
    obtain ⟨hd, rfl⟩ := hd
    exact lv_ineg C.1 C.2.1 hd (kk e H locs ls hl hP hS)
theorem s_i2l (C : Cx X Z ow cc nL ret fr lo) {x : Int32} (hd : dec cc pc .i2l 1 nx) (kk : Sm X Z nL ret σ lv nx (.long (x.toInt64) :: st) t) : Sm X Z nL ret σ lv pc (.int x :: st) t :=
  fun e H locs ls hl hP hS => by
    obtain ⟨hd, rfl⟩ := hd
    exact lv_i2l C.1 C.2.1 hd rfl (kk e H locs ls hl hP hS)
theorem s_l2i (C : Cx X Z ow cc nL ret fr lo) {x : Int64} (hd : dec cc pc .l2i 1 nx) (kk : Sm X Z nL ret σ lv nx (.int (x.toInt32) :: st) t) : Sm X Z nL ret σ lv pc (.long x :: st) t :=
  fun e H locs ls hl hP hS => by
    obtain ⟨hd, rfl⟩ := hd
    exact lv_l2i C.1 C.2.1 hd rfl (kk e H locs ls hl hP hS)
theorem s_i2b (C : Cx X Z ow cc nL ret fr lo) {x : Int32} (hd : dec cc pc .i2b 1 nx) (kk : Sm X Z nL ret σ lv nx (.int (x.toInt8.toInt32) :: st) t) : Sm X Z nL ret σ lv pc (.int x :: st) t :=
  fun e H locs ls hl hP hS => by
    obtain ⟨hd, rfl⟩ := hd
    exact lv_i2b C.1 C.2.1 hd rfl (kk e H locs ls hl hP hS)
theorem s_i2s (C : Cx X Z ow cc nL ret fr lo) {x : Int32} (hd : dec cc pc .i2s 1 nx) (kk : Sm X Z nL ret σ lv nx (.int (x.toInt16.toInt32) :: st) t) : Sm X Z nL ret σ lv pc (.int x :: st) t :=
  fun e H locs ls hl hP hS => by
    obtain ⟨hd, rfl⟩ := hd
    exact lv_i2s C.1 C.2.1 hd rfl (kk e H locs ls hl hP hS)
theorem s_icmp_eq (C : Cx X Z ow cc nL ret fr lo) {x y : Int32} {off : Int} {tgt : Nat} {t1 t2 : Rt} {dc : Decidable (x = y)} (hd : dec cc pc (.if_icmp .eq off) 3 nx) (ht : (pc : Int) + off = (tgt : Int)) (k1 : Sm X Z nL ret σ lv tgt st t1) (k2 : Sm X Z nL ret σ lv nx st t2) : Sm X Z nL ret σ lv pc (.int y :: .int x :: st) (@ite Rt (x = y) dc t1 t2) :=
  fun e H locs ls hl hP hS => by
    obtain ⟨hd, rfl⟩ := hd
    exact lv_icmp_eq C.1 C.2.1 hd ht (fun h => k1 (by rw [if_pos h] at e; exact e) H locs ls hl hP hS) (fun h => k2 (by rw [if_neg h] at e; exact e) H locs ls hl hP hS)
theorem s_if_eq (C : Cx X Z ow cc nL ret fr lo) {x : Int32} {off : Int} {tgt : Nat} {t1 t2 : Rt} {dc : Decidable (x = 0)} (hd : dec cc pc (.ifCond .eq off) 3 nx) (ht : (pc : Int) + off = (tgt : Int)) (k1 : Sm X Z nL ret σ lv tgt st t1) (k2 : Sm X Z nL ret σ lv nx st t2) : Sm X Z nL ret σ lv pc (.int x :: st) (@ite Rt (x = 0) dc t1 t2) :=
  fun e H locs ls hl hP hS => by
    obtain ⟨hd, rfl⟩ := hd
    exact lv_if_eq C.1 C.2.1 hd ht (fun h => k1 (by rw [if_pos h] at e; exact e) H locs ls hl hP hS) (fun h => k2 (by rw [if_neg h] at e; exact e) H locs ls hl hP hS)
theorem s_icmp_ne (C : Cx X Z ow cc nL ret fr lo) {x y : Int32} {off : Int} {tgt : Nat} {t1 t2 : Rt} {dc : Decidable (x = y)} (hd : dec cc pc (.if_icmp .ne off) 3 nx) (ht : (pc : Int) + off = (tgt : Int)) (k2 : Sm X Z nL ret σ lv nx st t2) (k1 : Sm X Z nL ret σ lv tgt st t1) : Sm X Z nL ret σ lv pc (.int y :: .int x :: st) (@ite Rt (x = y) dc t2 t1) :=
  fun e H locs ls hl hP hS => by
    obtain ⟨hd, rfl⟩ := hd
    exact lv_icmp_ne C.1 C.2.1 hd ht (fun h => k1 (by rw [if_neg h] at e; exact e) H locs ls hl hP hS) (fun h => k2 (by rw [if_pos h] at e; exact e) H locs ls hl hP hS)
theorem s_if_ne (C : Cx X Z ow cc nL ret fr lo) {x : Int32} {off : Int} {tgt : Nat} {t1 t2 : Rt} {dc : Decidable (x = 0)} (hd : dec cc pc (.ifCond .ne off) 3 nx) (ht : (pc : Int) + off = (tgt : Int)) (k2 : Sm X Z nL ret σ lv nx st t2) (k1 : Sm X Z nL ret σ lv tgt st t1) : Sm X Z nL ret σ lv pc (.int x :: st) (@ite Rt (x = 0) dc t2 t1) :=
  fun e H locs ls hl hP hS => by
    obtain ⟨hd, rfl⟩ := hd
    exact lv_if_ne C.1 C.2.1 hd ht (fun h => k1 (by rw [if_neg h] at e; exact e) H locs ls hl hP hS) (fun h => k2 (by rw [if_pos h] at e; exact e) H locs ls hl hP hS)
theorem s_icmp_lt (C : Cx X Z ow cc nL ret fr lo) {x y : Int32} {off : Int} {tgt : Nat} {t1 t2 : Rt} {dc : Decidable (x < y)} (hd : dec cc pc (.if_icmp .lt off) 3 nx) (ht : (pc : Int) + off = (tgt : Int)) (k1 : Sm X Z nL ret σ lv tgt st t1) (k2 : Sm X Z nL ret σ lv nx st t2) : Sm X Z nL ret σ lv pc (.int y :: .int x :: st) (@ite Rt (x < y) dc t1 t2) :=
  fun e H locs ls hl hP hS => by
    obtain ⟨hd, rfl⟩ := hd
    exact lv_icmp_lt C.1 C.2.1 hd ht (fun h => k1 (by rw [if_pos h] at e; exact e) H locs ls hl hP hS) (fun h => k2 (by rw [if_neg h] at e; exact e) H locs ls hl hP hS)
theorem s_if_lt (C : Cx X Z ow cc nL ret fr lo) {x : Int32} {off : Int} {tgt : Nat} {t1 t2 : Rt} {dc : Decidable (x < 0)} (hd : dec cc pc (.ifCond .lt off) 3 nx) (ht : (pc : Int) + off = (tgt : Int)) (k1 : Sm X Z nL ret σ lv tgt st t1) (k2 : Sm X Z nL ret σ lv nx st t2) : Sm X Z nL ret σ lv pc (.int x :: st) (@ite Rt (x < 0) dc t1 t2) :=
  fun e H locs ls hl hP hS => by
    obtain ⟨hd, rfl⟩ := hd
    exact lv_if_lt C.1 C.2.1 hd ht (fun h => k1 (by rw [if_pos h] at e; exact e) H locs ls hl hP hS) (fun h => k2 (by rw [if_neg h] at e; exact e) H locs ls hl hP hS)
theorem s_icmp_ge (C : Cx X Z ow cc nL ret fr lo) {x y : Int32} {off : Int} {tgt : Nat} {t1 t2 : Rt} {dc : Decidable (y ≤ x)} (hd : dec cc pc (.if_icmp .ge off) 3 nx) (ht : (pc : Int) + off = (tgt : Int)) (k1 : Sm X Z nL ret σ lv tgt st t1) (k2 : Sm X Z nL ret σ lv nx st t2) : Sm X Z nL ret σ lv pc (.int y :: .int x :: st) (@ite Rt (y ≤ x) dc t1 t2) :=
  fun e H locs ls hl hP hS => by
    obtain ⟨hd, rfl⟩ := hd
    exact lv_icmp_ge C.1 C.2.1 hd ht (fun h => k1 (by rw [if_pos h] at e; exact e) H locs ls hl hP hS) (fun h => k2 (by rw [if_neg h] at e; exact e) H locs ls hl hP hS)
theorem s_if_ge (C : Cx X Z ow cc nL ret fr lo) {x : Int32} {off : Int} {tgt : Nat} {t1 t2 : Rt} {dc : Decidable (0 ≤ x)} (hd : dec cc pc (.ifCond .ge off) 3 nx) (ht : (pc : Int) + off = (tgt : Int)) (k1 : Sm X Z nL ret σ lv tgt st t1) (k2 : Sm X Z nL ret σ lv nx st t2) : Sm X Z nL ret σ lv pc (.int x :: st) (@ite Rt (0 ≤ x) dc t1 t2) :=
  fun e H locs ls hl hP hS => by
    obtain ⟨hd, rfl⟩ := hd
    exact lv_if_ge C.1 C.2.1 hd ht (fun h => k1 (by rw [if_pos h] at e; exact e) H locs ls hl hP hS) (fun h => k2 (by rw [if_neg h] at e; exact e) H locs ls hl hP hS)
theorem s_icmp_gt (C : Cx X Z ow cc nL ret fr lo) {x y : Int32} {off : Int} {tgt : Nat} {t1 t2 : Rt} {dc : Decidable (y < x)} (hd : dec cc pc (.if_icmp .gt off) 3 nx) (ht : (pc : Int) + off = (tgt : Int)) (k1 : Sm X Z nL ret σ lv tgt st t1) (k2 : Sm X Z nL ret σ lv nx st t2) : Sm X Z nL ret σ lv pc (.int y :: .int x :: st) (@ite Rt (y < x) dc t1 t2) :=
  fun e H locs ls hl hP hS => by
    obtain ⟨hd, rfl⟩ := hd
    exact lv_icmp_gt C.1 C.2.1 hd ht (fun h => k1 (by rw [if_pos h] at e; exact e) H locs ls hl hP hS) (fun h => k2 (by rw [if_neg h] at e; exact e) H locs ls hl hP hS)
theorem s_if_gt (C : Cx X Z ow cc nL ret fr lo) {x : Int32} {off : Int} {tgt : Nat} {t1 t2 : Rt} {dc : Decidable (0 < x)} (hd : dec cc pc (.ifCond .gt off) 3 nx) (ht : (pc : Int) + off = (tgt : Int)) (k1 : Sm X Z nL ret σ lv tgt st t1) (k2 : Sm X Z nL ret σ lv nx st t2) : Sm X Z nL ret σ lv pc (.int x :: st) (@ite Rt (0 < x) dc t1 t2) :=
  fun e H locs ls hl hP hS => by
    obtain ⟨hd, rfl⟩ := hd
    exact lv_if_gt C.1 C.2.1 hd ht (fun h => k1 (by rw [if_pos h] at e; exact e) H locs ls hl hP hS) (fun h => k2 (by rw [if_neg h] at e; exact e) H locs ls hl hP hS)
theorem s_icmp_le (C : Cx X Z ow cc nL ret fr lo) {x y : Int32} {off : Int} {tgt : Nat} {t1 t2 : Rt} {dc : Decidable (x ≤ y)} (hd : dec cc pc (.if_icmp .le off) 3 nx) (ht : (pc : Int) + off = (tgt : Int)) (k1 : Sm X Z nL ret σ lv tgt st t1) (k2 : Sm X Z nL ret σ lv nx st t2) : Sm X Z nL ret σ lv pc (.int y :: .int x :: st) (@ite Rt (x ≤ y) dc t1 t2) :=
  fun e H locs ls hl hP hS => by
    obtain ⟨hd, rfl⟩ := hd
    exact lv_icmp_le C.1 C.2.1 hd ht (fun h => k1 (by rw [if_pos h] at e; exact e) H locs ls hl hP hS) (fun h => k2 (by rw [if_neg h] at e; exact e) H locs ls hl hP hS)
theorem s_if_le (C : Cx X Z ow cc nL ret fr lo) {x : Int32} {off : Int} {tgt : Nat} {t1 t2 : Rt} {dc : Decidable (x ≤ 0)} (hd : dec cc pc (.ifCond .le off) 3 nx) (ht : (pc : Int) + off = (tgt : Int)) (k1 : Sm X Z nL ret σ lv tgt st t1) (k2 : Sm X Z nL ret σ lv nx st t2) : Sm X Z nL ret σ lv pc (.int x :: st) (@ite Rt (x ≤ 0) dc t1 t2) :=
  fun e H locs ls hl hP hS => by
    obtain ⟨hd, rfl⟩ := hd
    exact lv_if_le C.1 C.2.1 hd ht (fun h => k1 (by rw [if_pos h] at e; exact e) H locs ls hl hP hS) (fun h => k2 (by rw [if_neg h] at e; exact e) H locs ls hl hP hS)
end ROWS
theorem Cx.exec {X : CX} {Z : Sh} {ow : String} {cc : ByteArray} {nL : Nat} {ret : Option FieldType} {fr lo : Nat} (C : Cx X Z ow cc nL ret fr lo) : (cp X).tables.exec = Jvm.exec := C.1
theorem Cx.bytes {X : CX} {Z : Sh} {ow : String} {cc : ByteArray} {nL : Nat} {ret : Option FieldType} {fr lo : Nat} (C : Cx X Z ow cc nL ret fr lo) : (cc_ X).code = cc := C.2.1
theorem Cx.maxl {X : CX} {Z : Sh} {ow : String} {cc : ByteArray} {nL : Nat} {ret : Option FieldType} {fr lo : Nat} (C : Cx X Z ow cc nL ret fr lo) : (cc_ X).maxLocals = nL := C.2.2.1
theorem Cx.own {X : CX} {Z : Sh} {ow : String} {cc : ByteArray} {nL : Nat} {ret : Option FieldType} {fr lo : Nat} (C : Cx X Z ow cc nL ret fr lo) : (cs X).vm.findClass ow = some (cm X).cls := C.2.2.2.1
theorem Cx.hts {X : CX} {Z : Sh} {ow : String} {cc : ByteArray} {nL : Nat} {ret : Option FieldType} {fr lo : Nat} (C : Cx X Z ow cc nL ret fr lo) : ∀ w ∈ gt, w.before (ca X) (cs X) = true := C.2.2.2.2.1
theorem Cx.hnw {X : CX} {Z : Sh} {ow : String} {cc : ByteArray} {nL : Nat} {ret : Option FieldType} {fr lo : Nat} (C : Cx X Z ow cc nL ret fr lo) : ∀ w ∈ nw, va_Nw w (cs X) := C.2.2.2.2.2.1
theorem Cx.sig {X : CX} {Z : Sh} {ow : String} {cc : ByteArray} {nL : Nat} {ret : Option FieldType} {fr lo : Nat} (C : Cx X Z ow cc nL ret fr lo) : (cM X).sig.returnType = ret := C.2.2.2.2.2.2.1
theorem Cx.locks {X : CX} {Z : Sh} {ow : String} {cc : ByteArray} {nL : Nat} {ret : Option FieldType} {fr lo : Nat} (C : Cx X Z ow cc nL ret fr lo) : (cM X).locks = false := C.2.2.2.2.2.2.2.1
theorem Cx.room {X : CX} {Z : Sh} {ow : String} {cc : ByteArray} {nL : Nat} {ret : Option FieldType} {fr lo : Nat} (C : Cx X Z ow cc nL ret fr lo) : cR X = { frames := fr, cells := 0, slots := 0, locals := lo } := C.2.2.2.2.2.2.2.2.1
theorem Cx.hK {X : CX} {Z : Sh} {ow : String} {cc : ByteArray} {nL : Nat} {ret : Option FieldType} {fr lo : Nat} (C : Cx X Z ow cc nL ret fr lo) : va_K (cD X) vwCl (tysOf (ck X)) (cs X) := C.2.2.2.2.2.2.2.2.2.1
theorem Cx.inj {X : CX} {Z : Sh} {ow : String} {cc : ByteArray} {nL : Nat} {ret : Option FieldType} {fr lo : Nat} (C : Cx X Z ow cc nL ret fr lo) : Inj Z (cq X) := C.2.2.2.2.2.2.2.2.2.2.1
theorem Cx.lc {X : CX} {Z : Sh} {ow : String} {cc : ByteArray} {nL : Nat} {ret : Option FieldType} {fr lo : Nat} (C : Cx X Z ow cc nL ret fr lo) : Lc Z := C.2.2.2.2.2.2.2.2.2.2.2
/-- a class, as the rows of its fields want it -/
def FC (ci : Nat) (Cn : String) (T : u_T) (N : Nat) (ty : Nat → FieldType) : Prop := (∀ w ∈ u_ws Cn T N, w ∈ gt) ∧ vwCl[ci]? = some (Cn, T, N) ∧ (∀ k, k < N → parseFieldDescriptor (T k).2.2.1 = some (ty k)) ∧ ∀ a, a < N → ∀ b, b < N → a ≠ b → (T a).2.1 ≠ (T b).2.1
/-- a method that is called by its own name -/
def WV (y : MethodName) (bytes : ByteArray) (nL : Nat) (ret : Option FieldType) (n : Nat) : Prop :=
  Cond.instanceMethod y ∈ gt ∧ Cond.selects y.cls y y ∈ gt ∧ Cond.initialized y.cls ∈ gt ∧ Cond.code y bytes nL ret ∈ gt ∧ (y.cls ≠ "java/lang/invoke/MethodHandle" ∧ y.cls ≠ "java/lang/invoke/VarHandle" ∧ (parseMethodDescriptor y.desc).map (fun d => d.parameters.length) = some n)
def WS (y : MethodName) (bytes : ByteArray) (nL : Nat) (ret : Option FieldType) (n : Nat) : Prop :=
  Cond.static y ∈ gt ∧ Cond.initialized y.cls ∈ gt ∧ Cond.code y bytes nL ret ∈ gt ∧ (y.cls ≠ "java/lang/invoke/MethodHandle" ∧ y.cls ≠ "java/lang/invoke/VarHandle" ∧ (parseMethodDescriptor y.desc).map (fun d => d.parameters.length) = some n)
theorem fits_bool {v : Int32} (h : v = 0 ∨ v = 1) : narrow .boolean (.int v) = .int v ∧ vp_nar .boolean v = v := by
  rcases h with rfl | rfl <;> exact ⟨rfl, rfl⟩
theorem hold_blind {Z : Sh} {D : va_G} {k : Nat → ClassId} {q : Nat → Nat} {σ : St} {av : List Value} : FrameBlind (va_Pc av (hold Z D k q σ)) := fun a U g mk h =>
  ⟨h.1, h.2.1, va_K.moved (u := U) (U := U.calling g mk a) (Vm.Alike.refl U.vm) h.2.2.1, nw_blind (s := U) (U := U.calling g mk a) rfl h.2.2.2⟩
section ROWS2
variable {X : CX} {Z : Sh} {ow : String} {cc : ByteArray} {nL : Nat} {ret : Option FieldType} {fr lo : Nat} {σ : St} {lv : List (Nat × Value)} {pc nx : Nat} {st : List Value} {t : Rt}
theorem hold_at (C : Cx X Z ow cc nL ret fr lo) {H : Heap} (hP : va_P (cD X) vwCl (wl Z (cq X) (ck X) σ) H) {U : State} (hU : U.heap = H) (hW : (cs X).WarmedH U.vm) : hold Z (cD X) (ck X) (cq X) σ U :=
  ⟨by rw [hU]; exact hP, va_K.moved hW.alike C.hK, nw_warm hW C.hnw⟩
theorem s_get (C : Cx X Z ow cc nL ret fr lo) {ci : Nat} {Cn : String} {T : u_T} {N : Nat} {ty : Nat → FieldType} (hF : FC ci Cn T N ty) {a : Nat} {fs : List Value} (ha : a < Z.1) (hz : Z.2 (cq X) (ck X) σ a = .inr (ci, fs)) (j : Nat) (hj : j < N) {ix : Nat} (hd : dec cc pc (.getfield ix) 3 nx) (hw : Cond.fieldLink ow ix (T j).1 (T j).2.1 (T j).2.2.1 ∈ gt) {v : Value} (hv : fs[j]? = some v) (kk : Sm X Z nL ret σ lv nx (v :: st) t) : Sm X Z nL ret σ lv pc (.ref (cq X a) :: st) t :=
  fun e H locs ls hl hP hS => by
    obtain ⟨hd, rfl⟩ := hd
    exact va_get (D := cD X) (ci := ci) (v := v) (C := Cn) (T := T) (N := N) C.exec C.bytes C.hts hF.1 C.own C.hK hP a (by rw [wl_get ha, hz]) hF.2.1 j hj (C.hts _ hw) (fun _ h9 => h9) hv hd (kk e H locs ls hl hP hS)
theorem s_put (C : Cx X Z ow cc nL ret fr lo) {ci : Nat} {Cn : String} {T : u_T} {N : Nat} {ty : Nat → FieldType} (hF : FC ci Cn T N ty) {a : Nat} {fs : List Value} (ha : a < Z.1) (hz : Z.2 (cq X) (ck X) σ a = .inr (ci, fs)) (j : Nat) (hj : j < N) {v : Int32} (hz' : Z.2 (cq X) (ck X) (up σ a j v) a = .inr (ci, fs.set j (.int v))) (hl0 : j < fs.length) {ix : Nat} (hd : dec cc pc (.putfield ix) 3 nx) (hw : Cond.fieldLink ow ix (T j).1 (T j).2.1 (T j).2.2.1 ∈ gt) (hfin : (T j).2.2.2 = false) (hty : ty j = .int) {kt : St → Rt} (kk : ∀ σ' : St, Sm X Z nL ret σ' lv nx st (kt σ')) : Sm X Z nL ret σ lv pc (.int v :: .ref (cq X a) :: st) (nmS (up σ a j v) kt) :=
  fun e H locs ls hl hP hS => by
    obtain ⟨hd, rfl⟩ := hd
    refine va_put (D := cD X) (ci := ci) (v := .int v) (ty := .int) (C := Cn) (T := T) (N := N) C.exec C.bytes C.hts hF.1 ty hF.2.2.1 hF.2.2.2 C.own C.hK hP (wl_D C.inj) hS a (by rw [wl_get ha, hz]) hF.2.1 j hj (C.hts _ hw) (fun _ h9 => h9) hfin (by rw [hF.2.2.1 j hj, hty]) rfl rfl hl0 hd (fun H1 locs1 hP1 _ hS1 => ?_)
    refine kk _ e H1 locs1 ls hl ?_ hS1
    rw [wl_set (σ' := up σ a j v) ha hz'.symm (fun i hi => C.lc _ _ _ _ _ (by funext x; simp [up, hi]))] at hP1
    exact hP1
theorem s_putZ (C : Cx X Z ow cc nL ret fr lo) {ci : Nat} {Cn : String} {T : u_T} {N : Nat} {ty : Nat → FieldType} (hF : FC ci Cn T N ty) {a : Nat} {fs : List Value} (ha : a < Z.1) (hz : Z.2 (cq X) (ck X) σ a = .inr (ci, fs)) (j : Nat) (hj : j < N) {v : Int32} (hz' : Z.2 (cq X) (ck X) (up σ a j v) a = .inr (ci, fs.set j (.int v))) (hl0 : j < fs.length) {ix : Nat} (hd : dec cc pc (.putfield ix) 3 nx) (hw : Cond.fieldLink ow ix (T j).1 (T j).2.1 (T j).2.2.1 ∈ gt) (hfin : (T j).2.2.2 = false) (hty : ty j = .boolean) {kt : St → Rt} (kk : ∀ σ' : St, Sm X Z nL ret σ' lv nx st (kt σ')) : Sm X Z nL ret σ lv pc (.int v :: .ref (cq X a) :: st) (vB v (nmS (up σ a j v) kt)) :=
  fun e H locs ls hl hP hS => by
    obtain ⟨hd, rfl⟩ := hd
    unfold vB at e
    by_cases h0 : v = 0 ∨ v = 1
    · rw [if_pos h0] at e
      refine va_put (D := cD X) (ci := ci) (v := .int v) (ty := .boolean) (C := Cn) (T := T) (N := N) C.exec C.bytes C.hts hF.1 ty hF.2.2.1 hF.2.2.2 C.own C.hK hP (wl_D C.inj) hS a (by rw [wl_get ha, hz]) hF.2.1 j hj (C.hts _ hw) (fun _ h9 => h9) hfin (by rw [hF.2.2.1 j hj, hty]) (fits_bool h0).1 (by rcases h0 with rfl | rfl <;> rfl) hl0 hd (fun H1 locs1 hP1 _ hS1 => ?_)
      refine kk _ e H1 locs1 ls hl ?_ hS1
      rw [wl_set (σ' := up σ a j v) ha hz'.symm (fun i hi => C.lc _ _ _ _ _ (by funext x; simp [up, hi]))] at hP1
      exact hP1
    · rw [if_neg h0] at e
      cases e
theorem bd_in {i : Int32} {n : Nat} (h : 0 ≤ i.toInt ∧ i.toInt < n) : vp_in i n := vp_in_iff.mpr h
theorem bd_lt {i : Int32} {n : Nat} (h : 0 ≤ i.toInt ∧ i.toInt < n) : i.toNatClampNeg < n := by
  have : i.toNatClampNeg = i.toInt.toNat := rfl
  omega
theorem s_iald (C : Cx X Z ow cc nL ret fr lo) {a n : Nat} {i : Int32} (ha : a < Z.1) (hz : ∀ σ, Z.2 (cq X) (ck X) σ a = .inl (ck X 0, n, .inl (σ a))) (hd : dec cc pc .iaload 1 nx) (kk : Sm X Z nL ret σ lv nx (.int (σ a i.toNatClampNeg) :: st) t) : Sm X Z nL ret σ lv pc (.int i :: .ref (cq X a) :: st) (bd i n t) :=
  fun e H locs ls hl hP hS => by
    obtain ⟨hd, rfl⟩ := hd
    unfold bd at e
    by_cases h0 : 0 ≤ i.toInt ∧ i.toInt < n
    · rw [if_pos h0] at e
      exact va_iald C.exec C.bytes C.hK hP a 0 (by rw [wl_get ha, hz]) rfl (bd_in h0) hd (kk e H locs ls hl hP hS)
    · rw [if_neg h0] at e
      cases e
theorem s_zald (C : Cx X Z ow cc nL ret fr lo) {a n : Nat} {i : Int32} (ha : a < Z.1) (hz : ∀ σ, Z.2 (cq X) (ck X) σ a = .inl (ck X 1, n, .inl (σ a))) (hd : dec cc pc .baload 1 nx) (kk : Sm X Z nL ret σ lv nx (.int (σ a i.toNatClampNeg) :: st) t) : Sm X Z nL ret σ lv pc (.int i :: .ref (cq X a) :: st) (bd i n t) :=
  fun e H locs ls hl hP hS => by
    obtain ⟨hd, rfl⟩ := hd
    unfold bd at e
    by_cases h0 : 0 ≤ i.toInt ∧ i.toInt < n
    · rw [if_pos h0] at e
      exact va_zald C.exec C.bytes C.hK hP a 1 (by rw [wl_get ha, hz]) rfl (bd_in h0) hd (kk e H locs ls hl hP hS)
    · rw [if_neg h0] at e
      cases e
theorem up_row {σ : St} {a i : Nat} {x : Int32} : up σ a i x a = upd (σ a) i x := by
  funext j
  by_cases h : j = i <;> simp [up, upd, h]
theorem s_iast (C : Cx X Z ow cc nL ret fr lo) {a n : Nat} {i x : Int32} (ha : a < Z.1) (hz : ∀ σ, Z.2 (cq X) (ck X) σ a = .inl (ck X 0, n, .inl (σ a))) (hd : dec cc pc .iastore 1 nx) {kt : St → Rt} (kk : ∀ σ' : St, Sm X Z nL ret σ' lv nx st (kt σ')) : Sm X Z nL ret σ lv pc (.int x :: .int i :: .ref (cq X a) :: st) (bd i n (nmS (up σ a i.toNatClampNeg x) kt)) :=
  fun e H locs ls hl hP hS => by
    obtain ⟨hd, rfl⟩ := hd
    unfold bd at e
    by_cases h0 : 0 ≤ i.toInt ∧ i.toInt < n
    · rw [if_pos h0] at e
      refine va_iast C.exec C.bytes C.hK hP (wl_D C.inj) hS a 0 (by rw [wl_get ha, hz]) rfl (bd_in h0) hd (fun H1 locs1 hP1 _ hS1 => ?_)
      refine kk _ e H1 locs1 ls hl ?_ hS1
      rw [wl_set (σ' := up σ a i.toNatClampNeg x) ha (by rw [hz, up_row]) (fun j hj => C.lc _ _ _ _ _ (by funext y; simp [up, hj]))] at hP1
      exact hP1
    · rw [if_neg h0] at e
      cases e
theorem s_zast (C : Cx X Z ow cc nL ret fr lo) {a n : Nat} {i x : Int32} (ha : a < Z.1) (hz : ∀ σ, Z.2 (cq X) (ck X) σ a = .inl (ck X 1, n, .inl (σ a))) (hd : dec cc pc .bastore 1 nx) {kt : St → Rt} (kk : ∀ σ' : St, Sm X Z nL ret σ' lv nx st (kt σ')) : Sm X Z nL ret σ lv pc (.int x :: .int i :: .ref (cq X a) :: st) (bd i n (vB x (nmS (up σ a i.toNatClampNeg x) kt))) :=
  fun e H locs ls hl hP hS => by
    obtain ⟨hd, rfl⟩ := hd
    unfold bd at e
    by_cases h0 : 0 ≤ i.toInt ∧ i.toInt < n
    · rw [if_pos h0] at e
      unfold vB at e
      by_cases h1 : x = 0 ∨ x = 1
      · rw [if_pos h1] at e
        refine va_zast C.exec C.bytes C.hK hP (wl_D C.inj) hS a 1 (by rw [wl_get ha, hz]) rfl (bd_in h0) hd (fun H1 locs1 hP1 _ hS1 => ?_)
        refine kk _ e H1 locs1 ls hl ?_ hS1
        rw [(fits_bool h1).2, wl_set (σ' := up σ a i.toNatClampNeg x) ha (by rw [hz, up_row]) (fun j hj => C.lc _ _ _ _ _ (by funext y; simp [up, hj]))] at hP1
        exact hP1
      · rw [if_neg h1] at e
        cases e
    · rw [if_neg h0] at e
      cases e
/-- a reference out of an array of references whose cells' numbers are known -/
theorem s_aald (C : Cx X Z ow cc nL ret fr lo) {a n c : Nat} {i : Int32} {f : Nat → Option Nat} {ty : FieldType} (g : Nat → Nat) (ha : a < Z.1) (hz : Z.2 (cq X) (ck X) σ a = .inl (ck X c, n, .inr (.inr (.inr (.inr f))))) (hr : ty.isReference = true) (ht : (tysOf (ck X))[c]? = some (ck X c, ty)) (hf : ∀ j, j < n → f j = some (cq X (g j))) (hd : dec cc pc .aaload 1 nx) (kk : i.toNatClampNeg < n → Sm X Z nL ret σ lv nx (.ref (cq X (g i.toNatClampNeg)) :: st) t) : Sm X Z nL ret σ lv pc (.int i :: .ref (cq X a) :: st) (bd i n t) :=
  fun e H locs ls hl hP hS => by
    obtain ⟨hd, rfl⟩ := hd
    unfold bd at e
    by_cases h0 : 0 ≤ i.toInt ∧ i.toInt < n
    · rw [if_pos h0] at e
      have hlt := bd_lt h0
      have hk := kk hlt e H locs ls hl hP hS
      have hc := hP a (cq X a, .inl (ck X c, n, .inr (.inr (.inr (.inr f))))) (by rw [wl_get ha, hz])
      exact W.aald (v := .ref (cq X (g i.toNatClampNeg))) (ty := ty) C.exec C.bytes hc ((C.hK.2 c _ ht).1 n (fun j => va_rf (f j))) hr (fun q => by cases q) (by show ¬ (i < 0 ∨ (arrV _ _ _).slots.size ≤ _); rw [arrV_size]; exact bd_in h0) (by show (arrV _ _ _).slots[_]? = _; rw [arrV_read _ _ hlt, hf _ hlt]; rfl) rfl rfl hd hk
    · rw [if_neg h0] at e
      cases e
theorem upR_row {σ : St} {a : Nat} {f : Nat → Int32} : upR σ a f a = f := by
  funext j
  simp [upR]
theorem s_copy (C : Cx X Z ow cc nL ret fr lo) {a0 a1 n0 n1 ix : Nat} {sp dp n : Int32} (ha0 : a0 < Z.1) (ha1 : a1 < Z.1) (hz0 : ∀ σ, Z.2 (cq X) (ck X) σ a0 = .inl (ck X 0, n0, .inl (σ a0))) (hz1 : ∀ σ, Z.2 (cq X) (ck X) σ a1 = .inl (ck X 0, n1, .inl (σ a1))) (hl0 : Cond.methodLink ow ix arraycopyName ∈ gt) (hw : Cond.native arraycopyName ∈ gt ∧ Cond.static arraycopyName ∈ gt ∧ Cond.initialized "java/lang/System" ∈ gt) (hR : 1 ≤ fr ∧ (st.map fun v => v.category).sum + (nativeFrameWords "java/lang/System" "arraycopy" 5 + 11) ≤ lo) (hd : dec cc pc (.invokestatic ix) 3 nx) {kt : St → Rt} (kk : ∀ σ' : St, Sm X Z nL ret σ' lv nx st (kt σ')) : Sm X Z nL ret σ lv pc (.int n :: .int dp :: .ref (cq X a1) :: .int sp :: .ref (cq X a0) :: st) (bdc sp dp n n0 n1 (nmS (upR σ a1 (va_cpy (σ a0) (σ a1) sp.toNatClampNeg dp.toNatClampNeg n.toNatClampNeg)) kt)) :=
  fun e H locs ls hl hP hS => by
    obtain ⟨hd, rfl⟩ := hd
    unfold bdc at e
    by_cases h0 : ¬ sp < 0 ∧ ¬ dp < 0 ∧ ¬ n < 0 ∧ sp.toNatClampNeg + n.toNatClampNeg ≤ n0 ∧ dp.toNatClampNeg + n.toNatClampNeg ≤ n1
    · rw [if_pos h0] at e
      refine va_copyi C.exec C.bytes (by rw [C.maxl]; exact hl.1.symm) C.own (C.hts _ hl0) (C.hts _ hw.1) (C.hts _ hw.2.1) (C.hts _ hw.2.2) C.hK hP (wl_D C.inj) hS a0 a1 0 0 (by rw [wl_get ha0, hz0]) (by rw [wl_get ha1, hz1]) rfl rfl rfl h0.1 h0.2.1 h0.2.2.1 h0.2.2.2.1 h0.2.2.2.2 (fun _ _ => rfl) (by rw [C.room]; exact hR.1) (by rw [C.room]; exact hR.2) hd (fun H1 locs1 hP1 _ hS1 => ?_)
      refine kk _ e H1 locs1 ls hl ?_ hS1
      rw [wl_set (σ' := upR σ a1 (va_cpy (σ a0) (σ a1) sp.toNatClampNeg dp.toNatClampNeg n.toNatClampNeg)) ha1 (by rw [hz1, upR_row]) (fun j hj => C.lc _ _ _ _ _ (by funext y; simp [upR, hj]))] at hP1
      exact hP1
    · rw [if_neg h0] at e
      cases e
theorem s_mmin (C : Cx X Z ow cc nL ret fr lo) {ix : Nat} {x y : Int32} (hl0 : Cond.methodLink ow ix Lib.Math.min.name ∈ gt) (hw : Cond.static Lib.Math.min.name ∈ gt ∧ Cond.initialized "java/lang/Math" ∈ gt ∧ Cond.code Lib.Math.min.name Lib.Math.min.code 2 (some .int) ∈ gt) (hR : 1 ≤ fr ∧ (st.map fun v => v.category).sum + 13 ≤ lo) (hd : dec cc pc (.invokestatic ix) 3 nx) (kk : Sm X Z nL ret σ lv nx (.int (if y < x then y else x) :: st) t) : Sm X Z nL ret σ lv pc (.int y :: .int x :: st) t :=
  fun e H locs ls hl hP hS => by
    obtain ⟨hd, rfl⟩ := hd
    exact va_mmin C.exec C.bytes (by rw [C.maxl]; exact hl.1.symm) C.own (C.hts _ hl0) (C.hts _ hw.1) (C.hts _ hw.2.1) (C.hts _ hw.2.2) (by rw [C.room]; exact hR.1) (by rw [C.room]; exact hR.2) (Nat.zero_le _) (Nat.zero_le _) hd (kk e H locs ls hl hP hS)
theorem s_callV (C : Cx X Z ow cc nL ret fr lo) {y : MethodName} {bytes : ByteArray} {nL' : Nat} {rt : FieldType} {fr' lo' n ix a : Nat} {As : List Value} {o : Rt} {kt : Int32 → St → Rt} (hM : Ct (cl X) Z (cD X) (ck X) (cq X) y bytes nL' (some rt) fr' lo' (.ref (cq X a) :: As) σ o) (hw : WV y bytes nL' (some rt) n) (hl0 : Cond.methodLink ow ix y ∈ gt) (hR : fr' + 1 ≤ fr ∧ 8 + (nL' + 11) + lo' ≤ lo)
    {ci : Nat} {Cn : String} {T : u_T} {N : Nat} {ty : Nat → FieldType} (hF : FC ci Cn T N ty) (hC : Cn = y.cls) {fs : List Value} (ha : a < Z.1) (hz : Z.2 (cq X) (ck X) σ a = .inr (ci, fs)) (hn : As.length = n) (hcat : (st.map fun v => v.category).sum ≤ 8) (hd : dec cc pc (.invokevirtual ix) 3 nx) (kk : ∀ (r : Int32) (σ' : St), Sm X Z nL ret σ' lv nx (.int r :: st) (kt r σ')) : Sm X Z nL ret σ lv pc (As.reverse ++ .ref (cq X a) :: st) (bnd o kt) :=
  fun e H locs ls hl hP hS => by
    obtain ⟨hd, rfl⟩ := hd
    cases ho : o with
    | none => rw [ho] at e; cases e
    | some x =>
      rw [ho] at e
      have e : kt x.1 x.2 = some (cx X) := e
      subst hC
      have hmem : ∀ w ∈ Cond.code y bytes nL' (some rt) :: gt, w ∈ gt := fun w hw' => (List.mem_cons.mp hw').elim (fun z => z ▸ hw.2.2.2.1) id
      have hG : GoodIn gt (Cond.code y bytes nL' (some rt) :: gt) := gt_in hmem
      refine va_calli (va_runV (As := As) (rest := st) (Ts := gt) ⟨C.exec, C.bytes, C.maxl, C.own, C.hts⟩ (hM x ho) ⟨callB_of n C.hts hG rfl rfl rfl (C.hts _ hw.2.2.1) (C.hts _ hl0) hw.2.2.2.2 (by rw [C.room]; exact hR), C.hts _ hw.1, C.hts _ hw.2.1⟩ ⟨hold_blind, va_recv C.hK hP (ci := ci) (q0 := a) hF.2.1 (by rw [wl_get ha, hz]), fun U hU hW => ⟨rfl, hold_at C hP hU hW⟩⟩ rfl hn hl.1 rfl (lv_room hcat) hd ⟨Nat.zero_le _, Nat.zero_le _⟩) hS (fun q _ h => h) (fun q h => h) (fun r u t H1 locs1 ht hvm hpost hB hsz hk1 hS1 => ?_)
      obtain ⟨rfl, rfl⟩ := hpost
      rw [ht] at hB
      exact kk _ _ e H1 locs1 ls hl hB hS1
theorem s_callVv (C : Cx X Z ow cc nL ret fr lo) {y : MethodName} {bytes : ByteArray} {nL' : Nat} {fr' lo' n ix a : Nat} {As : List Value} {o : Rt} {kt : Int32 → St → Rt} (hM : Ct (cl X) Z (cD X) (ck X) (cq X) y bytes nL' none fr' lo' (.ref (cq X a) :: As) σ o) (hw : WV y bytes nL' none n) (hl0 : Cond.methodLink ow ix y ∈ gt) (hR : fr' + 1 ≤ fr ∧ 8 + (nL' + 11) + lo' ≤ lo)
    {ci : Nat} {Cn : String} {T : u_T} {N : Nat} {ty : Nat → FieldType} (hF : FC ci Cn T N ty) (hC : Cn = y.cls) {fs : List Value} (ha : a < Z.1) (hz : Z.2 (cq X) (ck X) σ a = .inr (ci, fs)) (hn : As.length = n) (hcat : (st.map fun v => v.category).sum ≤ 8) (hd : dec cc pc (.invokevirtual ix) 3 nx) (kk : ∀ (r : Int32) (σ' : St), Sm X Z nL ret σ' lv nx st (kt r σ')) : Sm X Z nL ret σ lv pc (As.reverse ++ .ref (cq X a) :: st) (bnd o kt) :=
  fun e H locs ls hl hP hS => by
    obtain ⟨hd, rfl⟩ := hd
    cases ho : o with
    | none => rw [ho] at e; cases e
    | some x =>
      rw [ho] at e
      have e : kt x.1 x.2 = some (cx X) := e
      subst hC
      have hmem : ∀ w ∈ Cond.code y bytes nL' none :: gt, w ∈ gt := fun w hw' => (List.mem_cons.mp hw').elim (fun z => z ▸ hw.2.2.2.1) id
      have hG : GoodIn gt (Cond.code y bytes nL' none :: gt) := gt_in hmem
      refine va_callv (va_runV (As := As) (rest := st) (Ts := gt) ⟨C.exec, C.bytes, C.maxl, C.own, C.hts⟩ (hM x ho) ⟨callB_of n C.hts hG rfl rfl rfl (C.hts _ hw.2.2.1) (C.hts _ hl0) hw.2.2.2.2 (by rw [C.room]; exact hR), C.hts _ hw.1, C.hts _ hw.2.1⟩ ⟨hold_blind, va_recv C.hK hP (ci := ci) (q0 := a) hF.2.1 (by rw [wl_get ha, hz]), fun U hU hW => ⟨rfl, hold_at C hP hU hW⟩⟩ rfl hn hl.1 rfl (lv_room hcat) hd ⟨Nat.zero_le _, Nat.zero_le _⟩) hS (fun q _ h => h) (fun q h => h) (fun u t H1 locs1 ht hvm hpost hB hsz hk1 hS1 => ?_)
      have hpost : u = x.2 := hpost
      subst hpost
      rw [ht] at hB
      exact kk _ _ e H1 locs1 ls hl hB hS1
theorem s_callS (C : Cx X Z ow cc nL ret fr lo) {y : MethodName} {bytes : ByteArray} {nL' : Nat} {rt : FieldType} {fr' lo' n ix : Nat} {As : List Value} {o : Rt} {kt : Int32 → St → Rt} (hM : Ct (cl X) Z (cD X) (ck X) (cq X) y bytes nL' (some rt) fr' lo' As σ o) (hw : WS y bytes nL' (some rt) n) (hl0 : Cond.methodLink ow ix y ∈ gt) (hR : fr' + 1 ≤ fr ∧ 8 + (nL' + 11) + lo' ≤ lo) (hn : As.length = n) (hcat : (st.map fun v => v.category).sum ≤ 8) (hd : dec cc pc (.invokestatic ix) 3 nx) (kk : ∀ (r : Int32) (σ' : St), Sm X Z nL ret σ' lv nx (.int r :: st) (kt r σ')) : Sm X Z nL ret σ lv pc (As.reverse ++ st) (bnd o kt) :=
  fun e H locs ls hl hP hS => by
    obtain ⟨hd, rfl⟩ := hd
    cases ho : o with
    | none => rw [ho] at e; cases e
    | some x =>
      rw [ho] at e
      have e : kt x.1 x.2 = some (cx X) := e
      have hmem : ∀ w ∈ Cond.code y bytes nL' (some rt) :: gt, w ∈ gt := fun w hw' => (List.mem_cons.mp hw').elim (fun z => z ▸ hw.2.2.1) id
      have hG : GoodIn gt (Cond.code y bytes nL' (some rt) :: gt) := gt_in hmem
      refine va_calli (va_runS (As := As) (rest := st) (Ts := gt) ⟨C.exec, C.bytes, C.maxl, C.own, C.hts⟩ (hM x ho) ⟨callB_of n C.hts hG rfl rfl rfl (C.hts _ hw.2.1) (C.hts _ hl0) hw.2.2.2 (by rw [C.room]; exact hR), C.hts _ hw.1⟩ ⟨hold_blind, fun U hU hW => ⟨rfl, hold_at C hP hU hW⟩⟩ rfl hn hl.1 rfl (lv_room hcat) hd ⟨Nat.zero_le _, Nat.zero_le _⟩) hS (fun q _ h => h) (fun q h => h) (fun r u t H1 locs1 ht hvm hpost hB hsz hk1 hS1 => ?_)
      obtain ⟨rfl, rfl⟩ := hpost
      rw [ht] at hB
      exact kk _ _ e H1 locs1 ls hl hB hS1
theorem s_callSv (C : Cx X Z ow cc nL ret fr lo) {y : MethodName} {bytes : ByteArray} {nL' : Nat} {fr' lo' n ix : Nat} {As : List Value} {o : Rt} {kt : Int32 → St → Rt} (hM : Ct (cl X) Z (cD X) (ck X) (cq X) y bytes nL' none fr' lo' As σ o) (hw : WS y bytes nL' none n) (hl0 : Cond.methodLink ow ix y ∈ gt) (hR : fr' + 1 ≤ fr ∧ 8 + (nL' + 11) + lo' ≤ lo) (hn : As.length = n) (hcat : (st.map fun v => v.category).sum ≤ 8) (hd : dec cc pc (.invokestatic ix) 3 nx) (kk : ∀ (r : Int32) (σ' : St), Sm X Z nL ret σ' lv nx st (kt r σ')) : Sm X Z nL ret σ lv pc (As.reverse ++ st) (bnd o kt) :=
  fun e H locs ls hl hP hS => by
    obtain ⟨hd, rfl⟩ := hd
    cases ho : o with
    | none => rw [ho] at e; cases e
    | some x =>
      rw [ho] at e
      have e : kt x.1 x.2 = some (cx X) := e
      have hmem : ∀ w ∈ Cond.code y bytes nL' none :: gt, w ∈ gt := fun w hw' => (List.mem_cons.mp hw').elim (fun z => z ▸ hw.2.2.1) id
      have hG : GoodIn gt (Cond.code y bytes nL' none :: gt) := gt_in hmem
      refine va_callv (va_runS (As := As) (rest := st) (Ts := gt) ⟨C.exec, C.bytes, C.maxl, C.own, C.hts⟩ (hM x ho) ⟨callB_of n C.hts hG rfl rfl rfl (C.hts _ hw.2.1) (C.hts _ hl0) hw.2.2.2 (by rw [C.room]; exact hR), C.hts _ hw.1⟩ ⟨hold_blind, fun U hU hW => ⟨rfl, hold_at C hP hU hW⟩⟩ rfl hn hl.1 rfl (lv_room hcat) hd ⟨Nat.zero_le _, Nat.zero_le _⟩) hS (fun q _ h => h) (fun q h => h) (fun u t H1 locs1 ht hvm hpost hB hsz hk1 hS1 => ?_)
      have hpost : u = x.2 := hpost
      subst hpost
      rw [ht] at hB
      exact kk _ _ e H1 locs1 ls hl hB hS1
theorem s_callN (C : Cx X Z ow cc nL ret fr lo) {y : MethodName} {bytes : ByteArray} {nL' : Nat} {rt : FieldType} {fr' lo' n ix : Nat} {host : String} {As : List Value} {o : Rt} {kt : Int32 → St → Rt} (hM : Ct (cl X) Z (cD X) (ck X) (cq X) y bytes nL' (some rt) fr' lo' As σ o) (hw : WS y bytes nL' (some rt) n) (hl0 : Cond.methodLinkNest ow ix y host ∈ nw) (hR : fr' + 1 ≤ fr ∧ 8 + (nL' + 11) + lo' ≤ lo) (hn : As.length = n) (hcat : (st.map fun v => v.category).sum ≤ 8) (hd : dec cc pc (.invokestatic ix) 3 nx) (kk : ∀ (r : Int32) (σ' : St), Sm X Z nL ret σ' lv nx (.int r :: st) (kt r σ')) : Sm X Z nL ret σ lv pc (As.reverse ++ st) (bnd o kt) :=
  fun e H locs ls hl hP hS => by
    obtain ⟨hd, rfl⟩ := hd
    cases ho : o with
    | none => rw [ho] at e; cases e
    | some x =>
      rw [ho] at e
      have e : kt x.1 x.2 = some (cx X) := e
      have hmem : ∀ w ∈ Cond.code y bytes nL' (some rt) :: gt, w ∈ gt := fun w hw' => (List.mem_cons.mp hw').elim (fun z => z ▸ hw.2.2.1) id
      have hG : GoodIn gt (Cond.code y bytes nL' (some rt) :: gt) := gt_in hmem
      refine va_calli (va_runSN (As := As) (rest := st) (Ts := gt) ⟨C.exec, C.bytes, C.maxl, C.own, C.hts⟩ (hM x ho) ⟨va_cnB n C.hts hG rfl rfl rfl (C.hnw _ hl0) (C.hts _ hw.2.1) hw.2.2.2 (by rw [C.room]; exact hR), C.hts _ hw.1, trivial⟩ ⟨hold_blind, fun U hU hW => ⟨rfl, hold_at C hP hU hW⟩⟩ rfl hn hl.1 rfl (lv_room hcat) hd ⟨Nat.zero_le _, Nat.zero_le _⟩) hS (fun q _ h => h) (fun q h => h) (fun r u t H1 locs1 ht hvm hpost hB hsz hk1 hS1 => ?_)
      obtain ⟨rfl, rfl⟩ := hpost
      rw [ht] at hB
      exact kk _ _ e H1 locs1 ls hl hB hS1
theorem s_iret (C : Cx X Z ow cc nL (some .int) fr lo) {x : Int32} (hd : dec cc pc .ireturn 1 nx) : Sm X Z nL (some .int) σ lv pc [.int x] (some (x, σ)) :=
  fun e H locs ls hl hP hS => by
    have e : (x, σ) = cx X := Option.some.inj e
    exact W.iret C.exec C.bytes C.sig (fun t ht hW => ⟨⟨x, σ, rfl, ⟨by rw [← e], by rw [← e]⟩, by dsimp only; rw [ht]; exact hP⟩, hS.F ht⟩) hS.2.2 hd.1 C.locks
theorem s_zret (C : Cx X Z ow cc nL (some .boolean) fr lo) {x : Int32} (hd : dec cc pc .ireturn 1 nx) : Sm X Z nL (some .boolean) σ lv pc [.int x] (vB x (some (x, σ))) :=
  fun e H locs ls hl hP hS => by
    unfold vB at e
    by_cases h0 : x = 0 ∨ x = 1
    · rw [if_pos h0] at e
      have e : (x, σ) = cx X := Option.some.inj e
      exact W.zret C.exec C.bytes C.sig (fits_bool h0).1 (fun t ht hW => ⟨⟨x, σ, rfl, ⟨by rw [← e], by rw [← e]⟩, by dsimp only; rw [ht]; exact hP⟩, hS.F ht⟩) hS.2.2 hd.1 C.locks
    · rw [if_neg h0] at e
      cases e
theorem s_vret (C : Cx X Z ow cc nL none fr lo) {x : Int32} (hd : dec cc pc .return_ 1 nx) : Sm X Z nL none σ lv pc [] (some (x, σ)) :=
  fun e H locs ls hl hP hS => by
    have e : (x, σ) = cx X := Option.some.inj e
    exact W.vret C.exec C.bytes C.sig (fun t ht hW => ⟨⟨σ, rfl, (by rw [← e]), by dsimp only; rw [ht]; exact hP⟩, hS.F ht⟩) hS.2.2 hd.1 C.locks
theorem s_split {c : Prop} {dc : Decidable c} {t1 t2 : Rt} (k1 : c → Sm X Z nL ret σ lv pc st t1) (k2 : ¬ c → Sm X Z nL ret σ lv pc st t2) : Sm X Z nL ret σ lv pc st (@ite Rt c dc t1 t2) :=
  fun e => by
    by_cases h : c
    · exact k1 h (by rw [if_pos h] at e; exact e)
    · exact k2 h (by rw [if_neg h] at e; exact e)
theorem s_tabI (C : Cx X Z ow cc nL ret fr lo) {dflt l h : Int} {offs : Array Int} {len : Nat} {x v : Int32} {off : Int} {tgt : Nat} (hx : x = v) (hd : dec cc pc (.tableswitch dflt l h offs) len nx) (h1 : ¬ v.toInt < l) (h2 : ¬ h < v.toInt) (ho : offs[(v.toInt - l).toNat]? = some off) (ht : (pc : Int) + off = (tgt : Int)) (kk : Sm X Z nL ret σ lv tgt st t) : Sm X Z nL ret σ lv pc (.int x :: st) t :=
  fun e H locs ls hl hP hS => by
    subst hx
    exact lv_tableIn C.exec C.bytes hd.1 h1 h2 ho ht (kk e H locs ls hl hP hS)
theorem s_tabO (C : Cx X Z ow cc nL ret fr lo) {dflt l h : Int} {offs : Array Int} {len : Nat} {x : Int32} {tgt : Nat} (hd : dec cc pc (.tableswitch dflt l h offs) len nx) (hx : x.toInt < l ∨ h < x.toInt) (ht : (pc : Int) + dflt = (tgt : Int)) (kk : Sm X Z nL ret σ lv tgt st t) : Sm X Z nL ret σ lv pc (.int x :: st) t :=
  fun e H locs ls hl hP hS => lv_tableOut C.exec C.bytes hd.1 hx ht (kk e H locs ls hl hP hS)
theorem s_look (C : Cx X Z ow cc nL ret fr lo) {dflt : Int} {ps : Array (Int × Int)} {len : Nat} {x : Int32} {off : Int} {tgt : Nat} (hd : dec cc pc (.lookupswitch dflt ps) len nx) (hp : (ps.toList.zip (ps.toList.drop 1)).all (fun (a, next) => a.1 < next.1) = true) (ho : Op.lookupswitch.offset ps.toList dflt x.toInt = off) (ht : (pc : Int) + off = (tgt : Int)) (kk : Sm X Z nL ret σ lv tgt st t) : Sm X Z nL ret σ lv pc (.int x :: st) t :=
  fun e H locs ls hl hP hS => lv_lookup C.exec C.bytes hd.1 hp ho ht (kk e H locs ls hl hP hS)
end ROWS2
theorem Ct_of {l : Launch} {Z : Sh} {D : va_G} {k : Nat → ClassId} {q : Nat → Nat} {y : MethodName} {cc : ByteArray} {nL : Nat} {ret : Option FieldType} {fr lo : Nat} {av : List Value} {σ : St} {o : Rt} (hq : Inj Z q) (hL : Lc Z) (hy : plainName y.cls = true) (hlen : (lg_sl av).length ≤ nL)
    (body : ∀ (p : Program) (e : Env) (R : Room) (s : State) (m : MethodId) (args : Array Value) (below : List Frame) (meth : Method) (c : Code) (x : Int32 × St), Cx (p, l, e, R, s, m, args, below, meth, c, D, k, q, x) Z y.cls cc nL ret fr lo → Sm (p, l, e, R, s, m, args, below, meth, c, D, k, q, x) Z nL ret σ (lv_args 0 av) 0 [] o) : Ct l Z D k q y cc nL ret fr lo av σ o := by
  intro x hx
  refine Met.ofW (cc := cc) (maxL := nL) (ret := ret) hy rfl ?_
  intro p e s m args below meth c s₁ B hml hv
  obtain ⟨rfl, hP, hK, hN⟩ := hv
  have hts0 := atoms_spec (ws := Cond.code y cc nL ret :: gt) B.pre
  have h := body p e { frames := fr, cells := 0, slots := 0, locals := lo } s m av.toArray below meth c x ⟨B.exec, B.bytes, hml, findClass_of_methodNamed B.named, fun w hw => hts0 w (List.mem_cons_of_mem _ hw), hN, B.returns, B.notSynchronized, rfl, hK, hq, hL⟩ hx s.heap [] ((lg_sl av ++ List.replicate (nL - (lg_sl av).length) Slot.unset).toArray) (lv_entry av hlen) hP va_S.rf
  rw [lg_entry_eq]
  exact h
end
section
/-! the shapes: the class's 217 cells, the reference's 16 -/
def isB (b : Nat) : Prop := ∃ j, j < 28 ∧ b = 21 + 7 * j
def isI (a : Nat) : Prop := 5 ≤ a ∧ a < 13
def isA (a : Nat) : Prop := 1 ≤ a ∧ a < 16 ∧ a ≠ 11
def gIt (j : Nat) : Nat := 5 + j
def gImg (j : Nat) : Nat := 35 + 7 * j
def gPast (j : Nat) : Nat := 49 + 7 * j
def fsB (q : Nat → Nat) (σ : St) (b : Nat) : List Value := [.int (σ b 0), .int (σ b 1), .int (σ b 2), .int (σ b 3), .int (σ b 4), .int (σ b 5), .ref (q (b + 1)), .ref (q (b + 2)), .ref (q (b + 3)), .ref (q (b + 4)), .ref (q (b + 5)), .ref (q (b + 6))]
def fsX0 (q : Nat → Nat) (σ : St) : List Value := [.ref (q 1), .ref (q 13), .ref (q 21), .ref (q 15), .ref (q 16), .ref (q 18), .ref (q 20), .int (σ 0 7)]
def fsX1 (q : Nat → Nat) (σ : St) : List Value := [.ref (q 2), .ref (q 3), .ref (q 4)]
def fsX13 (q : Nat → Nat) (σ : St) : List Value := [.ref (q 14), .int (σ 13 1), .int (σ 13 2), .int (σ 13 3), .int (σ 13 4), .int (σ 13 5)]
def fsX15 (q : Nat → Nat) (σ : St) : List Value := [.ref (q 28), .ref (q 21)]
def fsX16 (q : Nat → Nat) (σ : St) : List Value := [.int (σ 16 0), .int (σ 16 1), .ref (q 17)]
def fsX18 (q : Nat → Nat) (σ : St) : List Value := [.ref (q 19), .int (σ 18 1), .ref (q 21)]
def fsM (q : Nat → Nat) (σ : St) : List Value := [.ref (q 1), .ref (q 2), .ref (q 3), .ref (q 4), .int (σ 0 4), .ref (q 5), .int (σ 0 6), .int (σ 0 7), .int (σ 0 8), .int (σ 0 9), .int (σ 0 10), .int (σ 0 11), .int (σ 0 12), .ref (q 6), .ref (q 7), .ref (q 8), .ref (q 9), .int (σ 0 17), .ref (q 10), .ref (q 11), .ref (q 12), .ref (q 13), .ref (q 14), .ref (q 15), .int (σ 0 24)]
def cellX (q : Nat → Nat) (k : Nat → ClassId) (σ : St) (i : Nat) : va_E :=
  if 21 ≤ i then (if (i - 21) % 7 = 0 then .inr (1, fsB q σ i) else if (i - 21) % 7 = 1 then .inl (k 0, 16, .inl (σ i)) else .inl (k 0, 7, .inl (σ i)))
  else if 5 ≤ i ∧ i < 13 then .inl (k 0, 40, .inl (σ i))
  else match i with
  | 0 => .inr (6, fsX0 q σ)
  | 1 => .inr (5, fsX1 q σ)
  | 13 => .inr (4, fsX13 q σ)
  | 15 => .inr (2, fsX15 q σ)
  | 16 => .inr (3, fsX16 q σ)
  | 18 => .inr (0, fsX18 q σ)
  | 2 => .inl (k 0, 8, .inl (σ 2))
  | 3 => .inl (k 0, 8, .inl (σ 3))
  | 4 => .inl (k 3, 8, .inr (.inr (.inr (.inr (fun j => if j < 8 then some (q (gIt j)) else none)))))
  | 14 => .inl (k 0, 130, .inl (σ 14))
  | 17 => .inl (k 2, 24, .inr (.inr (.inr (.inr (fun j => if j < 24 then some (q (gPast j)) else none)))))
  | 19 => .inl (k 0, 16, .inl (σ 19))
  | _ => .inl (k 2, 2, .inr (.inr (.inr (.inr (fun j => if j < 2 then some (q (gImg j)) else none)))))
def ZX : Sh := (217, cellX)
def lenM (i : Nat) : Nat := match i with
  | 1 => 8
  | 2 => 8
  | 3 => 320
  | 4 => 40
  | 5 => 130
  | 6 => 64
  | 7 => 64
  | 8 => 64
  | 9 => 1536
  | 10 => 128
  | 11 => 2
  | 12 => 7
  | 13 => 16
  | 14 => 7
  | _ => 16
def cellM (q : Nat → Nat) (k : Nat → ClassId) (σ : St) (i : Nat) : va_E := if i = 0 then .inr (7, fsM q σ) else if i = 11 then .inl (k 1, 2, .inl (σ 11)) else .inl (k 0, lenM i, .inl (σ i))
def ZM : Sh := (16, cellM)
theorem lcX : Lc ZX := by
  intro q k σ σ' i h
  show cellX q k σ i = cellX q k σ' i
  unfold cellX
  by_cases h1 : 21 ≤ i
  · rw [if_pos h1, if_pos h1]
    unfold fsB
    rw [h]
  · rw [if_neg h1, if_neg h1]
    by_cases h2 : 5 ≤ i ∧ i < 13
    · rw [if_pos h2, if_pos h2, h]
    · rw [if_neg h2, if_neg h2]
      split <;> first | rfl | rw [h] | (simp only [fsX0, fsX1, fsX13, fsX15, fsX16, fsX18]; rw [h])
theorem lcM : Lc ZM := by
  intro q k σ σ' i h
  show cellM q k σ i = cellM q k σ' i
  unfold cellM
  by_cases h1 : i = 0
  · subst h1
    rw [if_pos rfl, if_pos rfl]
    unfold fsM
    rw [h]
  · rw [if_neg h1, if_neg h1]
    by_cases h2 : i = 11
    · subst h2
      rw [if_pos rfl, if_pos rfl, h]
    · rw [if_neg h2, if_neg h2, h]
theorem zx_lt_0 : 0 < ZX.1 := by decide
theorem zx_lt_1 : 1 < ZX.1 := by decide
theorem zx_lt_13 : 13 < ZX.1 := by decide
theorem zx_lt_15 : 15 < ZX.1 := by decide
theorem zx_lt_16 : 16 < ZX.1 := by decide
theorem zx_lt_18 : 18 < ZX.1 := by decide
theorem zx_lt_2 : 2 < ZX.1 := by decide
theorem zx_lt_3 : 3 < ZX.1 := by decide
theorem zx_lt_4 : 4 < ZX.1 := by decide
theorem zx_lt_14 : 14 < ZX.1 := by decide
theorem zx_lt_17 : 17 < ZX.1 := by decide
theorem zx_lt_19 : 19 < ZX.1 := by decide
theorem zx_lt_20 : 20 < ZX.1 := by decide
theorem zx_0 (q : Nat → Nat) (k : Nat → ClassId) (σ : St) : ZX.2 q k σ 0 = .inr (6, fsX0 q σ) := rfl
theorem zxp_0_7 (q : Nat → Nat) (k : Nat → ClassId) (σ : St) (v : Int32) : ZX.2 q k (up σ 0 7 v) 0 = .inr (6, (fsX0 q σ).set 7 (.int v)) := rfl
theorem zx_1 (q : Nat → Nat) (k : Nat → ClassId) (σ : St) : ZX.2 q k σ 1 = .inr (5, fsX1 q σ) := rfl
theorem zx_13 (q : Nat → Nat) (k : Nat → ClassId) (σ : St) : ZX.2 q k σ 13 = .inr (4, fsX13 q σ) := rfl
theorem zxp_13_1 (q : Nat → Nat) (k : Nat → ClassId) (σ : St) (v : Int32) : ZX.2 q k (up σ 13 1 v) 13 = .inr (4, (fsX13 q σ).set 1 (.int v)) := rfl
theorem zxp_13_2 (q : Nat → Nat) (k : Nat → ClassId) (σ : St) (v : Int32) : ZX.2 q k (up σ 13 2 v) 13 = .inr (4, (fsX13 q σ).set 2 (.int v)) := rfl
theorem zxp_13_3 (q : Nat → Nat) (k : Nat → ClassId) (σ : St) (v : Int32) : ZX.2 q k (up σ 13 3 v) 13 = .inr (4, (fsX13 q σ).set 3 (.int v)) := rfl
theorem zxp_13_4 (q : Nat → Nat) (k : Nat → ClassId) (σ : St) (v : Int32) : ZX.2 q k (up σ 13 4 v) 13 = .inr (4, (fsX13 q σ).set 4 (.int v)) := rfl
theorem zxp_13_5 (q : Nat → Nat) (k : Nat → ClassId) (σ : St) (v : Int32) : ZX.2 q k (up σ 13 5 v) 13 = .inr (4, (fsX13 q σ).set 5 (.int v)) := rfl
theorem zx_15 (q : Nat → Nat) (k : Nat → ClassId) (σ : St) : ZX.2 q k σ 15 = .inr (2, fsX15 q σ) := rfl
theorem zx_16 (q : Nat → Nat) (k : Nat → ClassId) (σ : St) : ZX.2 q k σ 16 = .inr (3, fsX16 q σ) := rfl
theorem zxp_16_0 (q : Nat → Nat) (k : Nat → ClassId) (σ : St) (v : Int32) : ZX.2 q k (up σ 16 0 v) 16 = .inr (3, (fsX16 q σ).set 0 (.int v)) := rfl
theorem zxp_16_1 (q : Nat → Nat) (k : Nat → ClassId) (σ : St) (v : Int32) : ZX.2 q k (up σ 16 1 v) 16 = .inr (3, (fsX16 q σ).set 1 (.int v)) := rfl
theorem zx_18 (q : Nat → Nat) (k : Nat → ClassId) (σ : St) : ZX.2 q k σ 18 = .inr (0, fsX18 q σ) := rfl
theorem zxp_18_1 (q : Nat → Nat) (k : Nat → ClassId) (σ : St) (v : Int32) : ZX.2 q k (up σ 18 1 v) 18 = .inr (0, (fsX18 q σ).set 1 (.int v)) := rfl
theorem zx_2 {q : Nat → Nat} {k : Nat → ClassId} (σ : St) : ZX.2 q k σ 2 = .inl (k 0, 8, .inl (σ 2)) := rfl
theorem zx_3 {q : Nat → Nat} {k : Nat → ClassId} (σ : St) : ZX.2 q k σ 3 = .inl (k 0, 8, .inl (σ 3)) := rfl
theorem zx_14 {q : Nat → Nat} {k : Nat → ClassId} (σ : St) : ZX.2 q k σ 14 = .inl (k 0, 130, .inl (σ 14)) := rfl
theorem zx_19 {q : Nat → Nat} {k : Nat → ClassId} (σ : St) : ZX.2 q k σ 19 = .inl (k 0, 16, .inl (σ 19)) := rfl
theorem zx_4 (q : Nat → Nat) (k : Nat → ClassId) (σ : St) : ZX.2 q k σ 4 = .inl (k 3, 8, .inr (.inr (.inr (.inr (fun j => if j < 8 then some (q (gIt j)) else none))))) := rfl
theorem zxf_4 {q : Nat → Nat} : ∀ j, j < 8 → (fun j => if j < 8 then some (q (gIt j)) else none) j = some (q (gIt j)) := fun j h => if_pos h
theorem zx_17 (q : Nat → Nat) (k : Nat → ClassId) (σ : St) : ZX.2 q k σ 17 = .inl (k 2, 24, .inr (.inr (.inr (.inr (fun j => if j < 24 then some (q (gPast j)) else none))))) := rfl
theorem zxf_17 {q : Nat → Nat} : ∀ j, j < 24 → (fun j => if j < 24 then some (q (gPast j)) else none) j = some (q (gPast j)) := fun j h => if_pos h
theorem zx_20 (q : Nat → Nat) (k : Nat → ClassId) (σ : St) : ZX.2 q k σ 20 = .inl (k 2, 2, .inr (.inr (.inr (.inr (fun j => if j < 2 then some (q (gImg j)) else none))))) := rfl
theorem zxf_20 {q : Nat → Nat} : ∀ j, j < 2 → (fun j => if j < 2 then some (q (gImg j)) else none) j = some (q (gImg j)) := fun j h => if_pos h
theorem zi_lt {a : Nat} (h : isI a) : a < ZX.1 := by
  unfold isI at h
  show a < 217
  omega
theorem zi {a : Nat} (h : isI a) {q : Nat → Nat} {k : Nat → ClassId} (σ : St) : ZX.2 q k σ a = .inl (k 0, 40, .inl (σ a)) := by
  show cellX q k σ a = _
  unfold isI at h
  unfold cellX
  rw [if_neg (by omega), if_pos (by omega)]
theorem isI_g {j : Nat} (h : j < 8) : isI (gIt j) := by
  unfold isI gIt
  omega
theorem hb_img {j : Nat} (h : j < 2) : isB (gImg j) := ⟨2 + j, by omega, by unfold gImg; omega⟩
theorem hb_past {j : Nat} (h : j < 24) : isB (gPast j) := ⟨4 + j, by omega, by unfold gPast; omega⟩
theorem hb21 : isB 21 := ⟨0, by omega, by omega⟩
theorem hb28 : isB 28 := ⟨1, by omega, by omega⟩
theorem zb_lt {b : Nat} (h : isB b) : b < ZX.1 := by
  obtain ⟨j, h1, rfl⟩ := h
  show _ < 217
  omega
theorem zb {b : Nat} (h : isB b) (q : Nat → Nat) (k : Nat → ClassId) (σ : St) : ZX.2 q k σ b = .inr (1, fsB q σ b) := by
  obtain ⟨j, h1, rfl⟩ := h
  show cellX q k σ _ = _
  unfold cellX
  rw [if_pos (by omega), if_pos (by omega)]
theorem zbp_0 {b : Nat} (h : isB b) (q : Nat → Nat) (k : Nat → ClassId) (σ : St) (v : Int32) : ZX.2 q k (up σ b 0 v) b = .inr (1, (fsB q σ b).set 0 (.int v)) := by
  rw [zb h]
  simp [fsB, up]
theorem zbp_1 {b : Nat} (h : isB b) (q : Nat → Nat) (k : Nat → ClassId) (σ : St) (v : Int32) : ZX.2 q k (up σ b 1 v) b = .inr (1, (fsB q σ b).set 1 (.int v)) := by
  rw [zb h]
  simp [fsB, up]
theorem zbp_2 {b : Nat} (h : isB b) (q : Nat → Nat) (k : Nat → ClassId) (σ : St) (v : Int32) : ZX.2 q k (up σ b 2 v) b = .inr (1, (fsB q σ b).set 2 (.int v)) := by
  rw [zb h]
  simp [fsB, up]
theorem zbp_3 {b : Nat} (h : isB b) (q : Nat → Nat) (k : Nat → ClassId) (σ : St) (v : Int32) : ZX.2 q k (up σ b 3 v) b = .inr (1, (fsB q σ b).set 3 (.int v)) := by
  rw [zb h]
  simp [fsB, up]
theorem zbp_4 {b : Nat} (h : isB b) (q : Nat → Nat) (k : Nat → ClassId) (σ : St) (v : Int32) : ZX.2 q k (up σ b 4 v) b = .inr (1, (fsB q σ b).set 4 (.int v)) := by
  rw [zb h]
  simp [fsB, up]
theorem zbp_5 {b : Nat} (h : isB b) (q : Nat → Nat) (k : Nat → ClassId) (σ : St) (v : Int32) : ZX.2 q k (up σ b 5 v) b = .inr (1, (fsB q σ b).set 5 (.int v)) := by
  rw [zb h]
  simp [fsB, up]
theorem zb1_lt {b : Nat} (h : isB b) : b + 1 < ZX.1 := by
  obtain ⟨j, h1, rfl⟩ := h
  show _ < 217
  omega
theorem zb1 {b : Nat} (h : isB b) {q : Nat → Nat} {k : Nat → ClassId} (σ : St) : ZX.2 q k σ (b + 1) = .inl (k 0, 16, .inl (σ (b + 1))) := by
  obtain ⟨j, h1, rfl⟩ := h
  show cellX q k σ _ = _
  unfold cellX
  rw [if_pos (by omega), if_neg (by omega), if_pos (by omega)]
theorem zb2_lt {b : Nat} (h : isB b) : b + 2 < ZX.1 := by
  obtain ⟨j, h1, rfl⟩ := h
  show _ < 217
  omega
theorem zb2 {b : Nat} (h : isB b) {q : Nat → Nat} {k : Nat → ClassId} (σ : St) : ZX.2 q k σ (b + 2) = .inl (k 0, 7, .inl (σ (b + 2))) := by
  obtain ⟨j, h1, rfl⟩ := h
  show cellX q k σ _ = _
  unfold cellX
  rw [if_pos (by omega), if_neg (by omega), if_neg (by omega)]
theorem zb3_lt {b : Nat} (h : isB b) : b + 3 < ZX.1 := by
  obtain ⟨j, h1, rfl⟩ := h
  show _ < 217
  omega
theorem zb3 {b : Nat} (h : isB b) {q : Nat → Nat} {k : Nat → ClassId} (σ : St) : ZX.2 q k σ (b + 3) = .inl (k 0, 7, .inl (σ (b + 3))) := by
  obtain ⟨j, h1, rfl⟩ := h
  show cellX q k σ _ = _
  unfold cellX
  rw [if_pos (by omega), if_neg (by omega), if_neg (by omega)]
theorem zb4_lt {b : Nat} (h : isB b) : b + 4 < ZX.1 := by
  obtain ⟨j, h1, rfl⟩ := h
  show _ < 217
  omega
theorem zb4 {b : Nat} (h : isB b) {q : Nat → Nat} {k : Nat → ClassId} (σ : St) : ZX.2 q k σ (b + 4) = .inl (k 0, 7, .inl (σ (b + 4))) := by
  obtain ⟨j, h1, rfl⟩ := h
  show cellX q k σ _ = _
  unfold cellX
  rw [if_pos (by omega), if_neg (by omega), if_neg (by omega)]
theorem zb5_lt {b : Nat} (h : isB b) : b + 5 < ZX.1 := by
  obtain ⟨j, h1, rfl⟩ := h
  show _ < 217
  omega
theorem zb5 {b : Nat} (h : isB b) {q : Nat → Nat} {k : Nat → ClassId} (σ : St) : ZX.2 q k σ (b + 5) = .inl (k 0, 7, .inl (σ (b + 5))) := by
  obtain ⟨j, h1, rfl⟩ := h
  show cellX q k σ _ = _
  unfold cellX
  rw [if_pos (by omega), if_neg (by omega), if_neg (by omega)]
theorem zb6_lt {b : Nat} (h : isB b) : b + 6 < ZX.1 := by
  obtain ⟨j, h1, rfl⟩ := h
  show _ < 217
  omega
theorem zb6 {b : Nat} (h : isB b) {q : Nat → Nat} {k : Nat → ClassId} (σ : St) : ZX.2 q k σ (b + 6) = .inl (k 0, 7, .inl (σ (b + 6))) := by
  obtain ⟨j, h1, rfl⟩ := h
  show cellX q k σ _ = _
  unfold cellX
  rw [if_pos (by omega), if_neg (by omega), if_neg (by omega)]
theorem zm_lt_0 : 0 < ZM.1 := by decide
theorem zm_0 (q : Nat → Nat) (k : Nat → ClassId) (σ : St) : ZM.2 q k σ 0 = .inr (7, fsM q σ) := rfl
theorem zmp_4 (q : Nat → Nat) (k : Nat → ClassId) (σ : St) (v : Int32) : ZM.2 q k (up σ 0 4 v) 0 = .inr (7, (fsM q σ).set 4 (.int v)) := rfl
theorem zmp_6 (q : Nat → Nat) (k : Nat → ClassId) (σ : St) (v : Int32) : ZM.2 q k (up σ 0 6 v) 0 = .inr (7, (fsM q σ).set 6 (.int v)) := rfl
theorem zmp_7 (q : Nat → Nat) (k : Nat → ClassId) (σ : St) (v : Int32) : ZM.2 q k (up σ 0 7 v) 0 = .inr (7, (fsM q σ).set 7 (.int v)) := rfl
theorem zmp_8 (q : Nat → Nat) (k : Nat → ClassId) (σ : St) (v : Int32) : ZM.2 q k (up σ 0 8 v) 0 = .inr (7, (fsM q σ).set 8 (.int v)) := rfl
theorem zmp_9 (q : Nat → Nat) (k : Nat → ClassId) (σ : St) (v : Int32) : ZM.2 q k (up σ 0 9 v) 0 = .inr (7, (fsM q σ).set 9 (.int v)) := rfl
theorem zmp_10 (q : Nat → Nat) (k : Nat → ClassId) (σ : St) (v : Int32) : ZM.2 q k (up σ 0 10 v) 0 = .inr (7, (fsM q σ).set 10 (.int v)) := rfl
theorem zmp_11 (q : Nat → Nat) (k : Nat → ClassId) (σ : St) (v : Int32) : ZM.2 q k (up σ 0 11 v) 0 = .inr (7, (fsM q σ).set 11 (.int v)) := rfl
theorem zmp_12 (q : Nat → Nat) (k : Nat → ClassId) (σ : St) (v : Int32) : ZM.2 q k (up σ 0 12 v) 0 = .inr (7, (fsM q σ).set 12 (.int v)) := rfl
theorem zmp_17 (q : Nat → Nat) (k : Nat → ClassId) (σ : St) (v : Int32) : ZM.2 q k (up σ 0 17 v) 0 = .inr (7, (fsM q σ).set 17 (.int v)) := rfl
theorem zmp_24 (q : Nat → Nat) (k : Nat → ClassId) (σ : St) (v : Int32) : ZM.2 q k (up σ 0 24 v) 0 = .inr (7, (fsM q σ).set 24 (.int v)) := rfl
theorem zm_lt_11 : 11 < ZM.1 := by decide
theorem zm_11 {q : Nat → Nat} {k : Nat → ClassId} (σ : St) : ZM.2 q k σ 11 = .inl (k 1, 2, .inl (σ 11)) := rfl
theorem za_lt {a : Nat} (h : isA a) : a < ZM.1 := h.2.1
theorem za {a : Nat} (h : isA a) {q : Nat → Nat} {k : Nat → ClassId} (σ : St) : ZM.2 q k σ a = .inl (k 0, lenM a, .inl (σ a)) := by
  show cellM q k σ a = _
  unfold cellM
  rw [if_neg (by have := h.1; omega), if_neg h.2.2]
theorem isA1 : isA 1 := ⟨by decide, by decide, by decide⟩
theorem isA2 : isA 2 := ⟨by decide, by decide, by decide⟩
theorem isA3 : isA 3 := ⟨by decide, by decide, by decide⟩
theorem isA4 : isA 4 := ⟨by decide, by decide, by decide⟩
theorem isA5 : isA 5 := ⟨by decide, by decide, by decide⟩
theorem isA6 : isA 6 := ⟨by decide, by decide, by decide⟩
theorem isA7 : isA 7 := ⟨by decide, by decide, by decide⟩
theorem isA8 : isA 8 := ⟨by decide, by decide, by decide⟩
theorem isA9 : isA 9 := ⟨by decide, by decide, by decide⟩
theorem isA10 : isA 10 := ⟨by decide, by decide, by decide⟩
theorem isA12 : isA 12 := ⟨by decide, by decide, by decide⟩
theorem isA13 : isA 13 := ⟨by decide, by decide, by decide⟩
theorem isA14 : isA 14 := ⟨by decide, by decide, by decide⟩
theorem isA15 : isA 15 := ⟨by decide, by decide, by decide⟩
theorem fcin_0 : ∀ w ∈ u_ws RX0 TX0 3, w ∈ lw_tbl := by decide +kernel
theorem fcgd_0 : (u_ws RX0 TX0 3).all goodWord = true := by decide +kernel
theorem fc_0 : FC 0 RX0 TX0 3 tyX0 := ⟨fun w h => gt_of (fcin_0 w h) (List.all_eq_true.mp fcgd_0 w h), rfl, tyX0_ok, nmX0⟩
theorem fcin_1 : ∀ w ∈ u_ws RX1 TX1 12, w ∈ lw_tbl := by decide +kernel
theorem fcgd_1 : (u_ws RX1 TX1 12).all goodWord = true := by decide +kernel
theorem fc_1 : FC 1 RX1 TX1 12 tyX1 := ⟨fun w h => gt_of (fcin_1 w h) (List.all_eq_true.mp fcgd_1 w h), rfl, tyX1_ok, nmX1⟩
theorem fcin_2 : ∀ w ∈ u_ws RX2 TX2 2, w ∈ lw_tbl := by decide +kernel
theorem fcgd_2 : (u_ws RX2 TX2 2).all goodWord = true := by decide +kernel
theorem fc_2 : FC 2 RX2 TX2 2 tyX2 := ⟨fun w h => gt_of (fcin_2 w h) (List.all_eq_true.mp fcgd_2 w h), rfl, tyX2_ok, nmX2⟩
theorem fcin_3 : ∀ w ∈ u_ws RX3 TX3 3, w ∈ lw_tbl := by decide +kernel
theorem fcgd_3 : (u_ws RX3 TX3 3).all goodWord = true := by decide +kernel
theorem fc_3 : FC 3 RX3 TX3 3 tyX3 := ⟨fun w h => gt_of (fcin_3 w h) (List.all_eq_true.mp fcgd_3 w h), rfl, tyX3_ok, nmX3⟩
theorem fcin_4 : ∀ w ∈ u_ws RX4 TX4 6, w ∈ lw_tbl := by decide +kernel
theorem fcgd_4 : (u_ws RX4 TX4 6).all goodWord = true := by decide +kernel
theorem fc_4 : FC 4 RX4 TX4 6 tyX4 := ⟨fun w h => gt_of (fcin_4 w h) (List.all_eq_true.mp fcgd_4 w h), rfl, tyX4_ok, nmX4⟩
theorem fcin_5 : ∀ w ∈ u_ws RX5 TX5 3, w ∈ lw_tbl := by decide +kernel
theorem fcgd_5 : (u_ws RX5 TX5 3).all goodWord = true := by decide +kernel
theorem fc_5 : FC 5 RX5 TX5 3 tyX5 := ⟨fun w h => gt_of (fcin_5 w h) (List.all_eq_true.mp fcgd_5 w h), rfl, tyX5_ok, nmX5⟩
theorem fcin_6 : ∀ w ∈ u_ws RX6 TX6 8, w ∈ lw_tbl := by decide +kernel
theorem fcgd_6 : (u_ws RX6 TX6 8).all goodWord = true := by decide +kernel
theorem fc_6 : FC 6 RX6 TX6 8 tyX6 := ⟨fun w h => gt_of (fcin_6 w h) (List.all_eq_true.mp fcgd_6 w h), rfl, tyX6_ok, nmX6⟩
theorem fcin_7 : ∀ w ∈ u_ws RX7 TX7 25, w ∈ lw_tbl := by decide +kernel
theorem fcgd_7 : (u_ws RX7 TX7 25).all goodWord = true := by decide +kernel
theorem fc_7 : FC 7 RX7 TX7 25 tyX7 := ⟨fun w h => gt_of (fcin_7 w h) (List.all_eq_true.mp fcgd_7 w h), rfl, tyX7_ok, nmX7⟩
def FU : Nat := 2000
theorem ic_m1 : Int32.ofInt (-1) = (-1 : Int32) := by decide
theorem ic_0 : Int32.ofInt (0) = (0 : Int32) := by decide
theorem ic_1 : Int32.ofInt (1) = (1 : Int32) := by decide
theorem ic_2 : Int32.ofInt (2) = (2 : Int32) := by decide
theorem ic_3 : Int32.ofInt (3) = (3 : Int32) := by decide
theorem ic_4 : Int32.ofInt (4) = (4 : Int32) := by decide
theorem ic_5 : Int32.ofInt (5) = (5 : Int32) := by decide
theorem ne_i {x v : Int32} {z : Int} (hz : v.toInt = z) (h : ¬ x = v) : x.toInt ≠ z := fun e => h (Int32.toInt_inj.mp (e.trans hz.symm))
end
