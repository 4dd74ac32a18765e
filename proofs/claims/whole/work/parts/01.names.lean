-- ===== PART A: goes FIRST, ahead of the names: the tables' words, and 'selects' of the private methods out of them =====
/-- a private method of a class that the tables say can be made, by its rows of tables_1 -/
def lw_okq (q : MethodName × Nat) : Prop := (q.1.cls ≠ "java/lang/invoke/MethodHandle" ∧ q.1.cls ≠ "java/lang/invoke/VarHandle") ∧ Cond.instantiable q.1.cls q.2 ∈ tables_1 ∧ Cond.privateMethod q.1 ∈ tables_1 ∧ Cond.instanceMethod q.1 ∈ tables_1
theorem lw_p0 : lw_okq (⟨"RingCrowd", "noPlace", "(I)Z"⟩, 9) := ⟨⟨by decide +kernel, by decide +kernel⟩, List.mem_of_getElem? (i := 17) (by decide +kernel), List.mem_of_getElem? (i := 207) (by decide +kernel), List.mem_of_getElem? (i := 208) (by decide +kernel)⟩
theorem lw_p1 : lw_okq (⟨"RingCrowd$Book", "find", "(J)I"⟩, 3) := ⟨⟨by decide +kernel, by decide +kernel⟩, List.mem_of_getElem? (i := 158) (by decide +kernel), List.mem_of_getElem? (i := 275) (by decide +kernel), List.mem_of_getElem? (i := 276) (by decide +kernel)⟩
theorem lw_p2 : lw_okq (⟨"RingCrowd$Ring", "isSpread", "(II)Z"⟩, 2) := ⟨⟨by decide +kernel, by decide +kernel⟩, List.mem_of_getElem? (i := 25) (by decide +kernel), List.mem_of_getElem? (i := 310) (by decide +kernel), List.mem_of_getElem? (i := 311) (by decide +kernel)⟩
theorem lw_p3 : lw_okq (⟨"RingCrowd$Ring", "gapAbove", "(II)I"⟩, 2) := ⟨⟨by decide +kernel, by decide +kernel⟩, List.mem_of_getElem? (i := 25) (by decide +kernel), List.mem_of_getElem? (i := 314) (by decide +kernel), List.mem_of_getElem? (i := 315) (by decide +kernel)⟩
theorem lw_p4 : lw_okq (⟨"RingCrowd$Ring", "isSideBySide", "(I)Z"⟩, 2) := ⟨⟨by decide +kernel, by decide +kernel⟩, List.mem_of_getElem? (i := 25) (by decide +kernel), List.mem_of_getElem? (i := 318) (by decide +kernel), List.mem_of_getElem? (i := 319) (by decide +kernel)⟩
theorem lw_p5 : lw_okq (⟨"RingCrowd$Tape", "byteAt", "(I)I"⟩, 6) := ⟨⟨by decide +kernel, by decide +kernel⟩, List.mem_of_getElem? (i := 107) (by decide +kernel), List.mem_of_getElem? (i := 364) (by decide +kernel), List.mem_of_getElem? (i := 365) (by decide +kernel)⟩
theorem lw_p6 : lw_okq (⟨"RingCrowd$Tape", "readNumber", "()V"⟩, 6) := ⟨⟨by decide +kernel, by decide +kernel⟩, List.mem_of_getElem? (i := 107) (by decide +kernel), List.mem_of_getElem? (i := 375) (by decide +kernel), List.mem_of_getElem? (i := 376) (by decide +kernel)⟩
theorem lw_p7 : lw_okq (⟨"RingCrowd$Tape", "readName", "()V"⟩, 6) := ⟨⟨by decide +kernel, by decide +kernel⟩, List.mem_of_getElem? (i := 107) (by decide +kernel), List.mem_of_getElem? (i := 382) (by decide +kernel), List.mem_of_getElem? (i := 383) (by decide +kernel)⟩
theorem lw_p8 : lw_okq (⟨"RingCrowd$Tape", "spells", "(Ljava/lang/String;)Z"⟩, 6) := ⟨⟨by decide +kernel, by decide +kernel⟩, List.mem_of_getElem? (i := 107) (by decide +kernel), List.mem_of_getElem? (i := 387) (by decide +kernel), List.mem_of_getElem? (i := 388) (by decide +kernel)⟩
theorem lw_p9 : lw_okq (⟨"RingCrowd$Reader", "faultAgainst", "(LRingCrowd$Book;)I"⟩, 5) := ⟨⟨by decide +kernel, by decide +kernel⟩, List.mem_of_getElem? (i := 136) (by decide +kernel), List.mem_of_getElem? (i := 442) (by decide +kernel), List.mem_of_getElem? (i := 443) (by decide +kernel)⟩
theorem lw_p10 : lw_okq (⟨"RingCrowd$Reader", "isPlaced", "()Z"⟩, 5) := ⟨⟨by decide +kernel, by decide +kernel⟩, List.mem_of_getElem? (i := 136) (by decide +kernel), List.mem_of_getElem? (i := 446) (by decide +kernel), List.mem_of_getElem? (i := 447) (by decide +kernel)⟩
theorem lw_p11 : lw_okq (⟨"RingCrowd$Reader", "isTooMuch", "(LRingCrowd$Book;)Z"⟩, 5) := ⟨⟨by decide +kernel, by decide +kernel⟩, List.mem_of_getElem? (i := 136) (by decide +kernel), List.mem_of_getElem? (i := 450) (by decide +kernel), List.mem_of_getElem? (i := 451) (by decide +kernel)⟩
theorem lw_p12 : lw_okq (⟨"RingCrowd$Reader", "take", "(LRingCrowd$Book;)V"⟩, 5) := ⟨⟨by decide +kernel, by decide +kernel⟩, List.mem_of_getElem? (i := 136) (by decide +kernel), List.mem_of_getElem? (i := 458) (by decide +kernel), List.mem_of_getElem? (i := 459) (by decide +kernel)⟩
theorem lw_p13 : lw_okq (⟨"RingCrowd$Reader", "takeNumber", "()V"⟩, 5) := ⟨⟨by decide +kernel, by decide +kernel⟩, List.mem_of_getElem? (i := 136) (by decide +kernel), List.mem_of_getElem? (i := 462) (by decide +kernel), List.mem_of_getElem? (i := 463) (by decide +kernel)⟩
theorem lw_p14 : lw_okq (⟨"RingCrowd$Ways", "gather", "(III)V"⟩, 11) := ⟨⟨by decide +kernel, by decide +kernel⟩, List.mem_of_getElem? (i := 47) (by decide +kernel), List.mem_of_getElem? (i := 496) (by decide +kernel), List.mem_of_getElem? (i := 497) (by decide +kernel)⟩
theorem lw_p15 : lw_okq (⟨"RingCrowd$Ways", "markGoals", "()V"⟩, 11) := ⟨⟨by decide +kernel, by decide +kernel⟩, List.mem_of_getElem? (i := 47) (by decide +kernel), List.mem_of_getElem? (i := 501) (by decide +kernel), List.mem_of_getElem? (i := 502) (by decide +kernel)⟩
def lw_privs_1 : List (MethodName × Nat) := [(⟨"RingCrowd", "noPlace", "(I)Z"⟩, 9), (⟨"RingCrowd$Book", "find", "(J)I"⟩, 3), (⟨"RingCrowd$Ring", "isSpread", "(II)Z"⟩, 2), (⟨"RingCrowd$Ring", "gapAbove", "(II)I"⟩, 2), (⟨"RingCrowd$Ring", "isSideBySide", "(I)Z"⟩, 2), (⟨"RingCrowd$Tape", "byteAt", "(I)I"⟩, 6), (⟨"RingCrowd$Tape", "readNumber", "()V"⟩, 6), (⟨"RingCrowd$Tape", "readName", "()V"⟩, 6), (⟨"RingCrowd$Tape", "spells", "(Ljava/lang/String;)Z"⟩, 6), (⟨"RingCrowd$Reader", "faultAgainst", "(LRingCrowd$Book;)I"⟩, 5), (⟨"RingCrowd$Reader", "isPlaced", "()Z"⟩, 5), (⟨"RingCrowd$Reader", "isTooMuch", "(LRingCrowd$Book;)Z"⟩, 5), (⟨"RingCrowd$Reader", "take", "(LRingCrowd$Book;)V"⟩, 5), (⟨"RingCrowd$Reader", "takeNumber", "()V"⟩, 5), (⟨"RingCrowd$Ways", "gather", "(III)V"⟩, 11), (⟨"RingCrowd$Ways", "markGoals", "()V"⟩, 11)]
theorem lw_r1 : ∀ q ∈ lw_privs_1, lw_okq q := List.forall_mem_cons.mpr ⟨lw_p0, List.forall_mem_cons.mpr ⟨lw_p1, List.forall_mem_cons.mpr ⟨lw_p2, List.forall_mem_cons.mpr ⟨lw_p3, List.forall_mem_cons.mpr ⟨lw_p4, List.forall_mem_cons.mpr ⟨lw_p5, List.forall_mem_cons.mpr ⟨lw_p6, List.forall_mem_cons.mpr ⟨lw_p7, List.forall_mem_cons.mpr ⟨lw_p8, List.forall_mem_cons.mpr ⟨lw_p9, List.forall_mem_cons.mpr ⟨lw_p10, List.forall_mem_cons.mpr ⟨lw_p11, List.forall_mem_cons.mpr ⟨lw_p12, List.forall_mem_cons.mpr ⟨lw_p13, List.forall_mem_cons.mpr ⟨lw_p14, List.forall_mem_cons.mpr ⟨lw_p15, fun _ h => absurd h List.not_mem_nil⟩⟩⟩⟩⟩⟩⟩⟩⟩⟩⟩⟩⟩⟩⟩⟩
theorem lw_p16 : lw_okq (⟨"RingCrowd$Ways", "findMoves", "(LRingCrowd$Book;I)V"⟩, 11) := ⟨⟨by decide +kernel, by decide +kernel⟩, List.mem_of_getElem? (i := 47) (by decide +kernel), List.mem_of_getElem? (i := 512) (by decide +kernel), List.mem_of_getElem? (i := 513) (by decide +kernel)⟩
theorem lw_p17 : lw_okq (⟨"RingCrowd$Ways", "wakeOne", "(I)V"⟩, 11) := ⟨⟨by decide +kernel, by decide +kernel⟩, List.mem_of_getElem? (i := 47) (by decide +kernel), List.mem_of_getElem? (i := 519) (by decide +kernel), List.mem_of_getElem? (i := 520) (by decide +kernel)⟩
theorem lw_p18 : lw_okq (⟨"RingCrowd$Ways", "addMoved", "(III)V"⟩, 11) := ⟨⟨by decide +kernel, by decide +kernel⟩, List.mem_of_getElem? (i := 47) (by decide +kernel), List.mem_of_getElem? (i := 523) (by decide +kernel), List.mem_of_getElem? (i := 524) (by decide +kernel)⟩
theorem lw_p19 : lw_okq (⟨"RingCrowd$Ways", "addNext", "(I)V"⟩, 11) := ⟨⟨by decide +kernel, by decide +kernel⟩, List.mem_of_getElem? (i := 47) (by decide +kernel), List.mem_of_getElem? (i := 527) (by decide +kernel), List.mem_of_getElem? (i := 528) (by decide +kernel)⟩
theorem lw_p20 : lw_okq (⟨"RingCrowd$Ways", "wakeSome", "(IZ)V"⟩, 11) := ⟨⟨by decide +kernel, by decide +kernel⟩, List.mem_of_getElem? (i := 47) (by decide +kernel), List.mem_of_getElem? (i := 531) (by decide +kernel), List.mem_of_getElem? (i := 532) (by decide +kernel)⟩
theorem lw_p21 : lw_okq (⟨"RingCrowd$Ways", "wakeAgain", "(IIZ)V"⟩, 11) := ⟨⟨by decide +kernel, by decide +kernel⟩, List.mem_of_getElem? (i := 47) (by decide +kernel), List.mem_of_getElem? (i := 535) (by decide +kernel), List.mem_of_getElem? (i := 536) (by decide +kernel)⟩
theorem lw_p22 : lw_okq (⟨"RingCrowd$Ways", "dropFirst", "(I)V"⟩, 11) := ⟨⟨by decide +kernel, by decide +kernel⟩, List.mem_of_getElem? (i := 47) (by decide +kernel), List.mem_of_getElem? (i := 539) (by decide +kernel), List.mem_of_getElem? (i := 540) (by decide +kernel)⟩
theorem lw_p23 : lw_okq (⟨"RingCrowd$Ways", "numbersOfNext", "()J"⟩, 11) := ⟨⟨by decide +kernel, by decide +kernel⟩, List.mem_of_getElem? (i := 47) (by decide +kernel), List.mem_of_getElem? (i := 543) (by decide +kernel), List.mem_of_getElem? (i := 544) (by decide +kernel)⟩
theorem lw_p24 : lw_okq (⟨"RingCrowd$Ways", "setLinks", "(IIJ)V"⟩, 11) := ⟨⟨by decide +kernel, by decide +kernel⟩, List.mem_of_getElem? (i := 47) (by decide +kernel), List.mem_of_getElem? (i := 551) (by decide +kernel), List.mem_of_getElem? (i := 552) (by decide +kernel)⟩
theorem lw_p25 : lw_okq (⟨"RingCrowd$Ways", "ofGoal", "(I)J"⟩, 11) := ⟨⟨by decide +kernel, by decide +kernel⟩, List.mem_of_getElem? (i := 47) (by decide +kernel), List.mem_of_getElem? (i := 560) (by decide +kernel), List.mem_of_getElem? (i := 561) (by decide +kernel)⟩
theorem lw_p26 : lw_okq (⟨"RingCrowd$Ways", "safeByOne", "(JI)J"⟩, 11) := ⟨⟨by decide +kernel, by decide +kernel⟩, List.mem_of_getElem? (i := 47) (by decide +kernel), List.mem_of_getElem? (i := 564) (by decide +kernel), List.mem_of_getElem? (i := 565) (by decide +kernel)⟩
theorem lw_p27 : lw_okq (⟨"RingCrowd$Ways", "linksOf", "(II)J"⟩, 11) := ⟨⟨by decide +kernel, by decide +kernel⟩, List.mem_of_getElem? (i := 47) (by decide +kernel), List.mem_of_getElem? (i := 568) (by decide +kernel), List.mem_of_getElem? (i := 569) (by decide +kernel)⟩
theorem lw_p28 : lw_okq (⟨"RingCrowd$Ring", "turnsBetween", "(II)I"⟩, 2) := ⟨⟨by decide +kernel, by decide +kernel⟩, List.mem_of_getElem? (i := 25) (by decide +kernel), List.mem_of_getElem? (i := 609) (by decide +kernel), List.mem_of_getElem? (i := 610) (by decide +kernel)⟩
theorem lw_p29 : lw_okq (⟨"RingCrowd$Asks", "sizeOf", "(I)I"⟩, 3) := ⟨⟨by decide +kernel, by decide +kernel⟩, List.mem_of_getElem? (i := 91) (by decide +kernel), List.mem_of_getElem? (i := 630) (by decide +kernel), List.mem_of_getElem? (i := 631) (by decide +kernel)⟩
theorem lw_p30 : lw_okq (⟨"RingCrowd$Asks", "begin", "(I)V"⟩, 3) := ⟨⟨by decide +kernel, by decide +kernel⟩, List.mem_of_getElem? (i := 91) (by decide +kernel), List.mem_of_getElem? (i := 635) (by decide +kernel), List.mem_of_getElem? (i := 636) (by decide +kernel)⟩
theorem lw_p31 : lw_okq (⟨"RingCrowd$Asks", "lentSize", "(I)I"⟩, 3) := ⟨⟨by decide +kernel, by decide +kernel⟩, List.mem_of_getElem? (i := 91) (by decide +kernel), List.mem_of_getElem? (i := 639) (by decide +kernel), List.mem_of_getElem? (i := 640) (by decide +kernel)⟩
def lw_privs_2 : List (MethodName × Nat) := [(⟨"RingCrowd$Ways", "findMoves", "(LRingCrowd$Book;I)V"⟩, 11), (⟨"RingCrowd$Ways", "wakeOne", "(I)V"⟩, 11), (⟨"RingCrowd$Ways", "addMoved", "(III)V"⟩, 11), (⟨"RingCrowd$Ways", "addNext", "(I)V"⟩, 11), (⟨"RingCrowd$Ways", "wakeSome", "(IZ)V"⟩, 11), (⟨"RingCrowd$Ways", "wakeAgain", "(IIZ)V"⟩, 11), (⟨"RingCrowd$Ways", "dropFirst", "(I)V"⟩, 11), (⟨"RingCrowd$Ways", "numbersOfNext", "()J"⟩, 11), (⟨"RingCrowd$Ways", "setLinks", "(IIJ)V"⟩, 11), (⟨"RingCrowd$Ways", "ofGoal", "(I)J"⟩, 11), (⟨"RingCrowd$Ways", "safeByOne", "(JI)J"⟩, 11), (⟨"RingCrowd$Ways", "linksOf", "(II)J"⟩, 11), (⟨"RingCrowd$Ring", "turnsBetween", "(II)I"⟩, 2), (⟨"RingCrowd$Asks", "sizeOf", "(I)I"⟩, 3), (⟨"RingCrowd$Asks", "begin", "(I)V"⟩, 3), (⟨"RingCrowd$Asks", "lentSize", "(I)I"⟩, 3)]
theorem lw_r2 : ∀ q ∈ lw_privs_2, lw_okq q := List.forall_mem_cons.mpr ⟨lw_p16, List.forall_mem_cons.mpr ⟨lw_p17, List.forall_mem_cons.mpr ⟨lw_p18, List.forall_mem_cons.mpr ⟨lw_p19, List.forall_mem_cons.mpr ⟨lw_p20, List.forall_mem_cons.mpr ⟨lw_p21, List.forall_mem_cons.mpr ⟨lw_p22, List.forall_mem_cons.mpr ⟨lw_p23, List.forall_mem_cons.mpr ⟨lw_p24, List.forall_mem_cons.mpr ⟨lw_p25, List.forall_mem_cons.mpr ⟨lw_p26, List.forall_mem_cons.mpr ⟨lw_p27, List.forall_mem_cons.mpr ⟨lw_p28, List.forall_mem_cons.mpr ⟨lw_p29, List.forall_mem_cons.mpr ⟨lw_p30, List.forall_mem_cons.mpr ⟨lw_p31, fun _ h => absurd h List.not_mem_nil⟩⟩⟩⟩⟩⟩⟩⟩⟩⟩⟩⟩⟩⟩⟩⟩
theorem lw_p32 : lw_okq (⟨"RingCrowd$Asks", "markOf", "(I)I"⟩, 3) := ⟨⟨by decide +kernel, by decide +kernel⟩, List.mem_of_getElem? (i := 91) (by decide +kernel), List.mem_of_getElem? (i := 645) (by decide +kernel), List.mem_of_getElem? (i := 646) (by decide +kernel)⟩
theorem lw_p33 : lw_okq (⟨"RingCrowd$Asks", "lentMark", "(I)I"⟩, 3) := ⟨⟨by decide +kernel, by decide +kernel⟩, List.mem_of_getElem? (i := 91) (by decide +kernel), List.mem_of_getElem? (i := 649) (by decide +kernel), List.mem_of_getElem? (i := 650) (by decide +kernel)⟩
theorem lw_p34 : lw_okq (⟨"RingCrowdModel", "isPlace", "(I)Z"⟩, 41) := ⟨⟨by decide +kernel, by decide +kernel⟩, List.mem_of_getElem? (i := 674) (by decide +kernel), List.mem_of_getElem? (i := 808) (by decide +kernel), List.mem_of_getElem? (i := 809) (by decide +kernel)⟩
theorem lw_p35 : lw_okq (⟨"RingCrowdModel", "take", "()V"⟩, 41) := ⟨⟨by decide +kernel, by decide +kernel⟩, List.mem_of_getElem? (i := 674) (by decide +kernel), List.mem_of_getElem? (i := 830) (by decide +kernel), List.mem_of_getElem? (i := 831) (by decide +kernel)⟩
theorem lw_p36 : lw_okq (⟨"RingCrowdModel", "look", "(I)I"⟩, 41) := ⟨⟨by decide +kernel, by decide +kernel⟩, List.mem_of_getElem? (i := 674) (by decide +kernel), List.mem_of_getElem? (i := 834) (by decide +kernel), List.mem_of_getElem? (i := 835) (by decide +kernel)⟩
theorem lw_p37 : lw_okq (⟨"RingCrowdModel", "rowFrom", "(II[I)I"⟩, 41) := ⟨⟨by decide +kernel, by decide +kernel⟩, List.mem_of_getElem? (i := 674) (by decide +kernel), List.mem_of_getElem? (i := 838) (by decide +kernel), List.mem_of_getElem? (i := 839) (by decide +kernel)⟩
theorem lw_p38 : lw_okq (⟨"RingCrowdModel", "doing", "(I)I"⟩, 41) := ⟨⟨by decide +kernel, by decide +kernel⟩, List.mem_of_getElem? (i := 674) (by decide +kernel), List.mem_of_getElem? (i := 846) (by decide +kernel), List.mem_of_getElem? (i := 847) (by decide +kernel)⟩
theorem lw_p39 : lw_okq (⟨"RingCrowdModel", "findName", "()V"⟩, 41) := ⟨⟨by decide +kernel, by decide +kernel⟩, List.mem_of_getElem? (i := 674) (by decide +kernel), List.mem_of_getElem? (i := 854) (by decide +kernel), List.mem_of_getElem? (i := 855) (by decide +kernel)⟩
theorem lw_p40 : lw_okq (⟨"RingCrowdModel", "seen", "(III)I"⟩, 41) := ⟨⟨by decide +kernel, by decide +kernel⟩, List.mem_of_getElem? (i := 674) (by decide +kernel), List.mem_of_getElem? (i := 858) (by decide +kernel), List.mem_of_getElem? (i := 859) (by decide +kernel)⟩
theorem lw_p41 : lw_okq (⟨"RingCrowdModel", "isGoal", "(II)Z"⟩, 41) := ⟨⟨by decide +kernel, by decide +kernel⟩, List.mem_of_getElem? (i := 674) (by decide +kernel), List.mem_of_getElem? (i := 867) (by decide +kernel), List.mem_of_getElem? (i := 868) (by decide +kernel)⟩
theorem lw_p42 : lw_okq (⟨"RingCrowdModel", "next", "()V"⟩, 41) := ⟨⟨by decide +kernel, by decide +kernel⟩, List.mem_of_getElem? (i := 674) (by decide +kernel), List.mem_of_getElem? (i := 890) (by decide +kernel), List.mem_of_getElem? (i := 891) (by decide +kernel)⟩
theorem lw_p43 : lw_okq (⟨"RingCrowdModel", "byteAt", "(I)I"⟩, 41) := ⟨⟨by decide +kernel, by decide +kernel⟩, List.mem_of_getElem? (i := 674) (by decide +kernel), List.mem_of_getElem? (i := 894) (by decide +kernel), List.mem_of_getElem? (i := 895) (by decide +kernel)⟩
theorem lw_p44 : lw_okq (⟨"RingCrowdModel", "readRule", "()V"⟩, 41) := ⟨⟨by decide +kernel, by decide +kernel⟩, List.mem_of_getElem? (i := 674) (by decide +kernel), List.mem_of_getElem? (i := 904) (by decide +kernel), List.mem_of_getElem? (i := 905) (by decide +kernel)⟩
theorem lw_p45 : lw_okq (⟨"RingCrowdModel", "word", "()J"⟩, 41) := ⟨⟨by decide +kernel, by decide +kernel⟩, List.mem_of_getElem? (i := 674) (by decide +kernel), List.mem_of_getElem? (i := 908) (by decide +kernel), List.mem_of_getElem? (i := 909) (by decide +kernel)⟩
theorem lw_p46 : lw_okq (⟨"RingCrowdModel", "bad", "(I)V"⟩, 41) := ⟨⟨by decide +kernel, by decide +kernel⟩, List.mem_of_getElem? (i := 674) (by decide +kernel), List.mem_of_getElem? (i := 913) (by decide +kernel), List.mem_of_getElem? (i := 914) (by decide +kernel)⟩
theorem lw_p47 : lw_okq (⟨"RingCrowdModel", "need", "(Z)V"⟩, 41) := ⟨⟨by decide +kernel, by decide +kernel⟩, List.mem_of_getElem? (i := 674) (by decide +kernel), List.mem_of_getElem? (i := 917) (by decide +kernel), List.mem_of_getElem? (i := 918) (by decide +kernel)⟩
def lw_privs_3 : List (MethodName × Nat) := [(⟨"RingCrowd$Asks", "markOf", "(I)I"⟩, 3), (⟨"RingCrowd$Asks", "lentMark", "(I)I"⟩, 3), (⟨"RingCrowdModel", "isPlace", "(I)Z"⟩, 41), (⟨"RingCrowdModel", "take", "()V"⟩, 41), (⟨"RingCrowdModel", "look", "(I)I"⟩, 41), (⟨"RingCrowdModel", "rowFrom", "(II[I)I"⟩, 41), (⟨"RingCrowdModel", "doing", "(I)I"⟩, 41), (⟨"RingCrowdModel", "findName", "()V"⟩, 41), (⟨"RingCrowdModel", "seen", "(III)I"⟩, 41), (⟨"RingCrowdModel", "isGoal", "(II)Z"⟩, 41), (⟨"RingCrowdModel", "next", "()V"⟩, 41), (⟨"RingCrowdModel", "byteAt", "(I)I"⟩, 41), (⟨"RingCrowdModel", "readRule", "()V"⟩, 41), (⟨"RingCrowdModel", "word", "()J"⟩, 41), (⟨"RingCrowdModel", "bad", "(I)V"⟩, 41), (⟨"RingCrowdModel", "need", "(Z)V"⟩, 41)]
theorem lw_r3 : ∀ q ∈ lw_privs_3, lw_okq q := List.forall_mem_cons.mpr ⟨lw_p32, List.forall_mem_cons.mpr ⟨lw_p33, List.forall_mem_cons.mpr ⟨lw_p34, List.forall_mem_cons.mpr ⟨lw_p35, List.forall_mem_cons.mpr ⟨lw_p36, List.forall_mem_cons.mpr ⟨lw_p37, List.forall_mem_cons.mpr ⟨lw_p38, List.forall_mem_cons.mpr ⟨lw_p39, List.forall_mem_cons.mpr ⟨lw_p40, List.forall_mem_cons.mpr ⟨lw_p41, List.forall_mem_cons.mpr ⟨lw_p42, List.forall_mem_cons.mpr ⟨lw_p43, List.forall_mem_cons.mpr ⟨lw_p44, List.forall_mem_cons.mpr ⟨lw_p45, List.forall_mem_cons.mpr ⟨lw_p46, List.forall_mem_cons.mpr ⟨lw_p47, fun _ h => absurd h List.not_mem_nil⟩⟩⟩⟩⟩⟩⟩⟩⟩⟩⟩⟩⟩⟩⟩⟩
theorem lw_p48 : lw_okq (⟨"RingCrowdModel", "readPair", "(I)V"⟩, 41) := ⟨⟨by decide +kernel, by decide +kernel⟩, List.mem_of_getElem? (i := 674) (by decide +kernel), List.mem_of_getElem? (i := 921) (by decide +kernel), List.mem_of_getElem? (i := 922) (by decide +kernel)⟩
theorem lw_p49 : lw_okq (⟨"RingCrowdModel", "aNumber", "()I"⟩, 41) := ⟨⟨by decide +kernel, by decide +kernel⟩, List.mem_of_getElem? (i := 674) (by decide +kernel), List.mem_of_getElem? (i := 925) (by decide +kernel), List.mem_of_getElem? (i := 926) (by decide +kernel)⟩
theorem lw_p50 : lw_okq (⟨"RingCrowdModel", "is", "(I)Z"⟩, 41) := ⟨⟨by decide +kernel, by decide +kernel⟩, List.mem_of_getElem? (i := 674) (by decide +kernel), List.mem_of_getElem? (i := 929) (by decide +kernel), List.mem_of_getElem? (i := 930) (by decide +kernel)⟩
theorem lw_p51 : lw_okq (⟨"RingCrowdModel", "isRead", "(I)Z"⟩, 41) := ⟨⟨by decide +kernel, by decide +kernel⟩, List.mem_of_getElem? (i := 674) (by decide +kernel), List.mem_of_getElem? (i := 936) (by decide +kernel), List.mem_of_getElem? (i := 937) (by decide +kernel)⟩
theorem lw_p52 : lw_okq (⟨"RingCrowdModel", "prove", "(II)V"⟩, 41) := ⟨⟨by decide +kernel, by decide +kernel⟩, List.mem_of_getElem? (i := 674) (by decide +kernel), List.mem_of_getElem? (i := 950) (by decide +kernel), List.mem_of_getElem? (i := 951) (by decide +kernel)⟩
theorem lw_p53 : lw_okq (⟨"RingCrowdModel", "listCrowds", "()V"⟩, 41) := ⟨⟨by decide +kernel, by decide +kernel⟩, List.mem_of_getElem? (i := 674) (by decide +kernel), List.mem_of_getElem? (i := 954) (by decide +kernel), List.mem_of_getElem? (i := 955) (by decide +kernel)⟩
theorem lw_p54 : lw_okq (⟨"RingCrowdModel", "numberOfName", "()I"⟩, 41) := ⟨⟨by decide +kernel, by decide +kernel⟩, List.mem_of_getElem? (i := 674) (by decide +kernel), List.mem_of_getElem? (i := 958) (by decide +kernel), List.mem_of_getElem? (i := 959) (by decide +kernel)⟩
theorem lw_p55 : lw_okq (⟨"RingCrowdModel", "findSteps", "(II)V"⟩, 41) := ⟨⟨by decide +kernel, by decide +kernel⟩, List.mem_of_getElem? (i := 674) (by decide +kernel), List.mem_of_getElem? (i := 962) (by decide +kernel), List.mem_of_getElem? (i := 963) (by decide +kernel)⟩
theorem lw_p56 : lw_okq (⟨"RingCrowdModel", "kindNow", "()I"⟩, 41) := ⟨⟨by decide +kernel, by decide +kernel⟩, List.mem_of_getElem? (i := 674) (by decide +kernel), List.mem_of_getElem? (i := 974) (by decide +kernel), List.mem_of_getElem? (i := 975) (by decide +kernel)⟩
theorem lw_p57 : lw_okq (⟨"RingCrowdModel", "same", "(I)I"⟩, 41) := ⟨⟨by decide +kernel, by decide +kernel⟩, List.mem_of_getElem? (i := 674) (by decide +kernel), List.mem_of_getElem? (i := 978) (by decide +kernel), List.mem_of_getElem? (i := 979) (by decide +kernel)⟩
theorem lw_p58 : lw_okq (⟨"RingCrowdModel", "sized", "(I)I"⟩, 41) := ⟨⟨by decide +kernel, by decide +kernel⟩, List.mem_of_getElem? (i := 674) (by decide +kernel), List.mem_of_getElem? (i := 992) (by decide +kernel), List.mem_of_getElem? (i := 993) (by decide +kernel)⟩
theorem lw_p59 : lw_okq (⟨"RingCrowdModel", "began", "(I)V"⟩, 41) := ⟨⟨by decide +kernel, by decide +kernel⟩, List.mem_of_getElem? (i := 674) (by decide +kernel), List.mem_of_getElem? (i := 996) (by decide +kernel), List.mem_of_getElem? (i := 997) (by decide +kernel)⟩
theorem lw_p60 : lw_okq (⟨"RingCrowdModel", "places", "()I"⟩, 41) := ⟨⟨by decide +kernel, by decide +kernel⟩, List.mem_of_getElem? (i := 674) (by decide +kernel), List.mem_of_getElem? (i := 1000) (by decide +kernel), List.mem_of_getElem? (i := 1001) (by decide +kernel)⟩
def lw_privs_4 : List (MethodName × Nat) := [(⟨"RingCrowdModel", "readPair", "(I)V"⟩, 41), (⟨"RingCrowdModel", "aNumber", "()I"⟩, 41), (⟨"RingCrowdModel", "is", "(I)Z"⟩, 41), (⟨"RingCrowdModel", "isRead", "(I)Z"⟩, 41), (⟨"RingCrowdModel", "prove", "(II)V"⟩, 41), (⟨"RingCrowdModel", "listCrowds", "()V"⟩, 41), (⟨"RingCrowdModel", "numberOfName", "()I"⟩, 41), (⟨"RingCrowdModel", "findSteps", "(II)V"⟩, 41), (⟨"RingCrowdModel", "kindNow", "()I"⟩, 41), (⟨"RingCrowdModel", "same", "(I)I"⟩, 41), (⟨"RingCrowdModel", "sized", "(I)I"⟩, 41), (⟨"RingCrowdModel", "began", "(I)V"⟩, 41), (⟨"RingCrowdModel", "places", "()I"⟩, 41)]
theorem lw_r4 : ∀ q ∈ lw_privs_4, lw_okq q := List.forall_mem_cons.mpr ⟨lw_p48, List.forall_mem_cons.mpr ⟨lw_p49, List.forall_mem_cons.mpr ⟨lw_p50, List.forall_mem_cons.mpr ⟨lw_p51, List.forall_mem_cons.mpr ⟨lw_p52, List.forall_mem_cons.mpr ⟨lw_p53, List.forall_mem_cons.mpr ⟨lw_p54, List.forall_mem_cons.mpr ⟨lw_p55, List.forall_mem_cons.mpr ⟨lw_p56, List.forall_mem_cons.mpr ⟨lw_p57, List.forall_mem_cons.mpr ⟨lw_p58, List.forall_mem_cons.mpr ⟨lw_p59, List.forall_mem_cons.mpr ⟨lw_p60, fun _ h => absurd h List.not_mem_nil⟩⟩⟩⟩⟩⟩⟩⟩⟩⟩⟩⟩⟩
def lw_privs : List (MethodName × Nat) := lw_privs_1 ++ (lw_privs_2 ++ (lw_privs_3 ++ (lw_privs_4)))
def lw_tbl : List Cond := k2_sels lw_privs ++ tables_1
theorem lw_privs_ok : ∀ q ∈ lw_privs, lw_okq q := by
  show ∀ q ∈ lw_privs_1 ++ (lw_privs_2 ++ (lw_privs_3 ++ (lw_privs_4))), lw_okq q
  exact List.forall_mem_append.mpr ⟨lw_r1, List.forall_mem_append.mpr ⟨lw_r2, List.forall_mem_append.mpr ⟨lw_r3, lw_r4⟩⟩⟩
def RX0 : String := "RingCrowd$Asks"
def TX0 : u_T := fun k => match k with
  | 0 => ("RingCrowd$Asks", "ring", "LRingCrowd$Ring;", true)
  | 1 => ("RingCrowd$Asks", "begun", "[I", true)
  | _ => ("RingCrowd$Asks", "length", "I", false)
def tyX0 : Nat → FieldType := fun k => match k with
  | 0 => .object "RingCrowd$Ring"
  | 1 => .array .int
  | _ => .int
theorem nmX0 : ∀ a, a < 3 → ∀ b, b < 3 → a ≠ b → (TX0 a).2.1 ≠ (TX0 b).2.1 := by decide +kernel
theorem tyX0_ok : ∀ k, k < 3 → parseFieldDescriptor (TX0 k).2.2.1 = some (tyX0 k) := by decide +kernel
abbrev cX0_init : ByteArray := prog_2_method_1_code
def yX0_init : MethodName := ⟨RX0, "<init>", "(LRingCrowd$Ring;)V"⟩
abbrev cX0_answer : ByteArray := prog_2_method_2_code
def yX0_answer : MethodName := ⟨RX0, "answer", "(II)I"⟩
abbrev cX0_traced : ByteArray := prog_2_method_3_code
def yX0_traced : MethodName := ⟨RX0, "traced", "(I)I"⟩
abbrev cX0_begin : ByteArray := prog_2_method_4_code
def yX0_begin : MethodName := ⟨RX0, "begin", "(I)V"⟩
abbrev cX0_sizeOf : ByteArray := prog_2_method_5_code
def yX0_sizeOf : MethodName := ⟨RX0, "sizeOf", "(I)I"⟩
abbrev cX0_lentSize : ByteArray := prog_2_method_6_code
def yX0_lentSize : MethodName := ⟨RX0, "lentSize", "(I)I"⟩
abbrev cX0_markOf : ByteArray := prog_2_method_7_code
def yX0_markOf : MethodName := ⟨RX0, "markOf", "(I)I"⟩
abbrev cX0_lentMark : ByteArray := prog_2_method_8_code
def yX0_lentMark : MethodName := ⟨RX0, "lentMark", "(I)I"⟩
def RX1 : String := "RingCrowd$Book"
def TX1 : u_T := fun k => match k with
  | 0 => ("RingCrowd$Book", "rows", "[J", true)
  | 1 => ("RingCrowd$Book", "acts", "[I", true)
  | _ => ("RingCrowd$Book", "size", "I", false)
def tyX1 : Nat → FieldType := fun k => match k with
  | 0 => .array .long
  | 1 => .array .int
  | _ => .int
theorem nmX1 : ∀ a, a < 3 → ∀ b, b < 3 → a ≠ b → (TX1 a).2.1 ≠ (TX1 b).2.1 := by decide +kernel
theorem tyX1_ok : ∀ k, k < 3 → parseFieldDescriptor (TX1 k).2.2.1 = some (tyX1 k) := by decide +kernel
abbrev cX1_init : ByteArray := prog_3_method_1_code
def yX1_init : MethodName := ⟨RX1, "<init>", "()V"⟩
abbrev cX1_clear : ByteArray := prog_3_method_2_code
def yX1_clear : MethodName := ⟨RX1, "clear", "()V"⟩
abbrev cX1_put : ByteArray := prog_3_method_3_code
def yX1_put : MethodName := ⟨RX1, "put", "(JI)V"⟩
abbrev cX1_has : ByteArray := prog_3_method_4_code
def yX1_has : MethodName := ⟨RX1, "has", "(J)Z"⟩
abbrev cX1_find : ByteArray := prog_3_method_5_code
def yX1_find : MethodName := ⟨RX1, "find", "(J)I"⟩
abbrev cX1_moveAt : ByteArray := prog_3_method_6_code
def yX1_moveAt : MethodName := ⟨RX1, "moveAt", "(LRingCrowd$Ring;II)I"⟩
def RX2 : String := "RingCrowd$Reader"
def TX2 : u_T := fun k => match k with
  | 0 => ("RingCrowd$Reader", "tape", "LRingCrowd$Tape;", true)
  | 1 => ("RingCrowd$Reader", "wants", "I", false)
  | 2 => ("RingCrowd$Reader", "pairs", "I", false)
  | 3 => ("RingCrowd$Reader", "sees", "I", false)
  | _ => ("RingCrowd$Reader", "row", "J", false)
def tyX2 : Nat → FieldType := fun k => match k with
  | 0 => .object "RingCrowd$Tape"
  | 1 => .int
  | 2 => .int
  | 3 => .int
  | _ => .long
theorem nmX2 : ∀ a, a < 5 → ∀ b, b < 5 → a ≠ b → (TX2 a).2.1 ≠ (TX2 b).2.1 := by decide +kernel
theorem tyX2_ok : ∀ k, k < 5 → parseFieldDescriptor (TX2 k).2.2.1 = some (tyX2 k) := by decide +kernel
abbrev cX2_init : ByteArray := prog_4_method_1_code
def yX2_init : MethodName := ⟨RX2, "<init>", "(LRingCrowd$Tape;)V"⟩
abbrev cX2_read : ByteArray := prog_4_method_2_code
def yX2_read : MethodName := ⟨RX2, "read", "(LRingCrowd$Book;)I"⟩
abbrev cX2_faultAgainst : ByteArray := prog_4_method_3_code
def yX2_faultAgainst : MethodName := ⟨RX2, "faultAgainst", "(LRingCrowd$Book;)I"⟩
abbrev cX2_isPlaced : ByteArray := prog_4_method_4_code
def yX2_isPlaced : MethodName := ⟨RX2, "isPlaced", "()Z"⟩
abbrev cX2_isTooMuch : ByteArray := prog_4_method_5_code
def yX2_isTooMuch : MethodName := ⟨RX2, "isTooMuch", "(LRingCrowd$Book;)Z"⟩
abbrev cX2_take : ByteArray := prog_4_method_6_code
def yX2_take : MethodName := ⟨RX2, "take", "(LRingCrowd$Book;)V"⟩
abbrev cX2_takeNumber : ByteArray := prog_4_method_7_code
def yX2_takeNumber : MethodName := ⟨RX2, "takeNumber", "()V"⟩
def RX3 : String := "RingCrowd$Ring"
def TX3 : u_T := fun k => match k with
  | 0 => ("RingCrowd$Ring", "places", "I", true)
  | _ => ("RingCrowd$Ring", "mask", "I", true)
def tyX3 : Nat → FieldType := fun k => match k with
  | 0 => .int
  | _ => .int
theorem nmX3 : ∀ a, a < 2 → ∀ b, b < 2 → a ≠ b → (TX3 a).2.1 ≠ (TX3 b).2.1 := by decide +kernel
theorem tyX3_ok : ∀ k, k < 2 → parseFieldDescriptor (TX3 k).2.2.1 = some (tyX3 k) := by decide +kernel
abbrev cX3_init : ByteArray := prog_5_method_1_code
def yX3_init : MethodName := ⟨RX3, "<init>", "(I)V"⟩
abbrev cX3_oneAt : ByteArray := prog_5_method_2_code
def yX3_oneAt : MethodName := ⟨RX3, "oneAt", "(I)I"⟩
abbrev cX3_manyAt : ByteArray := prog_5_method_3_code
def yX3_manyAt : MethodName := ⟨RX3, "manyAt", "(II)I"⟩
abbrev cX3_beside : ByteArray := prog_5_method_4_code
def yX3_beside : MethodName := ⟨RX3, "beside", "(II)I"⟩
abbrev cX3_shift : ByteArray := prog_5_method_5_code
def yX3_shift : MethodName := ⟨RX3, "shift", "(II)I"⟩
abbrev cX3_robotsIn : ByteArray := prog_5_method_6_code
def yX3_robotsIn : MethodName := ⟨RX3, "robotsIn", "(I)I"⟩
abbrev cX3_takenIn : ByteArray := prog_5_method_7_code
def yX3_takenIn : MethodName := ⟨RX3, "takenIn", "(I)I"⟩
abbrev cX3_turned : ByteArray := prog_5_method_8_code
def yX3_turned : MethodName := ⟨RX3, "turned", "(I)I"⟩
abbrev cX3_mirrored : ByteArray := prog_5_method_9_code
def yX3_mirrored : MethodName := ⟨RX3, "mirrored", "(I)I"⟩
abbrev cX3_nameOf : ByteArray := prog_5_method_10_code
def yX3_nameOf : MethodName := ⟨RX3, "nameOf", "(I)I"⟩
abbrev cX3_turnsOf : ByteArray := prog_5_method_11_code
def yX3_turnsOf : MethodName := ⟨RX3, "turnsOf", "(I)I"⟩
abbrev cX3_mirrorsOf : ByteArray := prog_5_method_12_code
def yX3_mirrorsOf : MethodName := ⟨RX3, "mirrorsOf", "(I)I"⟩
abbrev cX3_turnsBetween : ByteArray := prog_5_method_13_code
def yX3_turnsBetween : MethodName := ⟨RX3, "turnsBetween", "(II)I"⟩
abbrev cX3_kindOf : ByteArray := prog_5_method_14_code
def yX3_kindOf : MethodName := ⟨RX3, "kindOf", "(I)I"⟩
abbrev cX3_rowFrom : ByteArray := prog_5_method_15_code
def yX3_rowFrom : MethodName := ⟨RX3, "rowFrom", "(III)J"⟩
abbrev cX3_viewFrom : ByteArray := prog_5_method_16_code
def yX3_viewFrom : MethodName := ⟨RX3, "viewFrom", "(II)J"⟩
abbrev cX3_isOfGoal : ByteArray := prog_5_method_17_code
def yX3_isOfGoal : MethodName := ⟨RX3, "isOfGoal", "(II)Z"⟩
abbrev cX3_isSpread : ByteArray := prog_5_method_18_code
def yX3_isSpread : MethodName := ⟨RX3, "isSpread", "(II)Z"⟩
abbrev cX3_gapAbove : ByteArray := prog_5_method_19_code
def yX3_gapAbove : MethodName := ⟨RX3, "gapAbove", "(II)I"⟩
abbrev cX3_isSideBySide : ByteArray := prog_5_method_20_code
def yX3_isSideBySide : MethodName := ⟨RX3, "isSideBySide", "(I)Z"⟩
def RX4 : String := "RingCrowd$Row"
def TX4 : u_T := fun k => match k with
  | _ => ("", "", "", false)
def tyX4 : Nat → FieldType := fun k => match k with
  | _ => .int
theorem nmX4 : ∀ a, a < 0 → ∀ b, b < 0 → a ≠ b → (TX4 a).2.1 ≠ (TX4 b).2.1 := by decide +kernel
theorem tyX4_ok : ∀ k, k < 0 → parseFieldDescriptor (TX4 k).2.2.1 = some (tyX4 k) := by decide +kernel
abbrev cX4_with : ByteArray := prog_6_method_2_code
def yX4_with : MethodName := ⟨RX4, "with", "(JI)J"⟩
abbrev cX4_item : ByteArray := prog_6_method_3_code
def yX4_item : MethodName := ⟨RX4, "item", "(JI)I"⟩
def RX5 : String := "RingCrowd$Tape"
def TX5 : u_T := fun k => match k with
  | 0 => ("RingCrowd$Tape", "bytes", "[I", true)
  | 1 => ("RingCrowd$Tape", "length", "I", false)
  | 2 => ("RingCrowd$Tape", "token", "I", false)
  | 3 => ("RingCrowd$Tape", "from", "I", false)
  | 4 => ("RingCrowd$Tape", "value", "I", false)
  | _ => ("RingCrowd$Tape", "behind", "I", false)
def tyX5 : Nat → FieldType := fun k => match k with
  | 0 => .array .int
  | 1 => .int
  | 2 => .int
  | 3 => .int
  | 4 => .int
  | _ => .int
theorem nmX5 : ∀ a, a < 6 → ∀ b, b < 6 → a ≠ b → (TX5 a).2.1 ≠ (TX5 b).2.1 := by decide +kernel
theorem tyX5_ok : ∀ k, k < 6 → parseFieldDescriptor (TX5 k).2.2.1 = some (tyX5 k) := by decide +kernel
abbrev cX5_init : ByteArray := prog_7_method_1_code
def yX5_init : MethodName := ⟨RX5, "<init>", "()V"⟩
abbrev cX5_clear : ByteArray := prog_7_method_2_code
def yX5_clear : MethodName := ⟨RX5, "clear", "()V"⟩
abbrev cX5_rewind : ByteArray := prog_7_method_3_code
def yX5_rewind : MethodName := ⟨RX5, "rewind", "()V"⟩
abbrev cX5_append : ByteArray := prog_7_method_4_code
def yX5_append : MethodName := ⟨RX5, "append", "(JI)Z"⟩
abbrev cX5_readToken : ByteArray := prog_7_method_5_code
def yX5_readToken : MethodName := ⟨RX5, "readToken", "()V"⟩
abbrev cX5_readNumber : ByteArray := prog_7_method_6_code
def yX5_readNumber : MethodName := ⟨RX5, "readNumber", "()V"⟩
abbrev cX5_readName : ByteArray := prog_7_method_7_code
def yX5_readName : MethodName := ⟨RX5, "readName", "()V"⟩
abbrev cX5_spells : ByteArray := prog_7_method_8_code
def yX5_spells : MethodName := ⟨RX5, "spells", "(Ljava/lang/String;)Z"⟩
abbrev cX5_byteAt : ByteArray := prog_7_method_9_code
def yX5_byteAt : MethodName := ⟨RX5, "byteAt", "(I)I"⟩
abbrev cX5_isBlank : ByteArray := prog_7_method_10_code
def yX5_isBlank : MethodName := ⟨RX5, "isBlank", "(I)Z"⟩
abbrev cX5_isFigure : ByteArray := prog_7_method_11_code
def yX5_isFigure : MethodName := ⟨RX5, "isFigure", "(I)Z"⟩
abbrev cX5_isLetter : ByteArray := prog_7_method_12_code
def yX5_isLetter : MethodName := ⟨RX5, "isLetter", "(I)Z"⟩
def RX6 : String := "RingCrowd$Ways"
def TX6 : u_T := fun k => match k with
  | 0 => ("RingCrowd$Ways", "ring", "LRingCrowd$Ring;", true)
  | 1 => ("RingCrowd$Ways", "names", "[I", true)
  | 2 => ("RingCrowd$Ways", "goals", "[J", true)
  | 3 => ("RingCrowd$Ways", "links", "[J", true)
  | 4 => ("RingCrowd$Ways", "linked", "[Z", true)
  | 5 => ("RingCrowd$Ways", "ups", "[I", true)
  | 6 => ("RingCrowd$Ways", "downs", "[I", true)
  | 7 => ("RingCrowd$Ways", "next", "[I", true)
  | 8 => ("RingCrowd$Ways", "robots", "I", false)
  | 9 => ("RingCrowd$Ways", "size", "I", false)
  | _ => ("RingCrowd$Ways", "nexts", "I", false)
def tyX6 : Nat → FieldType := fun k => match k with
  | 0 => .object "RingCrowd$Ring"
  | 1 => .array .int
  | 2 => .array .long
  | 3 => .array .long
  | 4 => .array .boolean
  | 5 => .array .int
  | 6 => .array .int
  | 7 => .array .int
  | 8 => .int
  | 9 => .int
  | _ => .int
theorem nmX6 : ∀ a, a < 11 → ∀ b, b < 11 → a ≠ b → (TX6 a).2.1 ≠ (TX6 b).2.1 := by decide +kernel
theorem tyX6_ok : ∀ k, k < 11 → parseFieldDescriptor (TX6 k).2.2.1 = some (tyX6 k) := by decide +kernel
abbrev cX6_init : ByteArray := prog_8_method_1_code
def yX6_init : MethodName := ⟨RX6, "<init>", "(LRingCrowd$Ring;)V"⟩
abbrev cX6_forgetRules : ByteArray := prog_8_method_2_code
def yX6_forgetRules : MethodName := ⟨RX6, "forgetRules", "()V"⟩
abbrev cX6_gatherFor : ByteArray := prog_8_method_3_code
def yX6_gatherFor : MethodName := ⟨RX6, "gatherFor", "(I)V"⟩
abbrev cX6_gather : ByteArray := prog_8_method_4_code
def yX6_gather : MethodName := ⟨RX6, "gather", "(III)V"⟩
abbrev cX6_markGoals : ByteArray := prog_8_method_5_code
def yX6_markGoals : MethodName := ⟨RX6, "markGoals", "()V"⟩
abbrev cX6_numberOf : ByteArray := prog_8_method_6_code
def yX6_numberOf : MethodName := ⟨RX6, "numberOf", "(I)I"⟩
abbrev cX6_linkBy : ByteArray := prog_8_method_7_code
def yX6_linkBy : MethodName := ⟨RX6, "linkBy", "(LRingCrowd$Book;I)V"⟩
abbrev cX6_numbersOfNext : ByteArray := prog_8_method_8_code
def yX6_numbersOfNext : MethodName := ⟨RX6, "numbersOfNext", "()J"⟩
abbrev cX6_findMoves : ByteArray := prog_8_method_9_code
def yX6_findMoves : MethodName := ⟨RX6, "findMoves", "(LRingCrowd$Book;I)V"⟩
abbrev cX6_addNext : ByteArray := prog_8_method_10_code
def yX6_addNext : MethodName := ⟨RX6, "addNext", "(I)V"⟩
abbrev cX6_addMoved : ByteArray := prog_8_method_11_code
def yX6_addMoved : MethodName := ⟨RX6, "addMoved", "(III)V"⟩
abbrev cX6_wakeOne : ByteArray := prog_8_method_12_code
def yX6_wakeOne : MethodName := ⟨RX6, "wakeOne", "(I)V"⟩
abbrev cX6_wakeSome : ByteArray := prog_8_method_13_code
def yX6_wakeSome : MethodName := ⟨RX6, "wakeSome", "(IZ)V"⟩
abbrev cX6_wakeAgain : ByteArray := prog_8_method_14_code
def yX6_wakeAgain : MethodName := ⟨RX6, "wakeAgain", "(IIZ)V"⟩
abbrev cX6_dropFirst : ByteArray := prog_8_method_15_code
def yX6_dropFirst : MethodName := ⟨RX6, "dropFirst", "(I)V"⟩
abbrev cX6_setLinks : ByteArray := prog_8_method_16_code
def yX6_setLinks : MethodName := ⟨RX6, "setLinks", "(IIJ)V"⟩
abbrev cX6_linksOf : ByteArray := prog_8_method_17_code
def yX6_linksOf : MethodName := ⟨RX6, "linksOf", "(II)J"⟩
abbrev cX6_ofGoal : ByteArray := prog_8_method_18_code
def yX6_ofGoal : MethodName := ⟨RX6, "ofGoal", "(I)J"⟩
abbrev cX6_safeByOne : ByteArray := prog_8_method_19_code
def yX6_safeByOne : MethodName := ⟨RX6, "safeByOne", "(JI)J"⟩
abbrev cX6_working : ByteArray := prog_8_method_20_code
def yX6_working : MethodName := ⟨RX6, "working", "(II)J"⟩
abbrev cX6_mostSteps : ByteArray := prog_8_method_21_code
def yX6_mostSteps : MethodName := ⟨RX6, "mostSteps", "(III)I"⟩
abbrev cX6_reachedFrom : ByteArray := prog_8_method_22_code
def yX6_reachedFrom : MethodName := ⟨RX6, "reachedFrom", "(III)J"⟩
abbrev cX6_countReached : ByteArray := prog_8_method_23_code
def yX6_countReached : MethodName := ⟨RX6, "countReached", "(JIII)I"⟩
def RX7 : String := "RingCrowd"
def TX7 : u_T := fun k => match k with
  | 0 => ("RingCrowd", "ring", "LRingCrowd$Ring;", true)
  | 1 => ("RingCrowd", "ways", "LRingCrowd$Ways;", true)
  | 2 => ("RingCrowd", "asks", "LRingCrowd$Asks;", true)
  | 3 => ("RingCrowd", "tape", "LRingCrowd$Tape;", true)
  | 4 => ("RingCrowd", "reader", "LRingCrowd$Reader;", true)
  | 5 => ("RingCrowd", "book", "LRingCrowd$Book;", false)
  | 6 => ("RingCrowd", "spare", "LRingCrowd$Book;", false)
  | 7 => ("RingCrowd", "crowd", "I", false)
  | _ => ("RingCrowd", "latestFault", "I", false)
def tyX7 : Nat → FieldType := fun k => match k with
  | 0 => .object "RingCrowd$Ring"
  | 1 => .object "RingCrowd$Ways"
  | 2 => .object "RingCrowd$Asks"
  | 3 => .object "RingCrowd$Tape"
  | 4 => .object "RingCrowd$Reader"
  | 5 => .object "RingCrowd$Book"
  | 6 => .object "RingCrowd$Book"
  | 7 => .int
  | _ => .int
theorem nmX7 : ∀ a, a < 9 → ∀ b, b < 9 → a ≠ b → (TX7 a).2.1 ≠ (TX7 b).2.1 := by decide +kernel
theorem tyX7_ok : ∀ k, k < 9 → parseFieldDescriptor (TX7 k).2.2.1 = some (tyX7 k) := by decide +kernel
abbrev cX7_init : ByteArray := prog_1_method_1_code
def yX7_init : MethodName := ⟨RX7, "<init>", "(I)V"⟩
abbrev cX7_robot : ByteArray := prog_1_method_2_code
def yX7_robot : MethodName := ⟨RX7, "robot", "(I)I"⟩
abbrev cX7_wipe : ByteArray := prog_1_method_3_code
def yX7_wipe : MethodName := ⟨RX7, "wipe", "()I"⟩
abbrev cX7_at : ByteArray := prog_1_method_4_code
def yX7_at : MethodName := ⟨RX7, "at", "(I)I"⟩
abbrev cX7_view : ByteArray := prog_1_method_5_code
def yX7_view : MethodName := ⟨RX7, "view", "(II)I"⟩
abbrev cX7_does : ByteArray := prog_1_method_6_code
def yX7_does : MethodName := ⟨RX7, "does", "(I)I"⟩
abbrev cX7_name : ByteArray := prog_1_method_7_code
def yX7_name : MethodName := ⟨RX7, "name", "(I)I"⟩
abbrev cX7_goal : ByteArray := prog_1_method_8_code
def yX7_goal : MethodName := ⟨RX7, "goal", "(I)I"⟩
abbrev cX7_step : ByteArray := prog_1_method_9_code
def yX7_step : MethodName := ⟨RX7, "step", "()I"⟩
abbrev cX7_go : ByteArray := prog_1_method_10_code
def yX7_go : MethodName := ⟨RX7, "go", "(II)I"⟩
abbrev cX7_feed : ByteArray := prog_1_method_11_code
def yX7_feed : MethodName := ⟨RX7, "feed", "(JI)I"⟩
abbrev cX7_rules : ByteArray := prog_1_method_12_code
def yX7_rules : MethodName := ⟨RX7, "rules", "()I"⟩
abbrev cX7_fault : ByteArray := prog_1_method_13_code
def yX7_fault : MethodName := ⟨RX7, "fault", "()I"⟩
abbrev cX7_proves : ByteArray := prog_1_method_14_code
def yX7_proves : MethodName := ⟨RX7, "proves", "(III)I"⟩
abbrev cX7_starts : ByteArray := prog_1_method_15_code
def yX7_starts : MethodName := ⟨RX7, "starts", "(III)I"⟩
abbrev cX7_kind : ByteArray := prog_1_method_16_code
def yX7_kind : MethodName := ⟨RX7, "kind", "()I"⟩
abbrev cX7_as : ByteArray := prog_1_method_17_code
def yX7_as : MethodName := ⟨RX7, "as", "(I)I"⟩
abbrev cX7_ask : ByteArray := prog_1_method_18_code
def yX7_ask : MethodName := ⟨RX7, "ask", "(I)I"⟩
abbrev cX7_trace : ByteArray := prog_1_method_19_code
def yX7_trace : MethodName := ⟨RX7, "trace", "(I)I"⟩
abbrev cX7_count : ByteArray := prog_1_method_20_code
def yX7_count : MethodName := ⟨RX7, "count", "(I)I"⟩
abbrev cX7_noPlace : ByteArray := prog_1_method_21_code
def yX7_noPlace : MethodName := ⟨RX7, "noPlace", "(I)Z"⟩
abbrev cX7_outside : ByteArray := prog_1_method_22_code
def yX7_outside : MethodName := ⟨RX7, "outside", "(II)Z"⟩
def RX8 : String := "RingCrowdModel"
def TX8 : u_T := fun k => match k with
  | 0 => ("RingCrowdModel", "thrown", "I", false)
  | 1 => ("RingCrowdModel", "n", "I", true)
  | 2 => ("RingCrowdModel", "robots", "I", false)
  | 3 => ("RingCrowdModel", "here", "[I", true)
  | 4 => ("RingCrowdModel", "hand", "[I", true)
  | 5 => ("RingCrowdModel", "viewed", "I", false)
  | 6 => ("RingCrowdModel", "view", "[I", true)
  | 7 => ("RingCrowdModel", "up", "[I", true)
  | 8 => ("RingCrowdModel", "down", "[I", true)
  | 9 => ("RingCrowdModel", "rules", "I", false)
  | 10 => ("RingCrowdModel", "ruleSize", "[I", true)
  | 11 => ("RingCrowdModel", "ruleRow", "[I", true)
  | 12 => ("RingCrowdModel", "ruleDoes", "[I", true)
  | 13 => ("RingCrowdModel", "name", "[I", true)
  | 14 => ("RingCrowdModel", "goes", "[I", true)
  | 15 => ("RingCrowdModel", "tape", "[I", true)
  | 16 => ("RingCrowdModel", "taped", "I", false)
  | 17 => ("RingCrowdModel", "latest", "I", false)
  | 18 => ("RingCrowdModel", "size", "I", false)
  | 19 => ("RingCrowdModel", "at", "I", false)
  | 20 => ("RingCrowdModel", "sort", "I", false)
  | 21 => ("RingCrowdModel", "place", "I", false)
  | 22 => ("RingCrowdModel", "end", "I", false)
  | 23 => ("RingCrowdModel", "fault", "I", false)
  | 24 => ("RingCrowdModel", "faultAt", "I", false)
  | 25 => ("RingCrowdModel", "read", "I", false)
  | 26 => ("RingCrowdModel", "readSize", "[I", true)
  | 27 => ("RingCrowdModel", "readRow", "[I", true)
  | 28 => ("RingCrowdModel", "readDoes", "[I", true)
  | 29 => ("RingCrowdModel", "own", "[I", true)
  | 30 => ("RingCrowdModel", "crowds", "I", false)
  | 31 => ("RingCrowdModel", "crowd", "[I", true)
  | 32 => ("RingCrowdModel", "isStep", "[Z", true)
  | 33 => ("RingCrowdModel", "isOfGoal", "[Z", true)
  | 34 => ("RingCrowdModel", "isMet", "[Z", true)
  | 35 => ("RingCrowdModel", "most", "[I", true)
  | 36 => ("RingCrowdModel", "stands", "[I", true)
  | 37 => ("RingCrowdModel", "doesHere", "[I", true)
  | 38 => ("RingCrowdModel", "from", "[I", true)
  | 39 => ("RingCrowdModel", "trace", "[I", true)
  | _ => ("RingCrowdModel", "traced", "I", false)
def tyX8 : Nat → FieldType := fun k => match k with
  | 0 => .int
  | 1 => .int
  | 2 => .int
  | 3 => .array .int
  | 4 => .array .int
  | 5 => .int
  | 6 => .array .int
  | 7 => .array .int
  | 8 => .array .int
  | 9 => .int
  | 10 => .array .int
  | 11 => .array .int
  | 12 => .array .int
  | 13 => .array .int
  | 14 => .array .int
  | 15 => .array .int
  | 16 => .int
  | 17 => .int
  | 18 => .int
  | 19 => .int
  | 20 => .int
  | 21 => .int
  | 22 => .int
  | 23 => .int
  | 24 => .int
  | 25 => .int
  | 26 => .array .int
  | 27 => .array .int
  | 28 => .array .int
  | 29 => .array .int
  | 30 => .int
  | 31 => .array .int
  | 32 => .array .boolean
  | 33 => .array .boolean
  | 34 => .array .boolean
  | 35 => .array .int
  | 36 => .array .int
  | 37 => .array .int
  | 38 => .array .int
  | 39 => .array .int
  | _ => .int
theorem nmX8 : ∀ a, a < 41 → ∀ b, b < 41 → a ≠ b → (TX8 a).2.1 ≠ (TX8 b).2.1 := by decide +kernel
theorem tyX8_ok : ∀ k, k < 41 → parseFieldDescriptor (TX8 k).2.2.1 = some (tyX8 k) := by decide +kernel
abbrev cX8_in : ByteArray := prog_10_method_2_code
def yX8_in : MethodName := ⟨RX8, "in", "(JJJ)Z"⟩
abbrev cX8_init : ByteArray := prog_10_method_3_code
def yX8_init : MethodName := ⟨RX8, "<init>", "(I)V"⟩
abbrev cX8_isPlace : ByteArray := prog_10_method_4_code
def yX8_isPlace : MethodName := ⟨RX8, "isPlace", "(I)Z"⟩
abbrev cX8_robot : ByteArray := prog_10_method_5_code
def yX8_robot : MethodName := ⟨RX8, "robot", "(I)I"⟩
abbrev cX8_wipe : ByteArray := prog_10_method_6_code
def yX8_wipe : MethodName := ⟨RX8, "wipe", "()I"⟩
abbrev cX8_at : ByteArray := prog_10_method_7_code
def yX8_at : MethodName := ⟨RX8, "at", "(I)I"⟩
abbrev cX8_take : ByteArray := prog_10_method_8_code
def yX8_take : MethodName := ⟨RX8, "take", "()V"⟩
abbrev cX8_rowFrom : ByteArray := prog_10_method_9_code
def yX8_rowFrom : MethodName := ⟨RX8, "rowFrom", "(II[I)I"⟩
abbrev cX8_look : ByteArray := prog_10_method_10_code
def yX8_look : MethodName := ⟨RX8, "look", "(I)I"⟩
abbrev cX8_view : ByteArray := prog_10_method_11_code
def yX8_view : MethodName := ⟨RX8, "view", "(II)I"⟩
abbrev cX8_doing : ByteArray := prog_10_method_12_code
def yX8_doing : MethodName := ⟨RX8, "doing", "(I)I"⟩
abbrev cX8_does : ByteArray := prog_10_method_13_code
def yX8_does : MethodName := ⟨RX8, "does", "(I)I"⟩
abbrev cX8_seen : ByteArray := prog_10_method_14_code
def yX8_seen : MethodName := ⟨RX8, "seen", "(III)I"⟩
abbrev cX8_findName : ByteArray := prog_10_method_15_code
def yX8_findName : MethodName := ⟨RX8, "findName", "()V"⟩
abbrev cX8_same : ByteArray := prog_10_method_16_code
def yX8_same : MethodName := ⟨RX8, "same", "(I)I"⟩
abbrev cX8_name : ByteArray := prog_10_method_17_code
def yX8_name : MethodName := ⟨RX8, "name", "(I)I"⟩
abbrev cX8_isGoal : ByteArray := prog_10_method_18_code
def yX8_isGoal : MethodName := ⟨RX8, "isGoal", "(II)Z"⟩
abbrev cX8_goal : ByteArray := prog_10_method_19_code
def yX8_goal : MethodName := ⟨RX8, "goal", "(I)I"⟩
abbrev cX8_step : ByteArray := prog_10_method_20_code
def yX8_step : MethodName := ⟨RX8, "step", "()I"⟩
abbrev cX8_go : ByteArray := prog_10_method_21_code
def yX8_go : MethodName := ⟨RX8, "go", "(II)I"⟩
abbrev cX8_feed : ByteArray := prog_10_method_22_code
def yX8_feed : MethodName := ⟨RX8, "feed", "(JI)I"⟩
abbrev cX8_byteAt : ByteArray := prog_10_method_23_code
def yX8_byteAt : MethodName := ⟨RX8, "byteAt", "(I)I"⟩
abbrev cX8_isLetter : ByteArray := prog_10_method_24_code
def yX8_isLetter : MethodName := ⟨RX8, "isLetter", "(I)Z"⟩
abbrev cX8_isFigure : ByteArray := prog_10_method_25_code
def yX8_isFigure : MethodName := ⟨RX8, "isFigure", "(I)Z"⟩
abbrev cX8_next : ByteArray := prog_10_method_26_code
def yX8_next : MethodName := ⟨RX8, "next", "()V"⟩
abbrev cX8_bad : ByteArray := prog_10_method_27_code
def yX8_bad : MethodName := ⟨RX8, "bad", "(I)V"⟩
abbrev cX8_need : ByteArray := prog_10_method_28_code
def yX8_need : MethodName := ⟨RX8, "need", "(Z)V"⟩
abbrev cX8_is : ByteArray := prog_10_method_29_code
def yX8_is : MethodName := ⟨RX8, "is", "(I)Z"⟩
abbrev cX8_word : ByteArray := prog_10_method_30_code
def yX8_word : MethodName := ⟨RX8, "word", "()J"⟩
abbrev cX8_aNumber : ByteArray := prog_10_method_31_code
def yX8_aNumber : MethodName := ⟨RX8, "aNumber", "()I"⟩
abbrev cX8_readPair : ByteArray := prog_10_method_32_code
def yX8_readPair : MethodName := ⟨RX8, "readPair", "(I)V"⟩
abbrev cX8_isRead : ByteArray := prog_10_method_33_code
def yX8_isRead : MethodName := ⟨RX8, "isRead", "(I)Z"⟩
abbrev cX8_readRule : ByteArray := prog_10_method_34_code
def yX8_readRule : MethodName := ⟨RX8, "readRule", "()V"⟩
abbrev cX8_rules : ByteArray := prog_10_method_35_code
def yX8_rules : MethodName := ⟨RX8, "rules", "()I"⟩
abbrev cX8_fault : ByteArray := prog_10_method_36_code
def yX8_fault : MethodName := ⟨RX8, "fault", "()I"⟩
abbrev cX8_numberOfName : ByteArray := prog_10_method_37_code
def yX8_numberOfName : MethodName := ⟨RX8, "numberOfName", "()I"⟩
abbrev cX8_listCrowds : ByteArray := prog_10_method_38_code
def yX8_listCrowds : MethodName := ⟨RX8, "listCrowds", "()V"⟩
abbrev cX8_findSteps : ByteArray := prog_10_method_39_code
def yX8_findSteps : MethodName := ⟨RX8, "findSteps", "(II)V"⟩
abbrev cX8_prove : ByteArray := prog_10_method_40_code
def yX8_prove : MethodName := ⟨RX8, "prove", "(II)V"⟩
abbrev cX8_proves : ByteArray := prog_10_method_41_code
def yX8_proves : MethodName := ⟨RX8, "proves", "(III)I"⟩
abbrev cX8_starts : ByteArray := prog_10_method_42_code
def yX8_starts : MethodName := ⟨RX8, "starts", "(III)I"⟩
abbrev cX8_kindNow : ByteArray := prog_10_method_43_code
def yX8_kindNow : MethodName := ⟨RX8, "kindNow", "()I"⟩
abbrev cX8_kind : ByteArray := prog_10_method_44_code
def yX8_kind : MethodName := ⟨RX8, "kind", "()I"⟩
abbrev cX8_as : ByteArray := prog_10_method_45_code
def yX8_as : MethodName := ⟨RX8, "as", "(I)I"⟩
abbrev cX8_began : ByteArray := prog_10_method_46_code
def yX8_began : MethodName := ⟨RX8, "began", "(I)V"⟩
abbrev cX8_sized : ByteArray := prog_10_method_47_code
def yX8_sized : MethodName := ⟨RX8, "sized", "(I)I"⟩
abbrev cX8_places : ByteArray := prog_10_method_48_code
def yX8_places : MethodName := ⟨RX8, "places", "()I"⟩
abbrev cX8_ask : ByteArray := prog_10_method_49_code
def yX8_ask : MethodName := ⟨RX8, "ask", "(I)I"⟩
abbrev cX8_trace : ByteArray := prog_10_method_50_code
def yX8_trace : MethodName := ⟨RX8, "trace", "(I)I"⟩
abbrev cX8_count : ByteArray := prog_10_method_51_code
def yX8_count : MethodName := ⟨RX8, "count", "(I)I"⟩
def RJ13 : String := "java/lang/Long"
def TJ13 : u_T := fun k => match k with
  | _ => ("", "", "", false)
def tyJ13 : Nat → FieldType := fun k => match k with
  | _ => .int
abbrev cJ13_bitCount_95d88 : ByteArray := prog_11_method_50_code
def yJ13_bitCount_95d88 : MethodName := ⟨RJ13, "bitCount", "(J)I"⟩
def RJ9 : String := "java/lang/Math"
def TJ9 : u_T := fun k => match k with
  | _ => ("", "", "", false)
def tyJ9 : Nat → FieldType := fun k => match k with
  | _ => .int
abbrev cJ9_max_7cf53 : ByteArray := prog_12_method_65_code
def yJ9_max_7cf53 : MethodName := ⟨RJ9, "max", "(II)I"⟩
abbrev cJ9_min_7cf53 : ByteArray := prog_12_method_69_code
def yJ9_min_7cf53 : MethodName := ⟨RJ9, "min", "(II)I"⟩
abbrev cJ9_min_f86c9 : ByteArray := prog_12_method_70_code
def yJ9_min_f86c9 : MethodName := ⟨RJ9, "min", "(JJ)J"⟩
def RJ0 : String := "java/lang/String"
def TJ0 : u_T := fun k => match k with
  | _ => ("", "", "", false)
def tyJ0 : Nat → FieldType := fun k => match k with
  | _ => .int
abbrev cJ0_length_8abf5 : ByteArray := prog_13_method_54_code
def yJ0_length_8abf5 : MethodName := ⟨RJ0, "length", "()I"⟩
abbrev cJ0_charAt_5068e : ByteArray := prog_13_method_56_code
def yJ0_charAt_5068e : MethodName := ⟨RJ0, "charAt", "(I)C"⟩
abbrev cJ0_coder_7d493 : ByteArray := prog_13_method_152_code
def yJ0_coder_7d493 : MethodName := ⟨RJ0, "coder", "()B"⟩
abbrev cJ0_isLatin1_aae02 : ByteArray := prog_13_method_154_code
def yJ0_isLatin1_aae02 : MethodName := ⟨RJ0, "isLatin1", "()Z"⟩
abbrev cJ0_checkIndex_df160 : ByteArray := prog_13_method_155_code
def yJ0_checkIndex_df160 : MethodName := ⟨RJ0, "checkIndex", "(II)V"⟩
def RJ1 : String := "java/lang/StringLatin1"
def TJ1 : u_T := fun k => match k with
  | _ => ("", "", "", false)
def tyJ1 : Nat → FieldType := fun k => match k with
  | _ => .int
abbrev cJ1_charAt_3b067 : ByteArray := prog_14_method_2_code
def yJ1_charAt_3b067 : MethodName := ⟨RJ1, "charAt", "([BI)C"⟩
def RJ2 : String := "java/lang/StringUTF16"
def TJ2 : u_T := fun k => match k with
  | _ => ("", "", "", false)
def tyJ2 : Nat → FieldType := fun k => match k with
  | _ => .int
abbrev cJ2_getChar_3b067 : ByteArray := prog_15_method_5_code
def yJ2_getChar_3b067 : MethodName := ⟨RJ2, "getChar", "([BI)C"⟩
abbrev cJ2_length_9d52b : ByteArray := prog_15_method_6_code
def yJ2_length_9d52b : MethodName := ⟨RJ2, "length", "([B)I"⟩
abbrev cJ2_charAt_3b067 : ByteArray := prog_15_method_83_code
def yJ2_charAt_3b067 : MethodName := ⟨RJ2, "charAt", "([BI)C"⟩
abbrev cJ2_checkIndex_2214a : ByteArray := prog_15_method_91_code
def yJ2_checkIndex_2214a : MethodName := ⟨RJ2, "checkIndex", "(I[B)V"⟩
def RJ3 : String := "jdk/internal/util/Preconditions"
def TJ3 : u_T := fun k => match k with
  | _ => ("", "", "", false)
def tyJ3 : Nat → FieldType := fun k => match k with
  | _ => .int
abbrev cJ3_checkIndex_8e157 : ByteArray := prog_16_method_11_code
def yJ3_checkIndex_8e157 : MethodName := ⟨RJ3, "checkIndex", "(IILjava/util/function/BiFunction;)I"⟩
def RL : String := "RingCrowdLaw"
abbrev cL_cell : ByteArray := method_2_code
def yL_cell : MethodName := ⟨RL, "cell", "([II)I"⟩
abbrev cL_law : ByteArray := code
def yL_law : MethodName := ⟨RL, "law", "([I)Z"⟩
