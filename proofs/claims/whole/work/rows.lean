section
-- ===== PART A: goes FIRST, ahead of the names: the tables' words, and 'selects' of the private methods out of them =====
/-- a private method of a class that the tables say can be made, by its rows of tables_1 -/
def lw_okq (q : MethodName × Nat) : Prop := (q.1.cls ≠ "java/lang/invoke/MethodHandle" ∧ q.1.cls ≠ "java/lang/invoke/VarHandle") ∧ Cond.instantiable q.1.cls q.2 ∈ tables_1 ∧ Cond.privateMethod q.1 ∈ tables_1 ∧ Cond.instanceMethod q.1 ∈ tables_1
theorem lw_p0 : lw_okq (⟨"RingCrowd", "noPlace", "(I)Z"⟩, 9) := ⟨⟨by decide +kernel, by decide +kernel⟩, List.mem_of_getElem? (i := 17) (by decide +kernel), List.mem_of_getElem? (i := 207) (by decide +kernel), List.mem_of_getElem? (i := 208) (by decide +kernel)⟩
theorem lw_p1 : lw_okq (⟨"RingCrowd$Book", "find", "(J)I"⟩, 3) := ⟨⟨by decide +kernel, by decide +kernel⟩, List.mem_of_getElem? (i := 158) (by decide +kernel), List.mem_of_getElem? (i := 275) (by decide +kernel), List.mem_of_getElem? (i := 276) (by decide +kernel)⟩
theorem lw_p2 : lw_okq (⟨"RingCrowd$Ring", "isSpread", "(II)Z"⟩, 2) := ⟨⟨by decide +kernel, by decide +kernel⟩, List.mem_of_getElem? (i := 25) (by decide +kernel), List.mem_of_getElem? (i := 310) (by decide +kernel), List.mem_of_getElem? (i := 311) (by decide +kernel)⟩
theorem lw_p3 : lw_okq (⟨"RingCrowd$Ring", "gapAbove", "(II)I"⟩, 2) := ⟨⟨by decide +kernel, by decide +kernel⟩, List.mem_of_getElem? (i := 25) (by decide +kernel), List.mem_of_getElem? (i := 314) (by decide +kernel), List.mem_of_getElem? (i := 315) (by decide +kernel)⟩
theorem lw_p4 : lw_okq (⟨"RingCrowd$Ring", "isSideBySide", "(I)Z"⟩, 2) := ⟨⟨by decide +kernel, by decide +kernel⟩, List.mem_of_getElem? (i := 25) (by decide +kernel), List.mem_of_getElem? (i := 318) (by decide +kernel), List.mem_of_getElem? (i := 319) (by decide +kernel)⟩
theorem lw_p5 : lw_okq (⟨"RingCrowd$Tape", "byteAt", "(I)I"⟩, 6) := ⟨⟨by decide +kernel, by decide +kernel⟩, List.mem_of_getElem? (i := 107) (by decide +kernel), List.mem_of_getElem? (i := 364) (by decide +kernel), List.mem_of_getElem? (i := 365) (by decide +kernel)⟩
theorem lw_p6 : lw_okq (⟨"RingCrowd$Tape", "readNumber", "()V"⟩, 6) := ⟨⟨by decide +kernel, by decide +kernel⟩, List.mem_of_getElem? (i := 107) (by decide +kernel), List.mem_of_getElem? (i := 375) (by decide +kernel), List.mem_of_getElem? (i := 376) (by decide +kernel)⟩
theorem lw_p7 : lw_okq (⟨"RingCrowd$Tape", "readName", "()V"⟩, 6) := ⟨⟨by decide +kernel, by decide +kernel⟩, List.mem_of_getElem? (i := 107) (by decide +kernel), List.mem_of_getElem? (i := 382) (by decide +kernel), List.mem_of_getElem? (i := 383) (by decide +kernel)⟩
theorem lw_p8 : lw_okq (⟨"RingCrowd$Tape", "spells", "(Ljava/lang/String;)Z"⟩, 6) := ⟨⟨by decide +kernel, by decide +kernel⟩, List.mem_of_getElem? (i := 107) (by decide +kernel), List.mem_of_getElem? (i := 387) (by decide +kernel), List.mem_of_getElem? (i := 388) (by decide +kernel)⟩
theorem lw_p9 : lw_okq (⟨"RingCrowd$Reader", "faultAgainst", "(LRingCrowd$Book;)I"⟩, 5) := ⟨⟨by decide +kernel, by decide +kernel⟩, List.mem_of_getElem? (i := 136) (by decide +kernel), List.mem_of_getElem? (i := 442) (by decide +kernel), List.mem_of_getElem? (i := 443) (by decide +kernel)⟩
theorem lw_p10 : lw_okq (⟨"RingCrowd$Reader", "isPlaced", "()Z"⟩, 5) := ⟨⟨by decide +kernel, by decide +kernel⟩, List.mem_of_getElem? (i := 136) (by decide +kernel), List.mem_of_getElem? (i := 446) (by decide +kernel), List.mem_of_getElem? (i := 447) (by decide +kernel)⟩
theorem lw_p11 : lw_okq (⟨"RingCrowd$Reader", "isTooMuch", "(LRingCrowd$Book;)Z"⟩, 5) := ⟨⟨by decide +kernel, by decide +kernel⟩, List.mem_of_getElem? (i := 136) (by decide +kernel), List.mem_of_getElem? (i := 450) (by decide +kernel), List.mem_of_getElem? (i := 451) (by decide +kernel)⟩
theorem lw_p12 : lw_okq (⟨"RingCrowd$Reader", "take", "(LRingCrowd$Book;)V"⟩, 5) := ⟨⟨by decide +kernel, by decide +kernel⟩, List.mem_of_getElem? (i := 136) (by decide +kernel), List.mem_of_getElem? (i := 458) (by decide +kernel), List.mem_of_getElem? (i := 459) (by decide +kernel)⟩
theorem lw_p13 : lw_okq (⟨"RingCrowd$Reader", "takeNumber", "()V"⟩, 5) := ⟨⟨by decide +kernel, by decide +kernel⟩, List.mem_of_getElem? (i := 136) (by decide +kernel), List.mem_of_getElem? (i := 462) (by decide +kernel), List.mem_of_getElem? (i := 463) (by decide +kernel)⟩
theorem lw_p14 : lw_okq (⟨"RingCrowd$Ways", "gather", "(III)V"⟩, 11) := ⟨⟨by decide +kernel, by decide +kernel⟩, List.mem_of_getElem? (i := 47) (by decide +kernel), List.mem_of_getElem? (i := 496) (by decide +kernel), List.mem_of_getElem? (i := 497) (by decide +kernel)⟩
theorem lw_p15 : lw_okq (⟨"RingCrowd$Ways", "markGoals", "()V"⟩, 11) := ⟨⟨by decide +kernel, by decide +kernel⟩, List.mem_of_getElem? (i := 47) (by decide +kernel), List.mem_of_getElem? (i := 501) (by decide +kernel), List.mem_of_getElem? (i := 502) (by decide +kernel)⟩
def lw_privs_1 : List (MethodName × Nat) := [(⟨"RingCrowd", "noPlace", "(I)Z"⟩, 9), (⟨"RingCrowd$Book", "find", "(J)I"⟩, 3), (⟨"RingCrowd$Ring", "isSpread", "(II)Z"⟩, 2), (⟨"RingCrowd$Ring", "gapAbove", "(II)I"⟩, 2), (⟨"RingCrowd$Ring", "isSideBySide", "(I)Z"⟩, 2), (⟨"RingCrowd$Tape", "byteAt", "(I)I"⟩, 6), (⟨"RingCrowd$Tape", "readNumber", "()V"⟩, 6), (⟨"RingCrowd$Tape", "readName", "()V"⟩, 6), (⟨"RingCrowd$Tape", "spells", "(Ljava/lang/String;)Z"⟩, 6), (⟨"RingCrowd$Reader", "faultAgainst", "(LRingCrowd$Book;)I"⟩, 5), (⟨"RingCrowd$Reader", "isPlaced", "()Z"⟩, 5), (⟨"RingCrowd$Reader", "isTooMuch", "(LRingCrowd$Book;)Z"⟩, 5), (⟨"RingCrowd$Reader", "take", "(LRingCrowd$Book;)V"⟩, 5), (⟨"RingCrowd$Reader", "takeNumber", "()V"⟩, 5), (⟨"RingCrowd$Ways", "gather", "(III)V"⟩, 11), (⟨"RingCrowd$Ways", "markGoals", "()V"⟩, 11)]
theorem lw_r1 : ∀ q ∈ lw_privs_1, lw_okq q := List.forall_mem_cons.mpr ⟨lw_p0, List.forall_mem_cons.mpr ⟨lw_p1, List.forall_mem_cons.mpr ⟨lw_p2, List.forall_mem_cons.mpr ⟨lw_p3, List.forall_mem_cons.mpr ⟨lw_p4, List.forall_mem_cons.mpr ⟨lw_p5, List.forall_mem_cons.mpr ⟨lw_p6, List.forall_mem_cons.mpr ⟨lw_p7, List.forall_mem_cons.mpr ⟨lw_p8, List.forall_mem_cons.mpr ⟨lw_p9, List.forall_mem_cons.mpr ⟨lw_p10, List.forall_mem_cons.mpr ⟨lw_p11, List.forall_mem_cons.mpr ⟨lw_p12, List.forall_mem_cons.mpr ⟨lw_p13, List.forall_mem_cons.mpr ⟨lw_p14, List.forall_mem_cons.mpr ⟨lw_p15, fun _ h => absurd h List.not_mem_nil⟩⟩⟩⟩⟩⟩⟩⟩⟩⟩⟩⟩⟩⟩⟩⟩
theorem lw_p16 : lw_okq (⟨"RingCrowd$Ways", "findMoves", "(LRingCrowd$Book;I)V"⟩, 11) := ⟨⟨by decide +kernel, by decide +kernel⟩, List.mem_of_getElem? (i := 47) (by decide +kernel), List.mem_of_getElem? (i := 512) (by decide +kernel), List.mem_of_getElem? (i := 513) (by decide +kernel)⟩
theorem lw_p17 : lw_okq (⟨"RingCrowd$Ways", "wakeOne", "(I)V"⟩, 11) := ⟨⟨by decide +kernel, by decide +kernel⟩, List.mem_of_getElem? (i := 47) (by decide +kernel), List.mem_of_getElem? (i := 519) (by decide +kernel), List.mem_of_getElem? (i := 520) (by decide +kernel)⟩
theorem lw_p18 : lw_okq (⟨"RingCrowd$Ways", "addMoved", "(III)V"⟩, 11) := ⟨⟨by decide +kernel, by decide +kernel⟩, List.mem_of_getElem? (i := 47) (by decide +kernel), List.mem_of_getElem? (i := 523) (by decide +kernel), List.mem_of_getElem? (i := 524) (by decide +kernel)⟩
theorem lw_p19 : lw_okq (⟨"RingCrowd$Ways", "addNext", "(I)V"⟩, 11) := ⟨⟨by decide +kernel, by decide +kernel⟩, List.mem_of_getElem? (i := 47) (by decide +kernel), List.mem_of_getElem? (i := 527) (by decide +kernel), List.mem_of_getElem? (i := 528) (by decide +kernel)⟩
theorem lw_p20 : lw_okq (⟨"RingCrowd$Ways", "wakeSome", "(IZ)V"⟩, 11) := ⟨⟨by decide +kernel, by decide +kernel⟩, List.mem_of_getElem? (i := 47) (by decide +kernel), List.mem_of_getElem? (i := 531) (by decide +kernel), List.mem_of_getElem? (i := 532) (by decide +kernel)⟩
theorem lw_p21 : lw_okq (⟨"RingCrowd$Ways", "wakeAgain", "(IIZ)V"⟩, 11) := ⟨⟨by decide +kernel, by decide +kernel⟩, List.mem_of_getElem? (i := 47) (by decide +kernel), List.mem_of_getElem? (i := 535) (by decide +kernel), List.mem_of_getElem? (i := 536) (by decide +kernel)⟩
theorem lw_p22 : lw_okq (⟨"RingCrowd$Ways", "dropFirst", "(I)V"⟩, 11) := ⟨⟨by decide +kernel, by decide +kernel⟩, List.mem_of_getElem? (i := 47) (by decide +kernel), List.mem_of_getElem? (i := 539) (by decide +kernel), List.mem_of_getElem? (i := 540) (by decide +kernel)⟩
theorem lw_p23 : lw_okq (⟨"RingCrowd$Ways", "numbersOfNext", "()J"⟩, 11) := ⟨⟨by decide +kernel, by decide +kernel⟩, List.mem_of_getElem? (i := 47) (by decide +kernel), List.mem_of_getElem? (i := 543) (by decide +kernel), List.mem_of_getElem? (i := 544) (by decide +kernel)⟩
theorem lw_p24 : lw_okq (⟨"RingCrowd$Ways", "setLinks", "(IIJ)V"⟩, 11) := ⟨⟨by decide +kernel, by decide +kernel⟩, List.mem_of_getElem? (i := 47) (by decide +kernel), List.mem_of_getElem? (i := 551) (by decide +kernel), List.mem_of_getElem? (i := 552) (by decide +kernel)⟩
theorem lw_p25 : lw_okq (⟨"RingCrowd$Ways", "ofGoal", "(I)J"⟩, 11) := ⟨⟨by decide +kernel, by decide +kernel⟩, List.mem_of_getElem? (i := 47) (by decide +kernel), List.mem_of_getElem? (i := 560) (by decide +kernel), List.mem_of_getElem? (i := 561) (by decide +kernel)⟩
theorem lw_p26 : lw_okq (⟨"RingCrowd$Ways", "safeByOne", "(JI)J"⟩, 11) := ⟨⟨by decide +kernel, by decide +kernel⟩, List.mem_of_getElem? (i := 47) (by decide +kernel), List.mem_of_getElem? (i := 564) (by decide +kernel), List.mem_of_getElem? (i := 565) (by decide +kernel)⟩
theorem lw_p27 : lw_okq (⟨"RingCrowd$Ways", "linksOf", "(II)J"⟩, 11) := ⟨⟨by decide +kernel, by decide +kernel⟩, List.mem_of_getElem? (i := 47) (by decide +kernel), List.mem_of_getElem? (i := 568) (by decide +kernel), List.mem_of_getElem? (i := 569) (by decide +kernel)⟩
theorem lw_p28 : lw_okq (⟨"RingCrowd$Ring", "turnsBetween", "(II)I"⟩, 2) := ⟨⟨by decide +kernel, by decide +kernel⟩, List.mem_of_getElem? (i := 25) (by decide +kernel), List.mem_of_getElem? (i := 609) (by decide +kernel), List.mem_of_getElem? (i := 610) (by decide +kernel)⟩
theorem lw_p29 : lw_okq (⟨"RingCrowd$Asks", "sizeOf", "(I)I"⟩, 3) := ⟨⟨by decide +kernel, by decide +kernel⟩, List.mem_of_getElem? (i := 91) (by decide +kernel), List.mem_of_getElem? (i := 630) (by decide +kernel), List.mem_of_getElem? (i := 631) (by decide +kernel)⟩
theorem lw_p30 : lw_okq (⟨"RingCrowd$Asks", "begin", "(I)V"⟩, 3) := ⟨⟨by decide +kernel, by decide +kernel⟩, List.mem_of_getElem? (i := 91) (by decide +kernel), List.mem_of_getElem? (i := 635) (by decide +kernel), List.mem_of_getElem? (i := 636) (by decide +kernel)⟩
theorem lw_p31 : lw_okq (⟨"RingCrowd$Asks", "lentSize", "(I)I"⟩, 3) := ⟨⟨by decide +kernel, by decide +kernel⟩, List.mem_of_getElem? (i := 91) (by decide +kernel), List.mem_of_getElem? (i := 639) (by decide +kernel), List.mem_of_getElem? (i := 640) (by decide +kernel)⟩
def lw_privs_2 : List (MethodName × Nat) := [(⟨"RingCrowd$Ways", "findMoves", "(LRingCrowd$Book;I)V"⟩, 11), (⟨"RingCrowd$Ways", "wakeOne", "(I)V"⟩, 11), (⟨"RingCrowd$Ways", "addMoved", "(III)V"⟩, 11), (⟨"RingCrowd$Ways", "addNext", "(I)V"⟩, 11), (⟨"RingCrowd$Ways", "wakeSome", "(IZ)V"⟩, 11), (⟨"RingCrowd$Ways", "wakeAgain", "(IIZ)V"⟩, 11), (⟨"RingCrowd$Ways", "dropFirst", "(I)V"⟩, 11), (⟨"RingCrowd$Ways", "numbersOfNext", "()J"⟩, 11), (⟨"RingCrowd$Ways", "setLinks", "(IIJ)V"⟩, 11), (⟨"RingCrowd$Ways", "ofGoal", "(I)J"⟩, 11), (⟨"RingCrowd$Ways", "safeByOne", "(JI)J"⟩, 11), (⟨"RingCrowd$Ways", "linksOf", "(II)J"⟩, 11), (⟨"RingCrowd$Ring", "turnsBetween", "(II)I"⟩, 2), (⟨"RingCrowd$Asks", "sizeOf", "(I)I"⟩, 3), (⟨"RingCrowd$Asks", "begin", "(I)V"⟩, 3), (⟨"RingCrowd$Asks", "lentSize", "(I)I"⟩, 3)]
theorem lw_r2 : ∀ q ∈ lw_privs_2, lw_okq q := List.forall_mem_cons.mpr ⟨lw_p16, List.forall_mem_cons.mpr ⟨lw_p17, List.forall_mem_cons.mpr ⟨lw_p18, List.forall_mem_cons.mpr ⟨lw_p19, List.forall_mem_cons.mpr ⟨lw_p20, List.forall_mem_cons.mpr ⟨lw_p21, List.forall_mem_cons.mpr ⟨lw_p22, List.forall_mem_cons.mpr ⟨lw_p23, List.forall_mem_cons.mpr ⟨lw_p24, List.forall_mem_cons.mpr ⟨lw_p25, List.forall_mem_cons.mpr ⟨lw_p26, List.forall_mem_cons.mpr ⟨lw_p27, List.forall_mem_cons.mpr ⟨lw_p28, List.forall_mem_cons.mpr ⟨lw_p29, List.forall_mem_cons.mpr ⟨lw_p30, List.forall_mem_cons.mpr ⟨lw_p31, fun _ h => absurd h List.not_mem_nil⟩⟩⟩⟩⟩⟩⟩⟩⟩⟩⟩⟩⟩⟩⟩⟩
theorem lw_p32 : lw_okq (⟨"RingCrowd$Asks", "markOf", "(I)I"⟩, 3) := ⟨⟨by decide +kernel, by decide +kernel⟩, List.mem_of_getElem? (i := 91) (by decide +kernel), List.mem_of_getElem? (i := 645) (by decide +kernel), List.mem_of_getElem? (i := 646) (by decide +kernel)⟩
theorem lw_p33 : lw_okq (⟨"RingCrowd$Asks", "lentMark", "(I)I"⟩, 3) := ⟨⟨by decide +kernel, by decide +kernel⟩, List.mem_of_getElem? (i := 91) (by decide +kernel), List.mem_of_getElem? (i := 649) (by decide +kernel), List.mem_of_getElem? (i := 650) (by decide +kernel)⟩
theorem lw_p34 : lw_okq (⟨"RingCrowdModel", "isPlace", "(I)Z"⟩, 41) := ⟨⟨by decide +kernel, by decide +kernel⟩, List.mem_of_getElem? (i := 674) (by decide +kernel), List.mem_of_getElem? (i := 808) (by decide +kernel), List.mem_of_getElem? (i := 809) (by decide +kernel)⟩
theorem lw_p35 : lw_okq (⟨"RingCrowdModel", "take", "()V"⟩, 41) := ⟨⟨by decide +kernel, by decide +kernel⟩, List.mem_of_getElem? (i := 674) (by decide +kernel), List.mem_of_getElem? (i := 830) (by decide +kernel), List.mem_of_getElem? (i := 831) (by decide +kernel)⟩
theorem lw_p36 : lw_okq (⟨"RingCrowdModel", "look", "(I)I"⟩, 41) := ⟨⟨by decide +kernel, by decide +kernel⟩, List.mem_of_getElem? (i := 674) (by decide +kernel), List.mem_of_getElem? (i := 834) (by decide +kernel), List.mem_of_getElem? (i := 835) (by decide +kernel)⟩
theorem lw_p37 : lw_okq (⟨"RingCrowdModel", "rowFrom", "(II[I)I"⟩, 41) := ⟨⟨by decide +kernel, by decide +kernel⟩, List.mem_of_getElem? (i := 674) (by decide +kernel), List.mem_of_getElem? (i := 838) (by decide +kernel), List.mem_of_getElem? (i := 839) (by decide +kernel)⟩
theorem lw_p38 : lw_okq (⟨"RingCrowdModel", "doing", "(I)I"⟩, 41) := ⟨⟨by decide +kernel, by decide +kernel⟩, List.mem_of_getElem? (i := 674) (by decide +kernel), List.mem_of_getElem? (i := 846) (by decide +kernel), List.mem_of_getElem? (i := 847) (by decide +kernel)⟩
theorem lw_p39 : lw_okq (⟨"RingCrowdModel", "findName", "()V"⟩, 41) := ⟨⟨by decide +kernel, by decide +kernel⟩, List.mem_of_getElem? (i := 674) (by decide +kernel), List.mem_of_getElem? (i := 854) (by decide +kernel), List.mem_of_getElem? (i := 855) (by decide +kernel)⟩
theorem lw_p40 : lw_okq (⟨"RingCrowdModel", "seen", "(III)I"⟩, 41) := ⟨⟨by decide +kernel, by decide +kernel⟩, List.mem_of_getElem? (i := 674) (by decide +kernel), List.mem_of_getElem? (i := 858) (by decide +kernel), List.mem_of_getElem? (i := 859) (by decide +kernel)⟩
theorem lw_p41 : lw_okq (⟨"RingCrowdModel", "isGoal", "(II)Z"⟩, 41) := ⟨⟨by decide +kernel, by decide +kernel⟩, List.mem_of_getElem? (i := 674) (by decide +kernel), List.mem_of_getElem? (i := 867) (by decide +kernel), List.mem_of_getElem? (i := 868) (by decide +kernel)⟩
theorem lw_p42 : lw_okq (⟨"RingCrowdModel", "next", "()V"⟩, 41) := ⟨⟨by decide +kernel, by decide +kernel⟩, List.mem_of_getElem? (i := 674) (by decide +kernel), List.mem_of_getElem? (i := 890) (by decide +kernel), List.mem_of_getElem? (i := 891) (by decide +kernel)⟩
theorem lw_p43 : lw_okq (⟨"RingCrowdModel", "byteAt", "(I)I"⟩, 41) := ⟨⟨by decide +kernel, by decide +kernel⟩, List.mem_of_getElem? (i := 674) (by decide +kernel), List.mem_of_getElem? (i := 894) (by decide +kernel), List.mem_of_getElem? (i := 895) (by decide +kernel)⟩
theorem lw_p44 : lw_okq (⟨"RingCrowdModel", "readRule", "()V"⟩, 41) := ⟨⟨by decide +kernel, by decide +kernel⟩, List.mem_of_getElem? (i := 674) (by decide +kernel), List.mem_of_getElem? (i := 904) (by decide +kernel), List.mem_of_getElem? (i := 905) (by decide +kernel)⟩
theorem lw_p45 : lw_okq (⟨"RingCrowdModel", "word", "()J"⟩, 41) := ⟨⟨by decide +kernel, by decide +kernel⟩, List.mem_of_getElem? (i := 674) (by decide +kernel), List.mem_of_getElem? (i := 908) (by decide +kernel), List.mem_of_getElem? (i := 909) (by decide +kernel)⟩
theorem lw_p46 : lw_okq (⟨"RingCrowdModel", "bad", "(I)V"⟩, 41) := ⟨⟨by decide +kernel, by decide +kernel⟩, List.mem_of_getElem? (i := 674) (by decide +kernel), List.mem_of_getElem? (i := 913) (by decide +kernel), List.mem_of_getElem? (i := 914) (by decide +kernel)⟩
theorem lw_p47 : lw_okq (⟨"RingCrowdModel", "need", "(Z)V"⟩, 41) := ⟨⟨by decide +kernel, by decide +kernel⟩, List.mem_of_getElem? (i := 674) (by decide +kernel), List.mem_of_getElem? (i := 917) (by decide +kernel), List.mem_of_getElem? (i := 918) (by decide +kernel)⟩
def lw_privs_3 : List (MethodName × Nat) := [(⟨"RingCrowd$Asks", "markOf", "(I)I"⟩, 3), (⟨"RingCrowd$Asks", "lentMark", "(I)I"⟩, 3), (⟨"RingCrowdModel", "isPlace", "(I)Z"⟩, 41), (⟨"RingCrowdModel", "take", "()V"⟩, 41), (⟨"RingCrowdModel", "look", "(I)I"⟩, 41), (⟨"RingCrowdModel", "rowFrom", "(II[I)I"⟩, 41), (⟨"RingCrowdModel", "doing", "(I)I"⟩, 41), (⟨"RingCrowdModel", "findName", "()V"⟩, 41), (⟨"RingCrowdModel", "seen", "(III)I"⟩, 41), (⟨"RingCrowdModel", "isGoal", "(II)Z"⟩, 41), (⟨"RingCrowdModel", "next", "()V"⟩, 41), (⟨"RingCrowdModel", "byteAt", "(I)I"⟩, 41), (⟨"RingCrowdModel", "readRule", "()V"⟩, 41), (⟨"RingCrowdModel", "word", "()J"⟩, 41), (⟨"RingCrowdModel", "bad", "(I)V"⟩, 41), (⟨"RingCrowdModel", "need", "(Z)V"⟩, 41)]
theorem lw_r3 : ∀ q ∈ lw_privs_3, lw_okq q := List.forall_mem_cons.mpr ⟨lw_p32, List.forall_mem_cons.mpr ⟨lw_p33, List.forall_mem_cons.mpr ⟨lw_p34, List.forall_mem_cons.mpr ⟨lw_p35, List.forall_mem_cons.mpr ⟨lw_p36, List.forall_mem_cons.mpr ⟨lw_p37, List.forall_mem_cons.mpr ⟨lw_p38, List.forall_mem_cons.mpr ⟨lw_p39, List.forall_mem_cons.mpr ⟨lw_p40, List.forall_mem_cons.mpr ⟨lw_p41, List.forall_mem_cons.mpr ⟨lw_p42, List.forall_mem_cons.mpr ⟨lw_p43, List.forall_mem_cons.mpr ⟨lw_p44, List.forall_mem_cons.mpr ⟨lw_p45, List.forall_mem_cons.mpr ⟨lw_p46, List.forall_mem_cons.mpr ⟨lw_p47, fun _ h => absurd h List.not_mem_nil⟩⟩⟩⟩⟩⟩⟩⟩⟩⟩⟩⟩⟩⟩⟩⟩
theorem lw_p48 : lw_okq (⟨"RingCrowdModel", "readPair", "(I)V"⟩, 41) := ⟨⟨by decide +kernel, by decide +kernel⟩, List.mem_of_getElem? (i := 674) (by decide +kernel), List.mem_of_getElem? (i := 921) (by decide +kernel), List.mem_of_getElem? (i := 922) (by decide +kernel)⟩
theorem lw_p49 : lw_okq (⟨"RingCrowdModel", "aNumber", "()I"⟩, 41) := ⟨⟨by decide +kernel, by decide +kernel⟩, List.mem_of_getElem? (i := 674) (by decide +kernel), List.mem_of_getElem? (i := 925) (by decide +kernel), List.mem_of_getElem? (i := 926) (by decide +kernel)⟩
theorem lw_p50 : lw_okq (⟨"RingCrowdModel", "is", "(I)Z"⟩, 41) := ⟨⟨by decide +kernel, by decide +kernel⟩, List.mem_of_getElem? (i := 674) (by decide +kernel), List.mem_of_getElem? (i := 929) (by decide +kernel), List.mem_of_getElem? (i := 930) (by decide +kernel)⟩
theorem lw_p51 : lw_okq (⟨"RingCrowdModel", "isRead", "(I)Z"⟩, 41) := ⟨⟨by decide +kernel, by decide +kernel⟩, List.mem_of_getElem? (i := 674) (by decide +kernel), List.mem_of_getElem? (i := 936) (by decide +kernel), List.mem_of_getElem? (i := 937) (by decide +kernel)⟩
theorem lw_p52 : lw_okq (⟨"RingCrowdModel", "prove", "(II)V"⟩, 41) := ⟨⟨by decide +kernel, by decide +kernel⟩, List.mem_of_getElem? (i := 674) (by decide +kernel), List.mem_of_getElem? (i := 950) (by decide +kernel), List.mem_of_getElem? (i := 951) (by decide +kernel)⟩
theorem lw_p53 : lw_okq (⟨"RingCrowdModel", "listCrowds", "()V"⟩, 41) := ⟨⟨by decide +kernel, by decide +kernel⟩, List.mem_of_getElem? (i := 674) (by decide +kernel), List.mem_of_getElem? (i := 954) (by decide +kernel), List.mem_of_getElem? (i := 955) (by decide +kernel)⟩
theorem lw_p54 : lw_okq (⟨"RingCrowdModel", "numberOfName", "()I"⟩, 41) := ⟨⟨by decide +kernel, by decide +kernel⟩, List.mem_of_getElem? (i := 674) (by decide +kernel), List.mem_of_getElem? (i := 958) (by decide +kernel), List.mem_of_getElem? (i := 959) (by decide +kernel)⟩
theorem lw_p55 : lw_okq (⟨"RingCrowdModel", "findSteps", "(II)V"⟩, 41) := ⟨⟨by decide +kernel, by decide +kernel⟩, List.mem_of_getElem? (i := 674) (by decide +kernel), List.mem_of_getElem? (i := 962) (by decide +kernel), List.mem_of_getElem? (i := 963) (by decide +kernel)⟩
theorem lw_p56 : lw_okq (⟨"RingCrowdModel", "kindNow", "()I"⟩, 41) := ⟨⟨by decide +kernel, by decide +kernel⟩, List.mem_of_getElem? (i := 674) (by decide +kernel), List.mem_of_getElem? (i := 974) (by decide +kernel), List.mem_of_getElem? (i := 975) (by decide +kernel)⟩
theorem lw_p57 : lw_okq (⟨"RingCrowdModel", "same", "(I)I"⟩, 41) := ⟨⟨by decide +kernel, by decide +kernel⟩, List.mem_of_getElem? (i := 674) (by decide +kernel), List.mem_of_getElem? (i := 978) (by decide +kernel), List.mem_of_getElem? (i := 979) (by decide +kernel)⟩
theorem lw_p58 : lw_okq (⟨"RingCrowdModel", "sized", "(I)I"⟩, 41) := ⟨⟨by decide +kernel, by decide +kernel⟩, List.mem_of_getElem? (i := 674) (by decide +kernel), List.mem_of_getElem? (i := 992) (by decide +kernel), List.mem_of_getElem? (i := 993) (by decide +kernel)⟩
theorem lw_p59 : lw_okq (⟨"RingCrowdModel", "began", "(I)V"⟩, 41) := ⟨⟨by decide +kernel, by decide +kernel⟩, List.mem_of_getElem? (i := 674) (by decide +kernel), List.mem_of_getElem? (i := 996) (by decide +kernel), List.mem_of_getElem? (i := 997) (by decide +kernel)⟩
theorem lw_p60 : lw_okq (⟨"RingCrowdModel", "places", "()I"⟩, 41) := ⟨⟨by decide +kernel, by decide +kernel⟩, List.mem_of_getElem? (i := 674) (by decide +kernel), List.mem_of_getElem? (i := 1000) (by decide +kernel), List.mem_of_getElem? (i := 1001) (by decide +kernel)⟩
def lw_privs_4 : List (MethodName × Nat) := [(⟨"RingCrowdModel", "readPair", "(I)V"⟩, 41), (⟨"RingCrowdModel", "aNumber", "()I"⟩, 41), (⟨"RingCrowdModel", "is", "(I)Z"⟩, 41), (⟨"RingCrowdModel", "isRead", "(I)Z"⟩, 41), (⟨"RingCrowdModel", "prove", "(II)V"⟩, 41), (⟨"RingCrowdModel", "listCrowds", "()V"⟩, 41), (⟨"RingCrowdModel", "numberOfName", "()I"⟩, 41), (⟨"RingCrowdModel", "findSteps", "(II)V"⟩, 41), (⟨"RingCrowdModel", "kindNow", "()I"⟩, 41), (⟨"RingCrowdModel", "same", "(I)I"⟩, 41), (⟨"RingCrowdModel", "sized", "(I)I"⟩, 41), (⟨"RingCrowdModel", "began", "(I)V"⟩, 41), (⟨"RingCrowdModel", "places", "()I"⟩, 41)]
theorem lw_r4 : ∀ q ∈ lw_privs_4, lw_okq q := List.forall_mem_cons.mpr ⟨lw_p48, List.forall_mem_cons.mpr ⟨lw_p49, List.forall_mem_cons.mpr ⟨lw_p50, List.forall_mem_cons.mpr ⟨lw_p51, List.forall_mem_cons.mpr ⟨lw_p52, List.forall_mem_cons.mpr ⟨lw_p53, List.forall_mem_cons.mpr ⟨lw_p54, List.forall_mem_cons.mpr ⟨lw_p55, List.forall_mem_cons.mpr ⟨lw_p56, List.forall_mem_cons.mpr ⟨lw_p57, List.forall_mem_cons.mpr ⟨lw_p58, List.forall_mem_cons.mpr ⟨lw_p59, List.forall_mem_cons.mpr ⟨lw_p60, fun _ h => absurd h List.not_mem_nil⟩⟩⟩⟩⟩⟩⟩⟩⟩⟩⟩⟩⟩
def lw_privs : List (MethodName × Nat) := lw_privs_1 ++ (lw_privs_2 ++ (lw_privs_3 ++ (lw_privs_4)))
def lw_tbl : List Cond := k2_sels lw_privs ++ tables_1
theorem lw_privs_ok : ∀ q ∈ lw_privs, lw_okq q := by
  show ∀ q ∈ lw_privs_1 ++ (lw_privs_2 ++ (lw_privs_3 ++ (lw_privs_4))), lw_okq q
  exact List.forall_mem_append.mpr ⟨lw_r1, List.forall_mem_append.mpr ⟨lw_r2, List.forall_mem_append.mpr ⟨lw_r3, lw_r4⟩⟩⟩
def RX0 : String := "RingCrowd$Asks"
def TX0 : u_T := fun k => match k with
  | 0 => ("RingCrowd$Asks", "ring", "LRingCrowd$Ring;", true)
  | 1 => ("RingCrowd$Asks", "begun", "[I", true)
  | _ => ("RingCrowd$Asks", "length", "I", false)
def tyX0 : Nat → FieldType := fun k => match k with
  | 0 => .object "RingCrowd$Ring"
  | 1 => .array .int
  | _ => .int
theorem nmX0 : ∀ a, a < 3 → ∀ b, b < 3 → a ≠ b → (TX0 a).2.1 ≠ (TX0 b).2.1 := by decide +kernel
theorem tyX0_ok : ∀ k, k < 3 → parseFieldDescriptor (TX0 k).2.2.1 = some (tyX0 k) := by decide +kernel
abbrev cX0_init : ByteArray := prog_2_method_1_code
def yX0_init : MethodName := ⟨RX0, "<init>", "(LRingCrowd$Ring;)V"⟩
abbrev cX0_answer : ByteArray := prog_2_method_2_code
def yX0_answer : MethodName := ⟨RX0, "answer", "(II)I"⟩
abbrev cX0_traced : ByteArray := prog_2_method_3_code
def yX0_traced : MethodName := ⟨RX0, "traced", "(I)I"⟩
abbrev cX0_begin : ByteArray := prog_2_method_4_code
def yX0_begin : MethodName := ⟨RX0, "begin", "(I)V"⟩
abbrev cX0_sizeOf : ByteArray := prog_2_method_5_code
def yX0_sizeOf : MethodName := ⟨RX0, "sizeOf", "(I)I"⟩
abbrev cX0_lentSize : ByteArray := prog_2_method_6_code
def yX0_lentSize : MethodName := ⟨RX0, "lentSize", "(I)I"⟩
abbrev cX0_markOf : ByteArray := prog_2_method_7_code
def yX0_markOf : MethodName := ⟨RX0, "markOf", "(I)I"⟩
abbrev cX0_lentMark : ByteArray := prog_2_method_8_code
def yX0_lentMark : MethodName := ⟨RX0, "lentMark", "(I)I"⟩
def RX1 : String := "RingCrowd$Book"
def TX1 : u_T := fun k => match k with
  | 0 => ("RingCrowd$Book", "rows", "[J", true)
  | 1 => ("RingCrowd$Book", "acts", "[I", true)
  | _ => ("RingCrowd$Book", "size", "I", false)
def tyX1 : Nat → FieldType := fun k => match k with
  | 0 => .array .long
  | 1 => .array .int
  | _ => .int
theorem nmX1 : ∀ a, a < 3 → ∀ b, b < 3 → a ≠ b → (TX1 a).2.1 ≠ (TX1 b).2.1 := by decide +kernel
theorem tyX1_ok : ∀ k, k < 3 → parseFieldDescriptor (TX1 k).2.2.1 = some (tyX1 k) := by decide +kernel
abbrev cX1_init : ByteArray := prog_3_method_1_code
def yX1_init : MethodName := ⟨RX1, "<init>", "()V"⟩
abbrev cX1_clear : ByteArray := prog_3_method_2_code
def yX1_clear : MethodName := ⟨RX1, "clear", "()V"⟩
abbrev cX1_put : ByteArray := prog_3_method_3_code
def yX1_put : MethodName := ⟨RX1, "put", "(JI)V"⟩
abbrev cX1_has : ByteArray := prog_3_method_4_code
def yX1_has : MethodName := ⟨RX1, "has", "(J)Z"⟩
abbrev cX1_find : ByteArray := prog_3_method_5_code
def yX1_find : MethodName := ⟨RX1, "find", "(J)I"⟩
abbrev cX1_moveAt : ByteArray := prog_3_method_6_code
def yX1_moveAt : MethodName := ⟨RX1, "moveAt", "(LRingCrowd$Ring;II)I"⟩
def RX2 : String := "RingCrowd$Reader"
def TX2 : u_T := fun k => match k with
  | 0 => ("RingCrowd$Reader", "tape", "LRingCrowd$Tape;", true)
  | 1 => ("RingCrowd$Reader", "wants", "I", false)
  | 2 => ("RingCrowd$Reader", "pairs", "I", false)
  | 3 => ("RingCrowd$Reader", "sees", "I", false)
  | _ => ("RingCrowd$Reader", "row", "J", false)
def tyX2 : Nat → FieldType := fun k => match k with
  | 0 => .object "RingCrowd$Tape"
  | 1 => .int
  | 2 => .int
  | 3 => .int
  | _ => .long
theorem nmX2 : ∀ a, a < 5 → ∀ b, b < 5 → a ≠ b → (TX2 a).2.1 ≠ (TX2 b).2.1 := by decide +kernel
theorem tyX2_ok : ∀ k, k < 5 → parseFieldDescriptor (TX2 k).2.2.1 = some (tyX2 k) := by decide +kernel
abbrev cX2_init : ByteArray := prog_4_method_1_code
def yX2_init : MethodName := ⟨RX2, "<init>", "(LRingCrowd$Tape;)V"⟩
abbrev cX2_read : ByteArray := prog_4_method_2_code
def yX2_read : MethodName := ⟨RX2, "read", "(LRingCrowd$Book;)I"⟩
abbrev cX2_faultAgainst : ByteArray := prog_4_method_3_code
def yX2_faultAgainst : MethodName := ⟨RX2, "faultAgainst", "(LRingCrowd$Book;)I"⟩
abbrev cX2_isPlaced : ByteArray := prog_4_method_4_code
def yX2_isPlaced : MethodName := ⟨RX2, "isPlaced", "()Z"⟩
abbrev cX2_isTooMuch : ByteArray := prog_4_method_5_code
def yX2_isTooMuch : MethodName := ⟨RX2, "isTooMuch", "(LRingCrowd$Book;)Z"⟩
abbrev cX2_take : ByteArray := prog_4_method_6_code
def yX2_take : MethodName := ⟨RX2, "take", "(LRingCrowd$Book;)V"⟩
abbrev cX2_takeNumber : ByteArray := prog_4_method_7_code
def yX2_takeNumber : MethodName := ⟨RX2, "takeNumber", "()V"⟩
def RX3 : String := "RingCrowd$Ring"
def TX3 : u_T := fun k => match k with
  | 0 => ("RingCrowd$Ring", "places", "I", true)
  | _ => ("RingCrowd$Ring", "mask", "I", true)
def tyX3 : Nat → FieldType := fun k => match k with
  | 0 => .int
  | _ => .int
theorem nmX3 : ∀ a, a < 2 → ∀ b, b < 2 → a ≠ b → (TX3 a).2.1 ≠ (TX3 b).2.1 := by decide +kernel
theorem tyX3_ok : ∀ k, k < 2 → parseFieldDescriptor (TX3 k).2.2.1 = some (tyX3 k) := by decide +kernel
abbrev cX3_init : ByteArray := prog_5_method_1_code
def yX3_init : MethodName := ⟨RX3, "<init>", "(I)V"⟩
abbrev cX3_oneAt : ByteArray := prog_5_method_2_code
def yX3_oneAt : MethodName := ⟨RX3, "oneAt", "(I)I"⟩
abbrev cX3_manyAt : ByteArray := prog_5_method_3_code
def yX3_manyAt : MethodName := ⟨RX3, "manyAt", "(II)I"⟩
abbrev cX3_beside : ByteArray := prog_5_method_4_code
def yX3_beside : MethodName := ⟨RX3, "beside", "(II)I"⟩
abbrev cX3_shift : ByteArray := prog_5_method_5_code
def yX3_shift : MethodName := ⟨RX3, "shift", "(II)I"⟩
abbrev cX3_robotsIn : ByteArray := prog_5_method_6_code
def yX3_robotsIn : MethodName := ⟨RX3, "robotsIn", "(I)I"⟩
abbrev cX3_takenIn : ByteArray := prog_5_method_7_code
def yX3_takenIn : MethodName := ⟨RX3, "takenIn", "(I)I"⟩
abbrev cX3_turned : ByteArray := prog_5_method_8_code
def yX3_turned : MethodName := ⟨RX3, "turned", "(I)I"⟩
abbrev cX3_mirrored : ByteArray := prog_5_method_9_code
def yX3_mirrored : MethodName := ⟨RX3, "mirrored", "(I)I"⟩
abbrev cX3_nameOf : ByteArray := prog_5_method_10_code
def yX3_nameOf : MethodName := ⟨RX3, "nameOf", "(I)I"⟩
abbrev cX3_turnsOf : ByteArray := prog_5_method_11_code
def yX3_turnsOf : MethodName := ⟨RX3, "turnsOf", "(I)I"⟩
abbrev cX3_mirrorsOf : ByteArray := prog_5_method_12_code
def yX3_mirrorsOf : MethodName := ⟨RX3, "mirrorsOf", "(I)I"⟩
abbrev cX3_turnsBetween : ByteArray := prog_5_method_13_code
def yX3_turnsBetween : MethodName := ⟨RX3, "turnsBetween", "(II)I"⟩
abbrev cX3_kindOf : ByteArray := prog_5_method_14_code
def yX3_kindOf : MethodName := ⟨RX3, "kindOf", "(I)I"⟩
abbrev cX3_rowFrom : ByteArray := prog_5_method_15_code
def yX3_rowFrom : MethodName := ⟨RX3, "rowFrom", "(III)J"⟩
abbrev cX3_viewFrom : ByteArray := prog_5_method_16_code
def yX3_viewFrom : MethodName := ⟨RX3, "viewFrom", "(II)J"⟩
abbrev cX3_isOfGoal : ByteArray := prog_5_method_17_code
def yX3_isOfGoal : MethodName := ⟨RX3, "isOfGoal", "(II)Z"⟩
abbrev cX3_isSpread : ByteArray := prog_5_method_18_code
def yX3_isSpread : MethodName := ⟨RX3, "isSpread", "(II)Z"⟩
abbrev cX3_gapAbove : ByteArray := prog_5_method_19_code
def yX3_gapAbove : MethodName := ⟨RX3, "gapAbove", "(II)I"⟩
abbrev cX3_isSideBySide : ByteArray := prog_5_method_20_code
def yX3_isSideBySide : MethodName := ⟨RX3, "isSideBySide", "(I)Z"⟩
def RX4 : String := "RingCrowd$Row"
def TX4 : u_T := fun k => match k with
  | _ => ("", "", "", false)
def tyX4 : Nat → FieldType := fun k => match k with
  | _ => .int
theorem nmX4 : ∀ a, a < 0 → ∀ b, b < 0 → a ≠ b → (TX4 a).2.1 ≠ (TX4 b).2.1 := by decide +kernel
theorem tyX4_ok : ∀ k, k < 0 → parseFieldDescriptor (TX4 k).2.2.1 = some (tyX4 k) := by decide +kernel
abbrev cX4_with : ByteArray := prog_6_method_2_code
def yX4_with : MethodName := ⟨RX4, "with", "(JI)J"⟩
abbrev cX4_item : ByteArray := prog_6_method_3_code
def yX4_item : MethodName := ⟨RX4, "item", "(JI)I"⟩
def RX5 : String := "RingCrowd$Tape"
def TX5 : u_T := fun k => match k with
  | 0 => ("RingCrowd$Tape", "bytes", "[I", true)
  | 1 => ("RingCrowd$Tape", "length", "I", false)
  | 2 => ("RingCrowd$Tape", "token", "I", false)
  | 3 => ("RingCrowd$Tape", "from", "I", false)
  | 4 => ("RingCrowd$Tape", "value", "I", false)
  | _ => ("RingCrowd$Tape", "behind", "I", false)
def tyX5 : Nat → FieldType := fun k => match k with
  | 0 => .array .int
  | 1 => .int
  | 2 => .int
  | 3 => .int
  | 4 => .int
  | _ => .int
theorem nmX5 : ∀ a, a < 6 → ∀ b, b < 6 → a ≠ b → (TX5 a).2.1 ≠ (TX5 b).2.1 := by decide +kernel
theorem tyX5_ok : ∀ k, k < 6 → parseFieldDescriptor (TX5 k).2.2.1 = some (tyX5 k) := by decide +kernel
abbrev cX5_init : ByteArray := prog_7_method_1_code
def yX5_init : MethodName := ⟨RX5, "<init>", "()V"⟩
abbrev cX5_clear : ByteArray := prog_7_method_2_code
def yX5_clear : MethodName := ⟨RX5, "clear", "()V"⟩
abbrev cX5_rewind : ByteArray := prog_7_method_3_code
def yX5_rewind : MethodName := ⟨RX5, "rewind", "()V"⟩
abbrev cX5_append : ByteArray := prog_7_method_4_code
def yX5_append : MethodName := ⟨RX5, "append", "(JI)Z"⟩
abbrev cX5_readToken : ByteArray := prog_7_method_5_code
def yX5_readToken : MethodName := ⟨RX5, "readToken", "()V"⟩
abbrev cX5_readNumber : ByteArray := prog_7_method_6_code
def yX5_readNumber : MethodName := ⟨RX5, "readNumber", "()V"⟩
abbrev cX5_readName : ByteArray := prog_7_method_7_code
def yX5_readName : MethodName := ⟨RX5, "readName", "()V"⟩
abbrev cX5_spells : ByteArray := prog_7_method_8_code
def yX5_spells : MethodName := ⟨RX5, "spells", "(Ljava/lang/String;)Z"⟩
abbrev cX5_byteAt : ByteArray := prog_7_method_9_code
def yX5_byteAt : MethodName := ⟨RX5, "byteAt", "(I)I"⟩
abbrev cX5_isBlank : ByteArray := prog_7_method_10_code
def yX5_isBlank : MethodName := ⟨RX5, "isBlank", "(I)Z"⟩
abbrev cX5_isFigure : ByteArray := prog_7_method_11_code
def yX5_isFigure : MethodName := ⟨RX5, "isFigure", "(I)Z"⟩
abbrev cX5_isLetter : ByteArray := prog_7_method_12_code
def yX5_isLetter : MethodName := ⟨RX5, "isLetter", "(I)Z"⟩
def RX6 : String := "RingCrowd$Ways"
def TX6 : u_T := fun k => match k with
  | 0 => ("RingCrowd$Ways", "ring", "LRingCrowd$Ring;", true)
  | 1 => ("RingCrowd$Ways", "names", "[I", true)
  | 2 => ("RingCrowd$Ways", "goals", "[J", true)
  | 3 => ("RingCrowd$Ways", "links", "[J", true)
  | 4 => ("RingCrowd$Ways", "linked", "[Z", true)
  | 5 => ("RingCrowd$Ways", "ups", "[I", true)
  | 6 => ("RingCrowd$Ways", "downs", "[I", true)
  | 7 => ("RingCrowd$Ways", "next", "[I", true)
  | 8 => ("RingCrowd$Ways", "robots", "I", false)
  | 9 => ("RingCrowd$Ways", "size", "I", false)
  | _ => ("RingCrowd$Ways", "nexts", "I", false)
def tyX6 : Nat → FieldType := fun k => match k with
  | 0 => .object "RingCrowd$Ring"
  | 1 => .array .int
  | 2 => .array .long
  | 3 => .array .long
  | 4 => .array .boolean
  | 5 => .array .int
  | 6 => .array .int
  | 7 => .array .int
  | 8 => .int
  | 9 => .int
  | _ => .int
theorem nmX6 : ∀ a, a < 11 → ∀ b, b < 11 → a ≠ b → (TX6 a).2.1 ≠ (TX6 b).2.1 := by decide +kernel
theorem tyX6_ok : ∀ k, k < 11 → parseFieldDescriptor (TX6 k).2.2.1 = some (tyX6 k) := by decide +kernel
abbrev cX6_init : ByteArray := prog_8_method_1_code
def yX6_init : MethodName := ⟨RX6, "<init>", "(LRingCrowd$Ring;)V"⟩
abbrev cX6_forgetRules : ByteArray := prog_8_method_2_code
def yX6_forgetRules : MethodName := ⟨RX6, "forgetRules", "()V"⟩
abbrev cX6_gatherFor : ByteArray := prog_8_method_3_code
def yX6_gatherFor : MethodName := ⟨RX6, "gatherFor", "(I)V"⟩
abbrev cX6_gather : ByteArray := prog_8_method_4_code
def yX6_gather : MethodName := ⟨RX6, "gather", "(III)V"⟩
abbrev cX6_markGoals : ByteArray := prog_8_method_5_code
def yX6_markGoals : MethodName := ⟨RX6, "markGoals", "()V"⟩
abbrev cX6_numberOf : ByteArray := prog_8_method_6_code
def yX6_numberOf : MethodName := ⟨RX6, "numberOf", "(I)I"⟩
abbrev cX6_linkBy : ByteArray := prog_8_method_7_code
def yX6_linkBy : MethodName := ⟨RX6, "linkBy", "(LRingCrowd$Book;I)V"⟩
abbrev cX6_numbersOfNext : ByteArray := prog_8_method_8_code
def yX6_numbersOfNext : MethodName := ⟨RX6, "numbersOfNext", "()J"⟩
abbrev cX6_findMoves : ByteArray := prog_8_method_9_code
def yX6_findMoves : MethodName := ⟨RX6, "findMoves", "(LRingCrowd$Book;I)V"⟩
abbrev cX6_addNext : ByteArray := prog_8_method_10_code
def yX6_addNext : MethodName := ⟨RX6, "addNext", "(I)V"⟩
abbrev cX6_addMoved : ByteArray := prog_8_method_11_code
def yX6_addMoved : MethodName := ⟨RX6, "addMoved", "(III)V"⟩
abbrev cX6_wakeOne : ByteArray := prog_8_method_12_code
def yX6_wakeOne : MethodName := ⟨RX6, "wakeOne", "(I)V"⟩
abbrev cX6_wakeSome : ByteArray := prog_8_method_13_code
def yX6_wakeSome : MethodName := ⟨RX6, "wakeSome", "(IZ)V"⟩
abbrev cX6_wakeAgain : ByteArray := prog_8_method_14_code
def yX6_wakeAgain : MethodName := ⟨RX6, "wakeAgain", "(IIZ)V"⟩
abbrev cX6_dropFirst : ByteArray := prog_8_method_15_code
def yX6_dropFirst : MethodName := ⟨RX6, "dropFirst", "(I)V"⟩
abbrev cX6_setLinks : ByteArray := prog_8_method_16_code
def yX6_setLinks : MethodName := ⟨RX6, "setLinks", "(IIJ)V"⟩
abbrev cX6_linksOf : ByteArray := prog_8_method_17_code
def yX6_linksOf : MethodName := ⟨RX6, "linksOf", "(II)J"⟩
abbrev cX6_ofGoal : ByteArray := prog_8_method_18_code
def yX6_ofGoal : MethodName := ⟨RX6, "ofGoal", "(I)J"⟩
abbrev cX6_safeByOne : ByteArray := prog_8_method_19_code
def yX6_safeByOne : MethodName := ⟨RX6, "safeByOne", "(JI)J"⟩
abbrev cX6_working : ByteArray := prog_8_method_20_code
def yX6_working : MethodName := ⟨RX6, "working", "(II)J"⟩
abbrev cX6_mostSteps : ByteArray := prog_8_method_21_code
def yX6_mostSteps : MethodName := ⟨RX6, "mostSteps", "(III)I"⟩
abbrev cX6_reachedFrom : ByteArray := prog_8_method_22_code
def yX6_reachedFrom : MethodName := ⟨RX6, "reachedFrom", "(III)J"⟩
abbrev cX6_countReached : ByteArray := prog_8_method_23_code
def yX6_countReached : MethodName := ⟨RX6, "countReached", "(JIII)I"⟩
def RX7 : String := "RingCrowd"
def TX7 : u_T := fun k => match k with
  | 0 => ("RingCrowd", "ring", "LRingCrowd$Ring;", true)
  | 1 => ("RingCrowd", "ways", "LRingCrowd$Ways;", true)
  | 2 => ("RingCrowd", "asks", "LRingCrowd$Asks;", true)
  | 3 => ("RingCrowd", "tape", "LRingCrowd$Tape;", true)
  | 4 => ("RingCrowd", "reader", "LRingCrowd$Reader;", true)
  | 5 => ("RingCrowd", "book", "LRingCrowd$Book;", false)
  | 6 => ("RingCrowd", "spare", "LRingCrowd$Book;", false)
  | 7 => ("RingCrowd", "crowd", "I", false)
  | _ => ("RingCrowd", "latestFault", "I", false)
def tyX7 : Nat → FieldType := fun k => match k with
  | 0 => .object "RingCrowd$Ring"
  | 1 => .object "RingCrowd$Ways"
  | 2 => .object "RingCrowd$Asks"
  | 3 => .object "RingCrowd$Tape"
  | 4 => .object "RingCrowd$Reader"
  | 5 => .object "RingCrowd$Book"
  | 6 => .object "RingCrowd$Book"
  | 7 => .int
  | _ => .int
theorem nmX7 : ∀ a, a < 9 → ∀ b, b < 9 → a ≠ b → (TX7 a).2.1 ≠ (TX7 b).2.1 := by decide +kernel
theorem tyX7_ok : ∀ k, k < 9 → parseFieldDescriptor (TX7 k).2.2.1 = some (tyX7 k) := by decide +kernel
abbrev cX7_init : ByteArray := prog_1_method_1_code
def yX7_init : MethodName := ⟨RX7, "<init>", "(I)V"⟩
abbrev cX7_robot : ByteArray := prog_1_method_2_code
def yX7_robot : MethodName := ⟨RX7, "robot", "(I)I"⟩
abbrev cX7_wipe : ByteArray := prog_1_method_3_code
def yX7_wipe : MethodName := ⟨RX7, "wipe", "()I"⟩
abbrev cX7_at : ByteArray := prog_1_method_4_code
def yX7_at : MethodName := ⟨RX7, "at", "(I)I"⟩
abbrev cX7_view : ByteArray := prog_1_method_5_code
def yX7_view : MethodName := ⟨RX7, "view", "(II)I"⟩
abbrev cX7_does : ByteArray := prog_1_method_6_code
def yX7_does : MethodName := ⟨RX7, "does", "(I)I"⟩
abbrev cX7_name : ByteArray := prog_1_method_7_code
def yX7_name : MethodName := ⟨RX7, "name", "(I)I"⟩
abbrev cX7_goal : ByteArray := prog_1_method_8_code
def yX7_goal : MethodName := ⟨RX7, "goal", "(I)I"⟩
abbrev cX7_step : ByteArray := prog_1_method_9_code
def yX7_step : MethodName := ⟨RX7, "step", "()I"⟩
abbrev cX7_go : ByteArray := prog_1_method_10_code
def yX7_go : MethodName := ⟨RX7, "go", "(II)I"⟩
abbrev cX7_feed : ByteArray := prog_1_method_11_code
def yX7_feed : MethodName := ⟨RX7, "feed", "(JI)I"⟩
abbrev cX7_rules : ByteArray := prog_1_method_12_code
def yX7_rules : MethodName := ⟨RX7, "rules", "()I"⟩
abbrev cX7_fault : ByteArray := prog_1_method_13_code
def yX7_fault : MethodName := ⟨RX7, "fault", "()I"⟩
abbrev cX7_proves : ByteArray := prog_1_method_14_code
def yX7_proves : MethodName := ⟨RX7, "proves", "(III)I"⟩
abbrev cX7_starts : ByteArray := prog_1_method_15_code
def yX7_starts : MethodName := ⟨RX7, "starts", "(III)I"⟩
abbrev cX7_kind : ByteArray := prog_1_method_16_code
def yX7_kind : MethodName := ⟨RX7, "kind", "()I"⟩
abbrev cX7_as : ByteArray := prog_1_method_17_code
def yX7_as : MethodName := ⟨RX7, "as", "(I)I"⟩
abbrev cX7_ask : ByteArray := prog_1_method_18_code
def yX7_ask : MethodName := ⟨RX7, "ask", "(I)I"⟩
abbrev cX7_trace : ByteArray := prog_1_method_19_code
def yX7_trace : MethodName := ⟨RX7, "trace", "(I)I"⟩
abbrev cX7_count : ByteArray := prog_1_method_20_code
def yX7_count : MethodName := ⟨RX7, "count", "(I)I"⟩
abbrev cX7_noPlace : ByteArray := prog_1_method_21_code
def yX7_noPlace : MethodName := ⟨RX7, "noPlace", "(I)Z"⟩
abbrev cX7_outside : ByteArray := prog_1_method_22_code
def yX7_outside : MethodName := ⟨RX7, "outside", "(II)Z"⟩
def RX8 : String := "RingCrowdModel"
def TX8 : u_T := fun k => match k with
  | 0 => ("RingCrowdModel", "thrown", "I", false)
  | 1 => ("RingCrowdModel", "n", "I", true)
  | 2 => ("RingCrowdModel", "robots", "I", false)
  | 3 => ("RingCrowdModel", "here", "[I", true)
  | 4 => ("RingCrowdModel", "hand", "[I", true)
  | 5 => ("RingCrowdModel", "viewed", "I", false)
  | 6 => ("RingCrowdModel", "view", "[I", true)
  | 7 => ("RingCrowdModel", "up", "[I", true)
  | 8 => ("RingCrowdModel", "down", "[I", true)
  | 9 => ("RingCrowdModel", "rules", "I", false)
  | 10 => ("RingCrowdModel", "ruleSize", "[I", true)
  | 11 => ("RingCrowdModel", "ruleRow", "[I", true)
  | 12 => ("RingCrowdModel", "ruleDoes", "[I", true)
  | 13 => ("RingCrowdModel", "name", "[I", true)
  | 14 => ("RingCrowdModel", "goes", "[I", true)
  | 15 => ("RingCrowdModel", "tape", "[I", true)
  | 16 => ("RingCrowdModel", "taped", "I", false)
  | 17 => ("RingCrowdModel", "latest", "I", false)
  | 18 => ("RingCrowdModel", "size", "I", false)
  | 19 => ("RingCrowdModel", "at", "I", false)
  | 20 => ("RingCrowdModel", "sort", "I", false)
  | 21 => ("RingCrowdModel", "place", "I", false)
  | 22 => ("RingCrowdModel", "end", "I", false)
  | 23 => ("RingCrowdModel", "fault", "I", false)
  | 24 => ("RingCrowdModel", "faultAt", "I", false)
  | 25 => ("RingCrowdModel", "read", "I", false)
  | 26 => ("RingCrowdModel", "readSize", "[I", true)
  | 27 => ("RingCrowdModel", "readRow", "[I", true)
  | 28 => ("RingCrowdModel", "readDoes", "[I", true)
  | 29 => ("RingCrowdModel", "own", "[I", true)
  | 30 => ("RingCrowdModel", "crowds", "I", false)
  | 31 => ("RingCrowdModel", "crowd", "[I", true)
  | 32 => ("RingCrowdModel", "isStep", "[Z", true)
  | 33 => ("RingCrowdModel", "isOfGoal", "[Z", true)
  | 34 => ("RingCrowdModel", "isMet", "[Z", true)
  | 35 => ("RingCrowdModel", "most", "[I", true)
  | 36 => ("RingCrowdModel", "stands", "[I", true)
  | 37 => ("RingCrowdModel", "doesHere", "[I", true)
  | 38 => ("RingCrowdModel", "from", "[I", true)
  | 39 => ("RingCrowdModel", "trace", "[I", true)
  | _ => ("RingCrowdModel", "traced", "I", false)
def tyX8 : Nat → FieldType := fun k => match k with
  | 0 => .int
  | 1 => .int
  | 2 => .int
  | 3 => .array .int
  | 4 => .array .int
  | 5 => .int
  | 6 => .array .int
  | 7 => .array .int
  | 8 => .array .int
  | 9 => .int
  | 10 => .array .int
  | 11 => .array .int
  | 12 => .array .int
  | 13 => .array .int
  | 14 => .array .int
  | 15 => .array .int
  | 16 => .int
  | 17 => .int
  | 18 => .int
  | 19 => .int
  | 20 => .int
  | 21 => .int
  | 22 => .int
  | 23 => .int
  | 24 => .int
  | 25 => .int
  | 26 => .array .int
  | 27 => .array .int
  | 28 => .array .int
  | 29 => .array .int
  | 30 => .int
  | 31 => .array .int
  | 32 => .array .boolean
  | 33 => .array .boolean
  | 34 => .array .boolean
  | 35 => .array .int
  | 36 => .array .int
  | 37 => .array .int
  | 38 => .array .int
  | 39 => .array .int
  | _ => .int
theorem nmX8 : ∀ a, a < 41 → ∀ b, b < 41 → a ≠ b → (TX8 a).2.1 ≠ (TX8 b).2.1 := by decide +kernel
theorem tyX8_ok : ∀ k, k < 41 → parseFieldDescriptor (TX8 k).2.2.1 = some (tyX8 k) := by decide +kernel
abbrev cX8_in : ByteArray := prog_10_method_2_code
def yX8_in : MethodName := ⟨RX8, "in", "(JJJ)Z"⟩
abbrev cX8_init : ByteArray := prog_10_method_3_code
def yX8_init : MethodName := ⟨RX8, "<init>", "(I)V"⟩
abbrev cX8_isPlace : ByteArray := prog_10_method_4_code
def yX8_isPlace : MethodName := ⟨RX8, "isPlace", "(I)Z"⟩
abbrev cX8_robot : ByteArray := prog_10_method_5_code
def yX8_robot : MethodName := ⟨RX8, "robot", "(I)I"⟩
abbrev cX8_wipe : ByteArray := prog_10_method_6_code
def yX8_wipe : MethodName := ⟨RX8, "wipe", "()I"⟩
abbrev cX8_at : ByteArray := prog_10_method_7_code
def yX8_at : MethodName := ⟨RX8, "at", "(I)I"⟩
abbrev cX8_take : ByteArray := prog_10_method_8_code
def yX8_take : MethodName := ⟨RX8, "take", "()V"⟩
abbrev cX8_rowFrom : ByteArray := prog_10_method_9_code
def yX8_rowFrom : MethodName := ⟨RX8, "rowFrom", "(II[I)I"⟩
abbrev cX8_look : ByteArray := prog_10_method_10_code
def yX8_look : MethodName := ⟨RX8, "look", "(I)I"⟩
abbrev cX8_view : ByteArray := prog_10_method_11_code
def yX8_view : MethodName := ⟨RX8, "view", "(II)I"⟩
abbrev cX8_doing : ByteArray := prog_10_method_12_code
def yX8_doing : MethodName := ⟨RX8, "doing", "(I)I"⟩
abbrev cX8_does : ByteArray := prog_10_method_13_code
def yX8_does : MethodName := ⟨RX8, "does", "(I)I"⟩
abbrev cX8_seen : ByteArray := prog_10_method_14_code
def yX8_seen : MethodName := ⟨RX8, "seen", "(III)I"⟩
abbrev cX8_findName : ByteArray := prog_10_method_15_code
def yX8_findName : MethodName := ⟨RX8, "findName", "()V"⟩
abbrev cX8_same : ByteArray := prog_10_method_16_code
def yX8_same : MethodName := ⟨RX8, "same", "(I)I"⟩
abbrev cX8_name : ByteArray := prog_10_method_17_code
def yX8_name : MethodName := ⟨RX8, "name", "(I)I"⟩
abbrev cX8_isGoal : ByteArray := prog_10_method_18_code
def yX8_isGoal : MethodName := ⟨RX8, "isGoal", "(II)Z"⟩
abbrev cX8_goal : ByteArray := prog_10_method_19_code
def yX8_goal : MethodName := ⟨RX8, "goal", "(I)I"⟩
abbrev cX8_step : ByteArray := prog_10_method_20_code
def yX8_step : MethodName := ⟨RX8, "step", "()I"⟩
abbrev cX8_go : ByteArray := prog_10_method_21_code
def yX8_go : MethodName := ⟨RX8, "go", "(II)I"⟩
abbrev cX8_feed : ByteArray := prog_10_method_22_code
def yX8_feed : MethodName := ⟨RX8, "feed", "(JI)I"⟩
abbrev cX8_byteAt : ByteArray := prog_10_method_23_code
def yX8_byteAt : MethodName := ⟨RX8, "byteAt", "(I)I"⟩
abbrev cX8_isLetter : ByteArray := prog_10_method_24_code
def yX8_isLetter : MethodName := ⟨RX8, "isLetter", "(I)Z"⟩
abbrev cX8_isFigure : ByteArray := prog_10_method_25_code
def yX8_isFigure : MethodName := ⟨RX8, "isFigure", "(I)Z"⟩
abbrev cX8_next : ByteArray := prog_10_method_26_code
def yX8_next : MethodName := ⟨RX8, "next", "()V"⟩
abbrev cX8_bad : ByteArray := prog_10_method_27_code
def yX8_bad : MethodName := ⟨RX8, "bad", "(I)V"⟩
abbrev cX8_need : ByteArray := prog_10_method_28_code
def yX8_need : MethodName := ⟨RX8, "need", "(Z)V"⟩
abbrev cX8_is : ByteArray := prog_10_method_29_code
def yX8_is : MethodName := ⟨RX8, "is", "(I)Z"⟩
abbrev cX8_word : ByteArray := prog_10_method_30_code
def yX8_word : MethodName := ⟨RX8, "word", "()J"⟩
abbrev cX8_aNumber : ByteArray := prog_10_method_31_code
def yX8_aNumber : MethodName := ⟨RX8, "aNumber", "()I"⟩
abbrev cX8_readPair : ByteArray := prog_10_method_32_code
def yX8_readPair : MethodName := ⟨RX8, "readPair", "(I)V"⟩
abbrev cX8_isRead : ByteArray := prog_10_method_33_code
def yX8_isRead : MethodName := ⟨RX8, "isRead", "(I)Z"⟩
abbrev cX8_readRule : ByteArray := prog_10_method_34_code
def yX8_readRule : MethodName := ⟨RX8, "readRule", "()V"⟩
abbrev cX8_rules : ByteArray := prog_10_method_35_code
def yX8_rules : MethodName := ⟨RX8, "rules", "()I"⟩
abbrev cX8_fault : ByteArray := prog_10_method_36_code
def yX8_fault : MethodName := ⟨RX8, "fault", "()I"⟩
abbrev cX8_numberOfName : ByteArray := prog_10_method_37_code
def yX8_numberOfName : MethodName := ⟨RX8, "numberOfName", "()I"⟩
abbrev cX8_listCrowds : ByteArray := prog_10_method_38_code
def yX8_listCrowds : MethodName := ⟨RX8, "listCrowds", "()V"⟩
abbrev cX8_findSteps : ByteArray := prog_10_method_39_code
def yX8_findSteps : MethodName := ⟨RX8, "findSteps", "(II)V"⟩
abbrev cX8_prove : ByteArray := prog_10_method_40_code
def yX8_prove : MethodName := ⟨RX8, "prove", "(II)V"⟩
abbrev cX8_proves : ByteArray := prog_10_method_41_code
def yX8_proves : MethodName := ⟨RX8, "proves", "(III)I"⟩
abbrev cX8_starts : ByteArray := prog_10_method_42_code
def yX8_starts : MethodName := ⟨RX8, "starts", "(III)I"⟩
abbrev cX8_kindNow : ByteArray := prog_10_method_43_code
def yX8_kindNow : MethodName := ⟨RX8, "kindNow", "()I"⟩
abbrev cX8_kind : ByteArray := prog_10_method_44_code
def yX8_kind : MethodName := ⟨RX8, "kind", "()I"⟩
abbrev cX8_as : ByteArray := prog_10_method_45_code
def yX8_as : MethodName := ⟨RX8, "as", "(I)I"⟩
abbrev cX8_began : ByteArray := prog_10_method_46_code
def yX8_began : MethodName := ⟨RX8, "began", "(I)V"⟩
abbrev cX8_sized : ByteArray := prog_10_method_47_code
def yX8_sized : MethodName := ⟨RX8, "sized", "(I)I"⟩
abbrev cX8_places : ByteArray := prog_10_method_48_code
def yX8_places : MethodName := ⟨RX8, "places", "()I"⟩
abbrev cX8_ask : ByteArray := prog_10_method_49_code
def yX8_ask : MethodName := ⟨RX8, "ask", "(I)I"⟩
abbrev cX8_trace : ByteArray := prog_10_method_50_code
def yX8_trace : MethodName := ⟨RX8, "trace", "(I)I"⟩
abbrev cX8_count : ByteArray := prog_10_method_51_code
def yX8_count : MethodName := ⟨RX8, "count", "(I)I"⟩
def RJ13 : String := "java/lang/Long"
def TJ13 : u_T := fun k => match k with
  | _ => ("", "", "", false)
def tyJ13 : Nat → FieldType := fun k => match k with
  | _ => .int
abbrev cJ13_bitCount_95d88 : ByteArray := prog_11_method_50_code
def yJ13_bitCount_95d88 : MethodName := ⟨RJ13, "bitCount", "(J)I"⟩
def RJ9 : String := "java/lang/Math"
def TJ9 : u_T := fun k => match k with
  | _ => ("", "", "", false)
def tyJ9 : Nat → FieldType := fun k => match k with
  | _ => .int
abbrev cJ9_max_7cf53 : ByteArray := prog_12_method_65_code
def yJ9_max_7cf53 : MethodName := ⟨RJ9, "max", "(II)I"⟩
abbrev cJ9_min_7cf53 : ByteArray := prog_12_method_69_code
def yJ9_min_7cf53 : MethodName := ⟨RJ9, "min", "(II)I"⟩
abbrev cJ9_min_f86c9 : ByteArray := prog_12_method_70_code
def yJ9_min_f86c9 : MethodName := ⟨RJ9, "min", "(JJ)J"⟩
def RJ0 : String := "java/lang/String"
def TJ0 : u_T := fun k => match k with
  | _ => ("", "", "", false)
def tyJ0 : Nat → FieldType := fun k => match k with
  | _ => .int
abbrev cJ0_length_8abf5 : ByteArray := prog_13_method_54_code
def yJ0_length_8abf5 : MethodName := ⟨RJ0, "length", "()I"⟩
abbrev cJ0_charAt_5068e : ByteArray := prog_13_method_56_code
def yJ0_charAt_5068e : MethodName := ⟨RJ0, "charAt", "(I)C"⟩
abbrev cJ0_coder_7d493 : ByteArray := prog_13_method_152_code
def yJ0_coder_7d493 : MethodName := ⟨RJ0, "coder", "()B"⟩
abbrev cJ0_isLatin1_aae02 : ByteArray := prog_13_method_154_code
def yJ0_isLatin1_aae02 : MethodName := ⟨RJ0, "isLatin1", "()Z"⟩
abbrev cJ0_checkIndex_df160 : ByteArray := prog_13_method_155_code
def yJ0_checkIndex_df160 : MethodName := ⟨RJ0, "checkIndex", "(II)V"⟩
def RJ1 : String := "java/lang/StringLatin1"
def TJ1 : u_T := fun k => match k with
  | _ => ("", "", "", false)
def tyJ1 : Nat → FieldType := fun k => match k with
  | _ => .int
abbrev cJ1_charAt_3b067 : ByteArray := prog_14_method_2_code
def yJ1_charAt_3b067 : MethodName := ⟨RJ1, "charAt", "([BI)C"⟩
def RJ2 : String := "java/lang/StringUTF16"
def TJ2 : u_T := fun k => match k with
  | _ => ("", "", "", false)
def tyJ2 : Nat → FieldType := fun k => match k with
  | _ => .int
abbrev cJ2_getChar_3b067 : ByteArray := prog_15_method_5_code
def yJ2_getChar_3b067 : MethodName := ⟨RJ2, "getChar", "([BI)C"⟩
abbrev cJ2_length_9d52b : ByteArray := prog_15_method_6_code
def yJ2_length_9d52b : MethodName := ⟨RJ2, "length", "([B)I"⟩
abbrev cJ2_charAt_3b067 : ByteArray := prog_15_method_83_code
def yJ2_charAt_3b067 : MethodName := ⟨RJ2, "charAt", "([BI)C"⟩
abbrev cJ2_checkIndex_2214a : ByteArray := prog_15_method_91_code
def yJ2_checkIndex_2214a : MethodName := ⟨RJ2, "checkIndex", "(I[B)V"⟩
def RJ3 : String := "jdk/internal/util/Preconditions"
def TJ3 : u_T := fun k => match k with
  | _ => ("", "", "", false)
def tyJ3 : Nat → FieldType := fun k => match k with
  | _ => .int
abbrev cJ3_checkIndex_8e157 : ByteArray := prog_16_method_11_code
def yJ3_checkIndex_8e157 : MethodName := ⟨RJ3, "checkIndex", "(IILjava/util/function/BiFunction;)I"⟩
def RL : String := "RingCrowdLaw"
abbrev cL_cell : ByteArray := method_2_code
def yL_cell : MethodName := ⟨RL, "cell", "([II)I"⟩
abbrev cL_law : ByteArray := code
def yL_law : MethodName := ⟨RL, "law", "([I)Z"⟩
end
section
theorem dX0_init_0 : decode cX0_init 0 = .ok (.aload_n 0, 1) := by decide +kernel
theorem dX0_init_1 : decode cX0_init 1 = .ok (.invokespecial 3, 3) := by decide +kernel
theorem dX0_init_4 : decode cX0_init 4 = .ok (.aload_n 0, 1) := by decide +kernel
theorem dX0_init_5 : decode cX0_init 5 = .ok (.bipush 16, 2) := by decide +kernel
theorem dX0_init_7 : decode cX0_init 7 = .ok (.newarray .int, 2) := by decide +kernel
theorem dX0_init_9 : decode cX0_init 9 = .ok (.putfield 9, 3) := by decide +kernel
theorem dX0_init_12 : decode cX0_init 12 = .ok (.aload_n 0, 1) := by decide +kernel
theorem dX0_init_13 : decode cX0_init 13 = .ok (.iconst 0, 1) := by decide +kernel
theorem dX0_init_14 : decode cX0_init 14 = .ok (.putfield 15, 3) := by decide +kernel
theorem dX0_init_17 : decode cX0_init 17 = .ok (.aload_n 0, 1) := by decide +kernel
theorem dX0_init_18 : decode cX0_init 18 = .ok (.aload_n 1, 1) := by decide +kernel
theorem dX0_init_19 : decode cX0_init 19 = .ok (.putfield 19, 3) := by decide +kernel
theorem dX0_init_22 : decode cX0_init 22 = .ok (.return_, 1) := by decide +kernel
theorem dX0_answer_0 : decode cX0_answer 0 = .ok (.aload_n 0, 1) := by decide +kernel
theorem dX0_answer_1 : decode cX0_answer 1 = .ok (.iconst 0, 1) := by decide +kernel
theorem dX0_answer_2 : decode cX0_answer 2 = .ok (.putfield 15, 3) := by decide +kernel
theorem dX0_answer_5 : decode cX0_answer 5 = .ok (.iload_n 1, 1) := by decide +kernel
theorem dX0_answer_6 : decode cX0_answer 6 = .ok (.ifCond .ne 11, 3) := by decide +kernel
theorem dX0_answer_9 : decode cX0_answer 9 = .ok (.aload_n 0, 1) := by decide +kernel
theorem dX0_answer_10 : decode cX0_answer 10 = .ok (.iload_n 2, 1) := by decide +kernel
theorem dX0_answer_11 : decode cX0_answer 11 = .ok (.invokevirtual 23, 3) := by decide +kernel
theorem dX0_answer_14 : decode cX0_answer 14 = .ok (.goto 8, 3) := by decide +kernel
theorem dX0_answer_17 : decode cX0_answer 17 = .ok (.aload_n 0, 1) := by decide +kernel
theorem dX0_answer_18 : decode cX0_answer 18 = .ok (.iload_n 2, 1) := by decide +kernel
theorem dX0_answer_19 : decode cX0_answer 19 = .ok (.invokevirtual 27, 3) := by decide +kernel
theorem dX0_answer_22 : decode cX0_answer 22 = .ok (.ireturn, 1) := by decide +kernel
theorem dX0_traced_0 : decode cX0_traced 0 = .ok (.iload_n 1, 1) := by decide +kernel
theorem dX0_traced_1 : decode cX0_traced 1 = .ok (.aload_n 0, 1) := by decide +kernel
theorem dX0_traced_2 : decode cX0_traced 2 = .ok (.getfield 15, 3) := by decide +kernel
theorem dX0_traced_5 : decode cX0_traced 5 = .ok (.invokestatic 30, 3) := by decide +kernel
theorem dX0_traced_8 : decode cX0_traced 8 = .ok (.ifCond .ne 9, 3) := by decide +kernel
theorem dX0_traced_11 : decode cX0_traced 11 = .ok (.iload_n 1, 1) := by decide +kernel
theorem dX0_traced_12 : decode cX0_traced 12 = .ok (.bipush 16, 2) := by decide +kernel
theorem dX0_traced_14 : decode cX0_traced 14 = .ok (.if_icmp .lt 8, 3) := by decide +kernel
theorem dX0_traced_17 : decode cX0_traced 17 = .ok (.ldc 34, 2) := by decide +kernel
theorem dX0_traced_19 : decode cX0_traced 19 = .ok (.goto 9, 3) := by decide +kernel
theorem dX0_traced_22 : decode cX0_traced 22 = .ok (.aload_n 0, 1) := by decide +kernel
theorem dX0_traced_23 : decode cX0_traced 23 = .ok (.getfield 9, 3) := by decide +kernel
theorem dX0_traced_26 : decode cX0_traced 26 = .ok (.iload_n 1, 1) := by decide +kernel
theorem dX0_traced_27 : decode cX0_traced 27 = .ok (.iaload, 1) := by decide +kernel
theorem dX0_traced_28 : decode cX0_traced 28 = .ok (.ireturn, 1) := by decide +kernel
theorem dX0_begin_0 : decode cX0_begin 0 = .ok (.aload_n 0, 1) := by decide +kernel
theorem dX0_begin_1 : decode cX0_begin 1 = .ok (.getfield 15, 3) := by decide +kernel
theorem dX0_begin_4 : decode cX0_begin 4 = .ok (.bipush 16, 2) := by decide +kernel
theorem dX0_begin_6 : decode cX0_begin 6 = .ok (.if_icmp .ge 23, 3) := by decide +kernel
theorem dX0_begin_9 : decode cX0_begin 9 = .ok (.aload_n 0, 1) := by decide +kernel
theorem dX0_begin_10 : decode cX0_begin 10 = .ok (.getfield 9, 3) := by decide +kernel
theorem dX0_begin_13 : decode cX0_begin 13 = .ok (.aload_n 0, 1) := by decide +kernel
theorem dX0_begin_14 : decode cX0_begin 14 = .ok (.getfield 15, 3) := by decide +kernel
theorem dX0_begin_17 : decode cX0_begin 17 = .ok (.iload_n 1, 1) := by decide +kernel
theorem dX0_begin_18 : decode cX0_begin 18 = .ok (.iastore, 1) := by decide +kernel
theorem dX0_begin_19 : decode cX0_begin 19 = .ok (.aload_n 0, 1) := by decide +kernel
theorem dX0_begin_20 : decode cX0_begin 20 = .ok (.dup, 1) := by decide +kernel
theorem dX0_begin_21 : decode cX0_begin 21 = .ok (.getfield 15, 3) := by decide +kernel
theorem dX0_begin_24 : decode cX0_begin 24 = .ok (.iconst 1, 1) := by decide +kernel
theorem dX0_begin_25 : decode cX0_begin 25 = .ok (.iadd, 1) := by decide +kernel
theorem dX0_begin_26 : decode cX0_begin 26 = .ok (.putfield 15, 3) := by decide +kernel
theorem dX0_begin_29 : decode cX0_begin 29 = .ok (.return_, 1) := by decide +kernel
theorem dX0_sizeOf_0 : decode cX0_sizeOf 0 = .ok (.aload_n 0, 1) := by decide +kernel
theorem dX0_sizeOf_1 : decode cX0_sizeOf 1 = .ok (.getfield 19, 3) := by decide +kernel
theorem dX0_sizeOf_4 : decode cX0_sizeOf 4 = .ok (.iload_n 1, 1) := by decide +kernel
theorem dX0_sizeOf_5 : decode cX0_sizeOf 5 = .ok (.invokevirtual 35, 3) := by decide +kernel
theorem dX0_sizeOf_8 : decode cX0_sizeOf 8 = .ok (.tableswitch 83 1 3 #[28, 48, 69], 28) := by decide +kernel
theorem dX0_sizeOf_36 : decode cX0_sizeOf 36 = .ok (.aload_n 0, 1) := by decide +kernel
theorem dX0_sizeOf_37 : decode cX0_sizeOf 37 = .ok (.bipush 11, 2) := by decide +kernel
theorem dX0_sizeOf_39 : decode cX0_sizeOf 39 = .ok (.invokevirtual 40, 3) := by decide +kernel
theorem dX0_sizeOf_42 : decode cX0_sizeOf 42 = .ok (.aload_n 0, 1) := by decide +kernel
theorem dX0_sizeOf_43 : decode cX0_sizeOf 43 = .ok (.iload_n 1, 1) := by decide +kernel
theorem dX0_sizeOf_44 : decode cX0_sizeOf 44 = .ok (.invokevirtual 44, 3) := by decide +kernel
theorem dX0_sizeOf_47 : decode cX0_sizeOf 47 = .ok (.aload_n 0, 1) := by decide +kernel
theorem dX0_sizeOf_48 : decode cX0_sizeOf 48 = .ok (.getfield 19, 3) := by decide +kernel
theorem dX0_sizeOf_51 : decode cX0_sizeOf 51 = .ok (.getfield 47, 3) := by decide +kernel
theorem dX0_sizeOf_54 : decode cX0_sizeOf 54 = .ok (.iadd, 1) := by decide +kernel
theorem dX0_sizeOf_55 : decode cX0_sizeOf 55 = .ok (.ireturn, 1) := by decide +kernel
theorem dX0_sizeOf_56 : decode cX0_sizeOf 56 = .ok (.aload_n 0, 1) := by decide +kernel
theorem dX0_sizeOf_57 : decode cX0_sizeOf 57 = .ok (.bipush 12, 2) := by decide +kernel
theorem dX0_sizeOf_59 : decode cX0_sizeOf 59 = .ok (.invokevirtual 40, 3) := by decide +kernel
theorem dX0_sizeOf_62 : decode cX0_sizeOf 62 = .ok (.aload_n 0, 1) := by decide +kernel
theorem dX0_sizeOf_63 : decode cX0_sizeOf 63 = .ok (.iload_n 1, 1) := by decide +kernel
theorem dX0_sizeOf_64 : decode cX0_sizeOf 64 = .ok (.invokevirtual 44, 3) := by decide +kernel
theorem dX0_sizeOf_67 : decode cX0_sizeOf 67 = .ok (.aload_n 0, 1) := by decide +kernel
theorem dX0_sizeOf_68 : decode cX0_sizeOf 68 = .ok (.getfield 19, 3) := by decide +kernel
theorem dX0_sizeOf_71 : decode cX0_sizeOf 71 = .ok (.iload_n 1, 1) := by decide +kernel
theorem dX0_sizeOf_72 : decode cX0_sizeOf 72 = .ok (.invokevirtual 50, 3) := by decide +kernel
theorem dX0_sizeOf_75 : decode cX0_sizeOf 75 = .ok (.iadd, 1) := by decide +kernel
theorem dX0_sizeOf_76 : decode cX0_sizeOf 76 = .ok (.ireturn, 1) := by decide +kernel
theorem dX0_sizeOf_77 : decode cX0_sizeOf 77 = .ok (.aload_n 0, 1) := by decide +kernel
theorem dX0_sizeOf_78 : decode cX0_sizeOf 78 = .ok (.bipush 13, 2) := by decide +kernel
theorem dX0_sizeOf_80 : decode cX0_sizeOf 80 = .ok (.invokevirtual 40, 3) := by decide +kernel
theorem dX0_sizeOf_83 : decode cX0_sizeOf 83 = .ok (.iconst 2, 1) := by decide +kernel
theorem dX0_sizeOf_84 : decode cX0_sizeOf 84 = .ok (.aload_n 0, 1) := by decide +kernel
theorem dX0_sizeOf_85 : decode cX0_sizeOf 85 = .ok (.iload_n 1, 1) := by decide +kernel
theorem dX0_sizeOf_86 : decode cX0_sizeOf 86 = .ok (.invokevirtual 44, 3) := by decide +kernel
theorem dX0_sizeOf_89 : decode cX0_sizeOf 89 = .ok (.imul, 1) := by decide +kernel
theorem dX0_sizeOf_90 : decode cX0_sizeOf 90 = .ok (.ireturn, 1) := by decide +kernel
theorem dX0_sizeOf_91 : decode cX0_sizeOf 91 = .ok (.aload_n 0, 1) := by decide +kernel
theorem dX0_sizeOf_92 : decode cX0_sizeOf 92 = .ok (.iload_n 1, 1) := by decide +kernel
theorem dX0_sizeOf_93 : decode cX0_sizeOf 93 = .ok (.invokevirtual 44, 3) := by decide +kernel
theorem dX0_sizeOf_96 : decode cX0_sizeOf 96 = .ok (.ireturn, 1) := by decide +kernel
theorem dX0_lentSize_0 : decode cX0_lentSize 0 = .ok (.aload_n 0, 1) := by decide +kernel
theorem dX0_lentSize_1 : decode cX0_lentSize 1 = .ok (.bipush 10, 2) := by decide +kernel
theorem dX0_lentSize_3 : decode cX0_lentSize 3 = .ok (.invokevirtual 40, 3) := by decide +kernel
theorem dX0_lentSize_6 : decode cX0_lentSize 6 = .ok (.aload_n 0, 1) := by decide +kernel
theorem dX0_lentSize_7 : decode cX0_lentSize 7 = .ok (.getfield 19, 3) := by decide +kernel
theorem dX0_lentSize_10 : decode cX0_lentSize 10 = .ok (.iload_n 1, 1) := by decide +kernel
theorem dX0_lentSize_11 : decode cX0_lentSize 11 = .ok (.invokevirtual 53, 3) := by decide +kernel
theorem dX0_lentSize_14 : decode cX0_lentSize 14 = .ok (.ireturn, 1) := by decide +kernel
theorem dX0_markOf_0 : decode cX0_markOf 0 = .ok (.aload_n 0, 1) := by decide +kernel
theorem dX0_markOf_1 : decode cX0_markOf 1 = .ok (.getfield 19, 3) := by decide +kernel
theorem dX0_markOf_4 : decode cX0_markOf 4 = .ok (.iload_n 1, 1) := by decide +kernel
theorem dX0_markOf_5 : decode cX0_markOf 5 = .ok (.invokevirtual 35, 3) := by decide +kernel
theorem dX0_markOf_8 : decode cX0_markOf 8 = .ok (.lookupswitch 61 #[(2, 28), (3, 46)], 28) := by decide +kernel
theorem dX0_markOf_36 : decode cX0_markOf 36 = .ok (.aload_n 0, 1) := by decide +kernel
theorem dX0_markOf_37 : decode cX0_markOf 37 = .ok (.bipush 21, 2) := by decide +kernel
theorem dX0_markOf_39 : decode cX0_markOf 39 = .ok (.invokevirtual 40, 3) := by decide +kernel
theorem dX0_markOf_42 : decode cX0_markOf 42 = .ok (.aload_n 0, 1) := by decide +kernel
theorem dX0_markOf_43 : decode cX0_markOf 43 = .ok (.iload_n 1, 1) := by decide +kernel
theorem dX0_markOf_44 : decode cX0_markOf 44 = .ok (.invokevirtual 56, 3) := by decide +kernel
theorem dX0_markOf_47 : decode cX0_markOf 47 = .ok (.aload_n 0, 1) := by decide +kernel
theorem dX0_markOf_48 : decode cX0_markOf 48 = .ok (.iload_n 1, 1) := by decide +kernel
theorem dX0_markOf_49 : decode cX0_markOf 49 = .ok (.invokevirtual 23, 3) := by decide +kernel
theorem dX0_markOf_52 : decode cX0_markOf 52 = .ok (.iadd, 1) := by decide +kernel
theorem dX0_markOf_53 : decode cX0_markOf 53 = .ok (.ireturn, 1) := by decide +kernel
theorem dX0_markOf_54 : decode cX0_markOf 54 = .ok (.aload_n 0, 1) := by decide +kernel
theorem dX0_markOf_55 : decode cX0_markOf 55 = .ok (.bipush 22, 2) := by decide +kernel
theorem dX0_markOf_57 : decode cX0_markOf 57 = .ok (.invokevirtual 40, 3) := by decide +kernel
theorem dX0_markOf_60 : decode cX0_markOf 60 = .ok (.aload_n 0, 1) := by decide +kernel
theorem dX0_markOf_61 : decode cX0_markOf 61 = .ok (.iload_n 1, 1) := by decide +kernel
theorem dX0_markOf_62 : decode cX0_markOf 62 = .ok (.invokevirtual 56, 3) := by decide +kernel
theorem dX0_markOf_65 : decode cX0_markOf 65 = .ok (.bipush 100, 2) := by decide +kernel
theorem dX0_markOf_67 : decode cX0_markOf 67 = .ok (.iadd, 1) := by decide +kernel
theorem dX0_markOf_68 : decode cX0_markOf 68 = .ok (.ireturn, 1) := by decide +kernel
theorem dX0_markOf_69 : decode cX0_markOf 69 = .ok (.aload_n 0, 1) := by decide +kernel
theorem dX0_markOf_70 : decode cX0_markOf 70 = .ok (.iload_n 1, 1) := by decide +kernel
theorem dX0_markOf_71 : decode cX0_markOf 71 = .ok (.invokevirtual 56, 3) := by decide +kernel
theorem dX0_markOf_74 : decode cX0_markOf 74 = .ok (.ireturn, 1) := by decide +kernel
theorem dX0_lentMark_0 : decode cX0_lentMark 0 = .ok (.aload_n 0, 1) := by decide +kernel
theorem dX0_lentMark_1 : decode cX0_lentMark 1 = .ok (.bipush 20, 2) := by decide +kernel
theorem dX0_lentMark_3 : decode cX0_lentMark 3 = .ok (.invokevirtual 40, 3) := by decide +kernel
theorem dX0_lentMark_6 : decode cX0_lentMark 6 = .ok (.aload_n 0, 1) := by decide +kernel
theorem dX0_lentMark_7 : decode cX0_lentMark 7 = .ok (.getfield 19, 3) := by decide +kernel
theorem dX0_lentMark_10 : decode cX0_lentMark 10 = .ok (.iload_n 1, 1) := by decide +kernel
theorem dX0_lentMark_11 : decode cX0_lentMark 11 = .ok (.invokevirtual 59, 3) := by decide +kernel
theorem dX0_lentMark_14 : decode cX0_lentMark 14 = .ok (.ireturn, 1) := by decide +kernel
theorem dX1_init_0 : decode cX1_init 0 = .ok (.aload_n 0, 1) := by decide +kernel
theorem dX1_init_1 : decode cX1_init 1 = .ok (.invokespecial 3, 3) := by decide +kernel
theorem dX1_init_4 : decode cX1_init 4 = .ok (.aload_n 0, 1) := by decide +kernel
theorem dX1_init_5 : decode cX1_init 5 = .ok (.bipush 30, 2) := by decide +kernel
theorem dX1_init_7 : decode cX1_init 7 = .ok (.newarray .long, 2) := by decide +kernel
theorem dX1_init_9 : decode cX1_init 9 = .ok (.putfield 9, 3) := by decide +kernel
theorem dX1_init_12 : decode cX1_init 12 = .ok (.aload_n 0, 1) := by decide +kernel
theorem dX1_init_13 : decode cX1_init 13 = .ok (.bipush 30, 2) := by decide +kernel
theorem dX1_init_15 : decode cX1_init 15 = .ok (.newarray .int, 2) := by decide +kernel
theorem dX1_init_17 : decode cX1_init 17 = .ok (.putfield 15, 3) := by decide +kernel
theorem dX1_init_20 : decode cX1_init 20 = .ok (.aload_n 0, 1) := by decide +kernel
theorem dX1_init_21 : decode cX1_init 21 = .ok (.iconst 0, 1) := by decide +kernel
theorem dX1_init_22 : decode cX1_init 22 = .ok (.putfield 19, 3) := by decide +kernel
theorem dX1_init_25 : decode cX1_init 25 = .ok (.return_, 1) := by decide +kernel
theorem dX1_clear_0 : decode cX1_clear 0 = .ok (.aload_n 0, 1) := by decide +kernel
theorem dX1_clear_1 : decode cX1_clear 1 = .ok (.iconst 0, 1) := by decide +kernel
theorem dX1_clear_2 : decode cX1_clear 2 = .ok (.putfield 19, 3) := by decide +kernel
theorem dX1_clear_5 : decode cX1_clear 5 = .ok (.return_, 1) := by decide +kernel
theorem dX1_put_0 : decode cX1_put 0 = .ok (.aload_n 0, 1) := by decide +kernel
theorem dX1_put_1 : decode cX1_put 1 = .ok (.getfield 19, 3) := by decide +kernel
theorem dX1_put_4 : decode cX1_put 4 = .ok (.bipush 30, 2) := by decide +kernel
theorem dX1_put_6 : decode cX1_put 6 = .ok (.if_icmp .ge 33, 3) := by decide +kernel
theorem dX1_put_9 : decode cX1_put 9 = .ok (.aload_n 0, 1) := by decide +kernel
theorem dX1_put_10 : decode cX1_put 10 = .ok (.getfield 9, 3) := by decide +kernel
theorem dX1_put_13 : decode cX1_put 13 = .ok (.aload_n 0, 1) := by decide +kernel
theorem dX1_put_14 : decode cX1_put 14 = .ok (.getfield 19, 3) := by decide +kernel
theorem dX1_put_17 : decode cX1_put 17 = .ok (.lload_n 1, 1) := by decide +kernel
theorem dX1_put_18 : decode cX1_put 18 = .ok (.lastore, 1) := by decide +kernel
theorem dX1_put_19 : decode cX1_put 19 = .ok (.aload_n 0, 1) := by decide +kernel
theorem dX1_put_20 : decode cX1_put 20 = .ok (.getfield 15, 3) := by decide +kernel
theorem dX1_put_23 : decode cX1_put 23 = .ok (.aload_n 0, 1) := by decide +kernel
theorem dX1_put_24 : decode cX1_put 24 = .ok (.getfield 19, 3) := by decide +kernel
theorem dX1_put_27 : decode cX1_put 27 = .ok (.iload_n 3, 1) := by decide +kernel
theorem dX1_put_28 : decode cX1_put 28 = .ok (.iastore, 1) := by decide +kernel
theorem dX1_put_29 : decode cX1_put 29 = .ok (.aload_n 0, 1) := by decide +kernel
theorem dX1_put_30 : decode cX1_put 30 = .ok (.dup, 1) := by decide +kernel
theorem dX1_put_31 : decode cX1_put 31 = .ok (.getfield 19, 3) := by decide +kernel
theorem dX1_put_34 : decode cX1_put 34 = .ok (.iconst 1, 1) := by decide +kernel
theorem dX1_put_35 : decode cX1_put 35 = .ok (.iadd, 1) := by decide +kernel
theorem dX1_put_36 : decode cX1_put 36 = .ok (.putfield 19, 3) := by decide +kernel
theorem dX1_put_39 : decode cX1_put 39 = .ok (.return_, 1) := by decide +kernel
theorem dX1_has_0 : decode cX1_has 0 = .ok (.aload_n 0, 1) := by decide +kernel
theorem dX1_has_1 : decode cX1_has 1 = .ok (.lload_n 1, 1) := by decide +kernel
theorem dX1_has_2 : decode cX1_has 2 = .ok (.invokevirtual 23, 3) := by decide +kernel
theorem dX1_has_5 : decode cX1_has 5 = .ok (.ifCond .lt 7, 3) := by decide +kernel
theorem dX1_has_8 : decode cX1_has 8 = .ok (.iconst 1, 1) := by decide +kernel
theorem dX1_has_9 : decode cX1_has 9 = .ok (.goto 4, 3) := by decide +kernel
theorem dX1_has_12 : decode cX1_has 12 = .ok (.iconst 0, 1) := by decide +kernel
theorem dX1_has_13 : decode cX1_has 13 = .ok (.ireturn, 1) := by decide +kernel
theorem dX1_find_0 : decode cX1_find 0 = .ok (.iconst 0, 1) := by decide +kernel
theorem dX1_find_1 : decode cX1_find 1 = .ok (.istore_n 3, 1) := by decide +kernel
theorem dX1_find_2 : decode cX1_find 2 = .ok (.iload_n 3, 1) := by decide +kernel
theorem dX1_find_3 : decode cX1_find 3 = .ok (.aload_n 0, 1) := by decide +kernel
theorem dX1_find_4 : decode cX1_find 4 = .ok (.getfield 19, 3) := by decide +kernel
theorem dX1_find_7 : decode cX1_find 7 = .ok (.if_icmp .ge 28, 3) := by decide +kernel
theorem dX1_find_10 : decode cX1_find 10 = .ok (.iload_n 3, 1) := by decide +kernel
theorem dX1_find_11 : decode cX1_find 11 = .ok (.bipush 30, 2) := by decide +kernel
theorem dX1_find_13 : decode cX1_find 13 = .ok (.if_icmp .ge 22, 3) := by decide +kernel
theorem dX1_find_16 : decode cX1_find 16 = .ok (.aload_n 0, 1) := by decide +kernel
theorem dX1_find_17 : decode cX1_find 17 = .ok (.getfield 9, 3) := by decide +kernel
theorem dX1_find_20 : decode cX1_find 20 = .ok (.iload_n 3, 1) := by decide +kernel
theorem dX1_find_21 : decode cX1_find 21 = .ok (.laload, 1) := by decide +kernel
theorem dX1_find_22 : decode cX1_find 22 = .ok (.lload_n 1, 1) := by decide +kernel
theorem dX1_find_23 : decode cX1_find 23 = .ok (.lcmp, 1) := by decide +kernel
theorem dX1_find_24 : decode cX1_find 24 = .ok (.ifCond .ne 5, 3) := by decide +kernel
theorem dX1_find_27 : decode cX1_find 27 = .ok (.iload_n 3, 1) := by decide +kernel
theorem dX1_find_28 : decode cX1_find 28 = .ok (.ireturn, 1) := by decide +kernel
theorem dX1_find_29 : decode cX1_find 29 = .ok (.iinc 3 1, 3) := by decide +kernel
theorem dX1_find_32 : decode cX1_find 32 = .ok (.goto (-30), 3) := by decide +kernel
theorem dX1_find_35 : decode cX1_find 35 = .ok (.iconst (-1), 1) := by decide +kernel
theorem dX1_find_36 : decode cX1_find 36 = .ok (.ireturn, 1) := by decide +kernel
theorem dX1_moveAt_0 : decode cX1_moveAt 0 = .ok (.aload_n 1, 1) := by decide +kernel
theorem dX1_moveAt_1 : decode cX1_moveAt 1 = .ok (.iload_n 2, 1) := by decide +kernel
theorem dX1_moveAt_2 : decode cX1_moveAt 2 = .ok (.iload_n 3, 1) := by decide +kernel
theorem dX1_moveAt_3 : decode cX1_moveAt 3 = .ok (.iconst 1, 1) := by decide +kernel
theorem dX1_moveAt_4 : decode cX1_moveAt 4 = .ok (.invokevirtual 27, 3) := by decide +kernel
theorem dX1_moveAt_7 : decode cX1_moveAt 7 = .ok (.lstore 4, 2) := by decide +kernel
theorem dX1_moveAt_9 : decode cX1_moveAt 9 = .ok (.aload_n 1, 1) := by decide +kernel
theorem dX1_moveAt_10 : decode cX1_moveAt 10 = .ok (.iload_n 2, 1) := by decide +kernel
theorem dX1_moveAt_11 : decode cX1_moveAt 11 = .ok (.iload_n 3, 1) := by decide +kernel
theorem dX1_moveAt_12 : decode cX1_moveAt 12 = .ok (.iconst (-1), 1) := by decide +kernel
theorem dX1_moveAt_13 : decode cX1_moveAt 13 = .ok (.invokevirtual 27, 3) := by decide +kernel
theorem dX1_moveAt_16 : decode cX1_moveAt 16 = .ok (.lstore 6, 2) := by decide +kernel
theorem dX1_moveAt_18 : decode cX1_moveAt 18 = .ok (.aload_n 0, 1) := by decide +kernel
theorem dX1_moveAt_19 : decode cX1_moveAt 19 = .ok (.lload 4, 2) := by decide +kernel
theorem dX1_moveAt_21 : decode cX1_moveAt 21 = .ok (.lload 6, 2) := by decide +kernel
theorem dX1_moveAt_23 : decode cX1_moveAt 23 = .ok (.invokestatic 33, 3) := by decide +kernel
theorem dX1_moveAt_26 : decode cX1_moveAt 26 = .ok (.invokevirtual 23, 3) := by decide +kernel
theorem dX1_moveAt_29 : decode cX1_moveAt 29 = .ok (.istore 8, 2) := by decide +kernel
theorem dX1_moveAt_31 : decode cX1_moveAt 31 = .ok (.iload 8, 2) := by decide +kernel
theorem dX1_moveAt_33 : decode cX1_moveAt 33 = .ok (.bipush 30, 2) := by decide +kernel
theorem dX1_moveAt_35 : decode cX1_moveAt 35 = .ok (.invokestatic 39, 3) := by decide +kernel
theorem dX1_moveAt_38 : decode cX1_moveAt 38 = .ok (.ifCond .eq 7, 3) := by decide +kernel
theorem dX1_moveAt_41 : decode cX1_moveAt 41 = .ok (.iconst 0, 1) := by decide +kernel
theorem dX1_moveAt_42 : decode cX1_moveAt 42 = .ok (.goto 10, 3) := by decide +kernel
theorem dX1_moveAt_45 : decode cX1_moveAt 45 = .ok (.aload_n 0, 1) := by decide +kernel
theorem dX1_moveAt_46 : decode cX1_moveAt 46 = .ok (.getfield 15, 3) := by decide +kernel
theorem dX1_moveAt_49 : decode cX1_moveAt 49 = .ok (.iload 8, 2) := by decide +kernel
theorem dX1_moveAt_51 : decode cX1_moveAt 51 = .ok (.iaload, 1) := by decide +kernel
theorem dX1_moveAt_52 : decode cX1_moveAt 52 = .ok (.istore 9, 2) := by decide +kernel
theorem dX1_moveAt_54 : decode cX1_moveAt 54 = .ok (.iload 9, 2) := by decide +kernel
theorem dX1_moveAt_56 : decode cX1_moveAt 56 = .ok (.ifCond .ne 5, 3) := by decide +kernel
theorem dX1_moveAt_59 : decode cX1_moveAt 59 = .ok (.iconst 0, 1) := by decide +kernel
theorem dX1_moveAt_60 : decode cX1_moveAt 60 = .ok (.ireturn, 1) := by decide +kernel
theorem dX1_moveAt_61 : decode cX1_moveAt 61 = .ok (.lload 4, 2) := by decide +kernel
theorem dX1_moveAt_63 : decode cX1_moveAt 63 = .ok (.lload 6, 2) := by decide +kernel
theorem dX1_moveAt_65 : decode cX1_moveAt 65 = .ok (.lcmp, 1) := by decide +kernel
theorem dX1_moveAt_66 : decode cX1_moveAt 66 = .ok (.ifCond .ne 5, 3) := by decide +kernel
theorem dX1_moveAt_69 : decode cX1_moveAt 69 = .ok (.iconst 2, 1) := by decide +kernel
theorem dX1_moveAt_70 : decode cX1_moveAt 70 = .ok (.ireturn, 1) := by decide +kernel
theorem dX1_moveAt_71 : decode cX1_moveAt 71 = .ok (.lload 4, 2) := by decide +kernel
theorem dX1_moveAt_73 : decode cX1_moveAt 73 = .ok (.lload 6, 2) := by decide +kernel
theorem dX1_moveAt_75 : decode cX1_moveAt 75 = .ok (.lcmp, 1) := by decide +kernel
theorem dX1_moveAt_76 : decode cX1_moveAt 76 = .ok (.ifCond .ge 7, 3) := by decide +kernel
theorem dX1_moveAt_79 : decode cX1_moveAt 79 = .ok (.iconst 1, 1) := by decide +kernel
theorem dX1_moveAt_80 : decode cX1_moveAt 80 = .ok (.goto 4, 3) := by decide +kernel
theorem dX1_moveAt_83 : decode cX1_moveAt 83 = .ok (.iconst 0, 1) := by decide +kernel
theorem dX1_moveAt_84 : decode cX1_moveAt 84 = .ok (.iload 9, 2) := by decide +kernel
theorem dX1_moveAt_86 : decode cX1_moveAt 86 = .ok (.iconst 1, 1) := by decide +kernel
theorem dX1_moveAt_87 : decode cX1_moveAt 87 = .ok (.if_icmp .ne 7, 3) := by decide +kernel
theorem dX1_moveAt_90 : decode cX1_moveAt 90 = .ok (.iconst 1, 1) := by decide +kernel
theorem dX1_moveAt_91 : decode cX1_moveAt 91 = .ok (.goto 4, 3) := by decide +kernel
theorem dX1_moveAt_94 : decode cX1_moveAt 94 = .ok (.iconst 0, 1) := by decide +kernel
theorem dX1_moveAt_95 : decode cX1_moveAt 95 = .ok (.if_icmp .ne 7, 3) := by decide +kernel
theorem dX1_moveAt_98 : decode cX1_moveAt 98 = .ok (.iconst 1, 1) := by decide +kernel
theorem dX1_moveAt_99 : decode cX1_moveAt 99 = .ok (.goto 4, 3) := by decide +kernel
theorem dX1_moveAt_102 : decode cX1_moveAt 102 = .ok (.iconst (-1), 1) := by decide +kernel
theorem dX1_moveAt_103 : decode cX1_moveAt 103 = .ok (.ireturn, 1) := by decide +kernel
theorem dX2_init_0 : decode cX2_init 0 = .ok (.aload_n 0, 1) := by decide +kernel
theorem dX2_init_1 : decode cX2_init 1 = .ok (.invokespecial 3, 3) := by decide +kernel
theorem dX2_init_4 : decode cX2_init 4 = .ok (.aload_n 0, 1) := by decide +kernel
theorem dX2_init_5 : decode cX2_init 5 = .ok (.iconst 0, 1) := by decide +kernel
theorem dX2_init_6 : decode cX2_init 6 = .ok (.putfield 11, 3) := by decide +kernel
theorem dX2_init_9 : decode cX2_init 9 = .ok (.aload_n 0, 1) := by decide +kernel
theorem dX2_init_10 : decode cX2_init 10 = .ok (.iconst 0, 1) := by decide +kernel
theorem dX2_init_11 : decode cX2_init 11 = .ok (.putfield 15, 3) := by decide +kernel
theorem dX2_init_14 : decode cX2_init 14 = .ok (.aload_n 0, 1) := by decide +kernel
theorem dX2_init_15 : decode cX2_init 15 = .ok (.iconst 0, 1) := by decide +kernel
theorem dX2_init_16 : decode cX2_init 16 = .ok (.putfield 18, 3) := by decide +kernel
theorem dX2_init_19 : decode cX2_init 19 = .ok (.aload_n 0, 1) := by decide +kernel
theorem dX2_init_20 : decode cX2_init 20 = .ok (.lconst 0, 1) := by decide +kernel
theorem dX2_init_21 : decode cX2_init 21 = .ok (.putfield 21, 3) := by decide +kernel
theorem dX2_init_24 : decode cX2_init 24 = .ok (.aload_n 0, 1) := by decide +kernel
theorem dX2_init_25 : decode cX2_init 25 = .ok (.aload_n 1, 1) := by decide +kernel
theorem dX2_init_26 : decode cX2_init 26 = .ok (.putfield 25, 3) := by decide +kernel
theorem dX2_init_29 : decode cX2_init 29 = .ok (.return_, 1) := by decide +kernel
theorem dX2_read_0 : decode cX2_read 0 = .ok (.aload_n 1, 1) := by decide +kernel
theorem dX2_read_1 : decode cX2_read 1 = .ok (.invokevirtual 29, 3) := by decide +kernel
theorem dX2_read_4 : decode cX2_read 4 = .ok (.aload_n 0, 1) := by decide +kernel
theorem dX2_read_5 : decode cX2_read 5 = .ok (.getfield 25, 3) := by decide +kernel
theorem dX2_read_8 : decode cX2_read 8 = .ok (.invokevirtual 34, 3) := by decide +kernel
theorem dX2_read_11 : decode cX2_read 11 = .ok (.aload_n 0, 1) := by decide +kernel
theorem dX2_read_12 : decode cX2_read 12 = .ok (.iconst 0, 1) := by decide +kernel
theorem dX2_read_13 : decode cX2_read 13 = .ok (.putfield 11, 3) := by decide +kernel
theorem dX2_read_16 : decode cX2_read 16 = .ok (.aload_n 0, 1) := by decide +kernel
theorem dX2_read_17 : decode cX2_read 17 = .ok (.iconst 0, 1) := by decide +kernel
theorem dX2_read_18 : decode cX2_read 18 = .ok (.putfield 18, 3) := by decide +kernel
theorem dX2_read_21 : decode cX2_read 21 = .ok (.iconst 0, 1) := by decide +kernel
theorem dX2_read_22 : decode cX2_read 22 = .ok (.istore_n 2, 1) := by decide +kernel
theorem dX2_read_23 : decode cX2_read 23 = .ok (.iload_n 2, 1) := by decide +kernel
theorem dX2_read_24 : decode cX2_read 24 = .ok (.sipush 400, 3) := by decide +kernel
theorem dX2_read_27 : decode cX2_read 27 = .ok (.if_icmp .gt 44, 3) := by decide +kernel
theorem dX2_read_30 : decode cX2_read 30 = .ok (.aload_n 0, 1) := by decide +kernel
theorem dX2_read_31 : decode cX2_read 31 = .ok (.getfield 25, 3) := by decide +kernel
theorem dX2_read_34 : decode cX2_read 34 = .ok (.invokevirtual 39, 3) := by decide +kernel
theorem dX2_read_37 : decode cX2_read 37 = .ok (.aload_n 0, 1) := by decide +kernel
theorem dX2_read_38 : decode cX2_read 38 = .ok (.aload_n 1, 1) := by decide +kernel
theorem dX2_read_39 : decode cX2_read 39 = .ok (.invokevirtual 42, 3) := by decide +kernel
theorem dX2_read_42 : decode cX2_read 42 = .ok (.istore_n 3, 1) := by decide +kernel
theorem dX2_read_43 : decode cX2_read 43 = .ok (.iload_n 3, 1) := by decide +kernel
theorem dX2_read_44 : decode cX2_read 44 = .ok (.ifCond .ne 14, 3) := by decide +kernel
theorem dX2_read_47 : decode cX2_read 47 = .ok (.aload_n 0, 1) := by decide +kernel
theorem dX2_read_48 : decode cX2_read 48 = .ok (.getfield 25, 3) := by decide +kernel
theorem dX2_read_51 : decode cX2_read 51 = .ok (.getfield 46, 3) := by decide +kernel
theorem dX2_read_54 : decode cX2_read 54 = .ok (.iconst 1, 1) := by decide +kernel
theorem dX2_read_55 : decode cX2_read 55 = .ok (.if_icmp .ne 5, 3) := by decide +kernel
theorem dX2_read_58 : decode cX2_read 58 = .ok (.iload_n 3, 1) := by decide +kernel
theorem dX2_read_59 : decode cX2_read 59 = .ok (.ireturn, 1) := by decide +kernel
theorem dX2_read_60 : decode cX2_read 60 = .ok (.aload_n 0, 1) := by decide +kernel
theorem dX2_read_61 : decode cX2_read 61 = .ok (.aload_n 1, 1) := by decide +kernel
theorem dX2_read_62 : decode cX2_read 62 = .ok (.invokevirtual 49, 3) := by decide +kernel
theorem dX2_read_65 : decode cX2_read 65 = .ok (.iinc 2 1, 3) := by decide +kernel
theorem dX2_read_68 : decode cX2_read 68 = .ok (.goto (-45), 3) := by decide +kernel
theorem dX2_read_71 : decode cX2_read 71 = .ok (.iconst 0, 1) := by decide +kernel
theorem dX2_read_72 : decode cX2_read 72 = .ok (.ireturn, 1) := by decide +kernel
theorem dX2_faultAgainst_0 : decode cX2_faultAgainst 0 = .ok (.aload_n 0, 1) := by decide +kernel
theorem dX2_faultAgainst_1 : decode cX2_faultAgainst 1 = .ok (.invokevirtual 53, 3) := by decide +kernel
theorem dX2_faultAgainst_4 : decode cX2_faultAgainst 4 = .ok (.ifCond .ne 5, 3) := by decide +kernel
theorem dX2_faultAgainst_7 : decode cX2_faultAgainst 7 = .ok (.iconst 1, 1) := by decide +kernel
theorem dX2_faultAgainst_8 : decode cX2_faultAgainst 8 = .ok (.ireturn, 1) := by decide +kernel
theorem dX2_faultAgainst_9 : decode cX2_faultAgainst 9 = .ok (.aload_n 0, 1) := by decide +kernel
theorem dX2_faultAgainst_10 : decode cX2_faultAgainst 10 = .ok (.getfield 25, 3) := by decide +kernel
theorem dX2_faultAgainst_13 : decode cX2_faultAgainst 13 = .ok (.getfield 46, 3) := by decide +kernel
theorem dX2_faultAgainst_16 : decode cX2_faultAgainst 16 = .ok (.iconst 2, 1) := by decide +kernel
theorem dX2_faultAgainst_17 : decode cX2_faultAgainst 17 = .ok (.if_icmp .ne 15, 3) := by decide +kernel
theorem dX2_faultAgainst_20 : decode cX2_faultAgainst 20 = .ok (.aload_n 0, 1) := by decide +kernel
theorem dX2_faultAgainst_21 : decode cX2_faultAgainst 21 = .ok (.getfield 25, 3) := by decide +kernel
theorem dX2_faultAgainst_24 : decode cX2_faultAgainst 24 = .ok (.getfield 57, 3) := by decide +kernel
theorem dX2_faultAgainst_27 : decode cX2_faultAgainst 27 = .ok (.ifCond .ne 5, 3) := by decide +kernel
theorem dX2_faultAgainst_30 : decode cX2_faultAgainst 30 = .ok (.iconst 2, 1) := by decide +kernel
theorem dX2_faultAgainst_31 : decode cX2_faultAgainst 31 = .ok (.ireturn, 1) := by decide +kernel
theorem dX2_faultAgainst_32 : decode cX2_faultAgainst 32 = .ok (.aload_n 0, 1) := by decide +kernel
theorem dX2_faultAgainst_33 : decode cX2_faultAgainst 33 = .ok (.aload_n 1, 1) := by decide +kernel
theorem dX2_faultAgainst_34 : decode cX2_faultAgainst 34 = .ok (.invokevirtual 60, 3) := by decide +kernel
theorem dX2_faultAgainst_37 : decode cX2_faultAgainst 37 = .ok (.ifCond .eq 7, 3) := by decide +kernel
theorem dX2_faultAgainst_40 : decode cX2_faultAgainst 40 = .ok (.iconst 3, 1) := by decide +kernel
theorem dX2_faultAgainst_41 : decode cX2_faultAgainst 41 = .ok (.goto 4, 3) := by decide +kernel
theorem dX2_faultAgainst_44 : decode cX2_faultAgainst 44 = .ok (.iconst 0, 1) := by decide +kernel
theorem dX2_faultAgainst_45 : decode cX2_faultAgainst 45 = .ok (.ireturn, 1) := by decide +kernel
theorem dX2_isPlaced_0 : decode cX2_isPlaced 0 = .ok (.aload_n 0, 1) := by decide +kernel
theorem dX2_isPlaced_1 : decode cX2_isPlaced 1 = .ok (.getfield 11, 3) := by decide +kernel
theorem dX2_isPlaced_4 : decode cX2_isPlaced 4 = .ok (.tableswitch 110 0 4 #[36, 110, 110, 64, 93], 36) := by decide +kernel
theorem dX2_isPlaced_40 : decode cX2_isPlaced 40 = .ok (.aload_n 0, 1) := by decide +kernel
theorem dX2_isPlaced_41 : decode cX2_isPlaced 41 = .ok (.getfield 25, 3) := by decide +kernel
theorem dX2_isPlaced_44 : decode cX2_isPlaced 44 = .ok (.getfield 46, 3) := by decide +kernel
theorem dX2_isPlaced_47 : decode cX2_isPlaced 47 = .ok (.iconst 5, 1) := by decide +kernel
theorem dX2_isPlaced_48 : decode cX2_isPlaced 48 = .ok (.if_icmp .eq 14, 3) := by decide +kernel
theorem dX2_isPlaced_51 : decode cX2_isPlaced 51 = .ok (.aload_n 0, 1) := by decide +kernel
theorem dX2_isPlaced_52 : decode cX2_isPlaced 52 = .ok (.getfield 25, 3) := by decide +kernel
theorem dX2_isPlaced_55 : decode cX2_isPlaced 55 = .ok (.getfield 46, 3) := by decide +kernel
theorem dX2_isPlaced_58 : decode cX2_isPlaced 58 = .ok (.iconst 1, 1) := by decide +kernel
theorem dX2_isPlaced_59 : decode cX2_isPlaced 59 = .ok (.if_icmp .ne 7, 3) := by decide +kernel
theorem dX2_isPlaced_62 : decode cX2_isPlaced 62 = .ok (.iconst 1, 1) := by decide +kernel
theorem dX2_isPlaced_63 : decode cX2_isPlaced 63 = .ok (.goto 4, 3) := by decide +kernel
theorem dX2_isPlaced_66 : decode cX2_isPlaced 66 = .ok (.iconst 0, 1) := by decide +kernel
theorem dX2_isPlaced_67 : decode cX2_isPlaced 67 = .ok (.ireturn, 1) := by decide +kernel
theorem dX2_isPlaced_68 : decode cX2_isPlaced 68 = .ok (.aload_n 0, 1) := by decide +kernel
theorem dX2_isPlaced_69 : decode cX2_isPlaced 69 = .ok (.getfield 25, 3) := by decide +kernel
theorem dX2_isPlaced_72 : decode cX2_isPlaced 72 = .ok (.getfield 46, 3) := by decide +kernel
theorem dX2_isPlaced_75 : decode cX2_isPlaced 75 = .ok (.iconst 3, 1) := by decide +kernel
theorem dX2_isPlaced_76 : decode cX2_isPlaced 76 = .ok (.if_icmp .eq 15, 3) := by decide +kernel
theorem dX2_isPlaced_79 : decode cX2_isPlaced 79 = .ok (.aload_n 0, 1) := by decide +kernel
theorem dX2_isPlaced_80 : decode cX2_isPlaced 80 = .ok (.getfield 25, 3) := by decide +kernel
theorem dX2_isPlaced_83 : decode cX2_isPlaced 83 = .ok (.getfield 46, 3) := by decide +kernel
theorem dX2_isPlaced_86 : decode cX2_isPlaced 86 = .ok (.bipush 6, 2) := by decide +kernel
theorem dX2_isPlaced_88 : decode cX2_isPlaced 88 = .ok (.if_icmp .ne 7, 3) := by decide +kernel
theorem dX2_isPlaced_91 : decode cX2_isPlaced 91 = .ok (.iconst 1, 1) := by decide +kernel
theorem dX2_isPlaced_92 : decode cX2_isPlaced 92 = .ok (.goto 4, 3) := by decide +kernel
theorem dX2_isPlaced_95 : decode cX2_isPlaced 95 = .ok (.iconst 0, 1) := by decide +kernel
theorem dX2_isPlaced_96 : decode cX2_isPlaced 96 = .ok (.ireturn, 1) := by decide +kernel
theorem dX2_isPlaced_97 : decode cX2_isPlaced 97 = .ok (.aload_n 0, 1) := by decide +kernel
theorem dX2_isPlaced_98 : decode cX2_isPlaced 98 = .ok (.getfield 25, 3) := by decide +kernel
theorem dX2_isPlaced_101 : decode cX2_isPlaced 101 = .ok (.getfield 46, 3) := by decide +kernel
theorem dX2_isPlaced_104 : decode cX2_isPlaced 104 = .ok (.iconst 4, 1) := by decide +kernel
theorem dX2_isPlaced_105 : decode cX2_isPlaced 105 = .ok (.if_icmp .ne 7, 3) := by decide +kernel
theorem dX2_isPlaced_108 : decode cX2_isPlaced 108 = .ok (.iconst 1, 1) := by decide +kernel
theorem dX2_isPlaced_109 : decode cX2_isPlaced 109 = .ok (.goto 4, 3) := by decide +kernel
theorem dX2_isPlaced_112 : decode cX2_isPlaced 112 = .ok (.iconst 0, 1) := by decide +kernel
theorem dX2_isPlaced_113 : decode cX2_isPlaced 113 = .ok (.ireturn, 1) := by decide +kernel
theorem dX2_isPlaced_114 : decode cX2_isPlaced 114 = .ok (.aload_n 0, 1) := by decide +kernel
theorem dX2_isPlaced_115 : decode cX2_isPlaced 115 = .ok (.getfield 25, 3) := by decide +kernel
theorem dX2_isPlaced_118 : decode cX2_isPlaced 118 = .ok (.getfield 46, 3) := by decide +kernel
theorem dX2_isPlaced_121 : decode cX2_isPlaced 121 = .ok (.iconst 2, 1) := by decide +kernel
theorem dX2_isPlaced_122 : decode cX2_isPlaced 122 = .ok (.if_icmp .ne 7, 3) := by decide +kernel
theorem dX2_isPlaced_125 : decode cX2_isPlaced 125 = .ok (.iconst 1, 1) := by decide +kernel
theorem dX2_isPlaced_126 : decode cX2_isPlaced 126 = .ok (.goto 4, 3) := by decide +kernel
theorem dX2_isPlaced_129 : decode cX2_isPlaced 129 = .ok (.iconst 0, 1) := by decide +kernel
theorem dX2_isPlaced_130 : decode cX2_isPlaced 130 = .ok (.ireturn, 1) := by decide +kernel
theorem dX2_isTooMuch_0 : decode cX2_isTooMuch 0 = .ok (.aload_n 0, 1) := by decide +kernel
theorem dX2_isTooMuch_1 : decode cX2_isTooMuch 1 = .ok (.getfield 25, 3) := by decide +kernel
theorem dX2_isTooMuch_4 : decode cX2_isTooMuch 4 = .ok (.getfield 46, 3) := by decide +kernel
theorem dX2_isTooMuch_7 : decode cX2_isTooMuch 7 = .ok (.tableswitch 67 3 6 #[29, 67, 43, 58], 29) := by decide +kernel
theorem dX2_isTooMuch_36 : decode cX2_isTooMuch 36 = .ok (.aload_n 0, 1) := by decide +kernel
theorem dX2_isTooMuch_37 : decode cX2_isTooMuch 37 = .ok (.getfield 15, 3) := by decide +kernel
theorem dX2_isTooMuch_40 : decode cX2_isTooMuch 40 = .ok (.iconst 4, 1) := by decide +kernel
theorem dX2_isTooMuch_41 : decode cX2_isTooMuch 41 = .ok (.if_icmp .lt 7, 3) := by decide +kernel
theorem dX2_isTooMuch_44 : decode cX2_isTooMuch 44 = .ok (.iconst 1, 1) := by decide +kernel
theorem dX2_isTooMuch_45 : decode cX2_isTooMuch 45 = .ok (.goto 4, 3) := by decide +kernel
theorem dX2_isTooMuch_48 : decode cX2_isTooMuch 48 = .ok (.iconst 0, 1) := by decide +kernel
theorem dX2_isTooMuch_49 : decode cX2_isTooMuch 49 = .ok (.ireturn, 1) := by decide +kernel
theorem dX2_isTooMuch_50 : decode cX2_isTooMuch 50 = .ok (.aload_n 0, 1) := by decide +kernel
theorem dX2_isTooMuch_51 : decode cX2_isTooMuch 51 = .ok (.getfield 18, 3) := by decide +kernel
theorem dX2_isTooMuch_54 : decode cX2_isTooMuch 54 = .ok (.bipush 30, 2) := by decide +kernel
theorem dX2_isTooMuch_56 : decode cX2_isTooMuch 56 = .ok (.if_icmp .lt 7, 3) := by decide +kernel
theorem dX2_isTooMuch_59 : decode cX2_isTooMuch 59 = .ok (.iconst 1, 1) := by decide +kernel
theorem dX2_isTooMuch_60 : decode cX2_isTooMuch 60 = .ok (.goto 4, 3) := by decide +kernel
theorem dX2_isTooMuch_63 : decode cX2_isTooMuch 63 = .ok (.iconst 0, 1) := by decide +kernel
theorem dX2_isTooMuch_64 : decode cX2_isTooMuch 64 = .ok (.ireturn, 1) := by decide +kernel
theorem dX2_isTooMuch_65 : decode cX2_isTooMuch 65 = .ok (.aload_n 1, 1) := by decide +kernel
theorem dX2_isTooMuch_66 : decode cX2_isTooMuch 66 = .ok (.aload_n 0, 1) := by decide +kernel
theorem dX2_isTooMuch_67 : decode cX2_isTooMuch 67 = .ok (.getfield 21, 3) := by decide +kernel
theorem dX2_isTooMuch_70 : decode cX2_isTooMuch 70 = .ok (.invokevirtual 64, 3) := by decide +kernel
theorem dX2_isTooMuch_73 : decode cX2_isTooMuch 73 = .ok (.ireturn, 1) := by decide +kernel
theorem dX2_isTooMuch_74 : decode cX2_isTooMuch 74 = .ok (.iconst 0, 1) := by decide +kernel
theorem dX2_isTooMuch_75 : decode cX2_isTooMuch 75 = .ok (.ireturn, 1) := by decide +kernel
theorem dX2_take_0 : decode cX2_take 0 = .ok (.aload_n 0, 1) := by decide +kernel
theorem dX2_take_1 : decode cX2_take 1 = .ok (.getfield 25, 3) := by decide +kernel
theorem dX2_take_4 : decode cX2_take 4 = .ok (.getfield 46, 3) := by decide +kernel
theorem dX2_take_7 : decode cX2_take 7 = .ok (.tableswitch 99 2 6 #[61, 68, 99, 33, 76], 33) := by decide +kernel
theorem dX2_take_40 : decode cX2_take 40 = .ok (.aload_n 0, 1) := by decide +kernel
theorem dX2_take_41 : decode cX2_take 41 = .ok (.dup, 1) := by decide +kernel
theorem dX2_take_42 : decode cX2_take 42 = .ok (.getfield 18, 3) := by decide +kernel
theorem dX2_take_45 : decode cX2_take 45 = .ok (.iconst 1, 1) := by decide +kernel
theorem dX2_take_46 : decode cX2_take 46 = .ok (.iadd, 1) := by decide +kernel
theorem dX2_take_47 : decode cX2_take 47 = .ok (.putfield 18, 3) := by decide +kernel
theorem dX2_take_50 : decode cX2_take 50 = .ok (.aload_n 0, 1) := by decide +kernel
theorem dX2_take_51 : decode cX2_take 51 = .ok (.iconst 0, 1) := by decide +kernel
theorem dX2_take_52 : decode cX2_take 52 = .ok (.putfield 15, 3) := by decide +kernel
theorem dX2_take_55 : decode cX2_take 55 = .ok (.aload_n 0, 1) := by decide +kernel
theorem dX2_take_56 : decode cX2_take 56 = .ok (.lconst 0, 1) := by decide +kernel
theorem dX2_take_57 : decode cX2_take 57 = .ok (.putfield 21, 3) := by decide +kernel
theorem dX2_take_60 : decode cX2_take 60 = .ok (.aload_n 0, 1) := by decide +kernel
theorem dX2_take_61 : decode cX2_take 61 = .ok (.iconst 1, 1) := by decide +kernel
theorem dX2_take_62 : decode cX2_take 62 = .ok (.putfield 11, 3) := by decide +kernel
theorem dX2_take_65 : decode cX2_take 65 = .ok (.goto 46, 3) := by decide +kernel
theorem dX2_take_68 : decode cX2_take 68 = .ok (.aload_n 0, 1) := by decide +kernel
theorem dX2_take_69 : decode cX2_take 69 = .ok (.invokevirtual 68, 3) := by decide +kernel
theorem dX2_take_72 : decode cX2_take 72 = .ok (.goto 39, 3) := by decide +kernel
theorem dX2_take_75 : decode cX2_take 75 = .ok (.aload_n 0, 1) := by decide +kernel
theorem dX2_take_76 : decode cX2_take 76 = .ok (.iconst 1, 1) := by decide +kernel
theorem dX2_take_77 : decode cX2_take 77 = .ok (.putfield 11, 3) := by decide +kernel
theorem dX2_take_80 : decode cX2_take 80 = .ok (.goto 31, 3) := by decide +kernel
theorem dX2_take_83 : decode cX2_take 83 = .ok (.aload_n 1, 1) := by decide +kernel
theorem dX2_take_84 : decode cX2_take 84 = .ok (.aload_n 0, 1) := by decide +kernel
theorem dX2_take_85 : decode cX2_take 85 = .ok (.getfield 21, 3) := by decide +kernel
theorem dX2_take_88 : decode cX2_take 88 = .ok (.aload_n 0, 1) := by decide +kernel
theorem dX2_take_89 : decode cX2_take 89 = .ok (.getfield 25, 3) := by decide +kernel
theorem dX2_take_92 : decode cX2_take 92 = .ok (.getfield 57, 3) := by decide +kernel
theorem dX2_take_95 : decode cX2_take 95 = .ok (.invokevirtual 71, 3) := by decide +kernel
theorem dX2_take_98 : decode cX2_take 98 = .ok (.aload_n 0, 1) := by decide +kernel
theorem dX2_take_99 : decode cX2_take 99 = .ok (.iconst 4, 1) := by decide +kernel
theorem dX2_take_100 : decode cX2_take 100 = .ok (.putfield 11, 3) := by decide +kernel
theorem dX2_take_103 : decode cX2_take 103 = .ok (.goto 8, 3) := by decide +kernel
theorem dX2_take_106 : decode cX2_take 106 = .ok (.aload_n 0, 1) := by decide +kernel
theorem dX2_take_107 : decode cX2_take 107 = .ok (.iconst 0, 1) := by decide +kernel
theorem dX2_take_108 : decode cX2_take 108 = .ok (.putfield 11, 3) := by decide +kernel
theorem dX2_take_111 : decode cX2_take 111 = .ok (.return_, 1) := by decide +kernel
theorem dX2_takeNumber_0 : decode cX2_takeNumber 0 = .ok (.aload_n 0, 1) := by decide +kernel
theorem dX2_takeNumber_1 : decode cX2_takeNumber 1 = .ok (.aload_n 0, 1) := by decide +kernel
theorem dX2_takeNumber_2 : decode cX2_takeNumber 2 = .ok (.getfield 21, 3) := by decide +kernel
theorem dX2_takeNumber_5 : decode cX2_takeNumber 5 = .ok (.aload_n 0, 1) := by decide +kernel
theorem dX2_takeNumber_6 : decode cX2_takeNumber 6 = .ok (.getfield 25, 3) := by decide +kernel
theorem dX2_takeNumber_9 : decode cX2_takeNumber 9 = .ok (.getfield 57, 3) := by decide +kernel
theorem dX2_takeNumber_12 : decode cX2_takeNumber 12 = .ok (.invokestatic 75, 3) := by decide +kernel
theorem dX2_takeNumber_15 : decode cX2_takeNumber 15 = .ok (.putfield 21, 3) := by decide +kernel
theorem dX2_takeNumber_18 : decode cX2_takeNumber 18 = .ok (.aload_n 0, 1) := by decide +kernel
theorem dX2_takeNumber_19 : decode cX2_takeNumber 19 = .ok (.getfield 11, 3) := by decide +kernel
theorem dX2_takeNumber_22 : decode cX2_takeNumber 22 = .ok (.iconst 2, 1) := by decide +kernel
theorem dX2_takeNumber_23 : decode cX2_takeNumber 23 = .ok (.if_icmp .ne 13, 3) := by decide +kernel
theorem dX2_takeNumber_26 : decode cX2_takeNumber 26 = .ok (.aload_n 0, 1) := by decide +kernel
theorem dX2_takeNumber_27 : decode cX2_takeNumber 27 = .ok (.dup, 1) := by decide +kernel
theorem dX2_takeNumber_28 : decode cX2_takeNumber 28 = .ok (.getfield 15, 3) := by decide +kernel
theorem dX2_takeNumber_31 : decode cX2_takeNumber 31 = .ok (.iconst 1, 1) := by decide +kernel
theorem dX2_takeNumber_32 : decode cX2_takeNumber 32 = .ok (.iadd, 1) := by decide +kernel
theorem dX2_takeNumber_33 : decode cX2_takeNumber 33 = .ok (.putfield 15, 3) := by decide +kernel
theorem dX2_takeNumber_36 : decode cX2_takeNumber 36 = .ok (.aload_n 0, 1) := by decide +kernel
theorem dX2_takeNumber_37 : decode cX2_takeNumber 37 = .ok (.aload_n 0, 1) := by decide +kernel
theorem dX2_takeNumber_38 : decode cX2_takeNumber 38 = .ok (.getfield 11, 3) := by decide +kernel
theorem dX2_takeNumber_41 : decode cX2_takeNumber 41 = .ok (.iconst 1, 1) := by decide +kernel
theorem dX2_takeNumber_42 : decode cX2_takeNumber 42 = .ok (.if_icmp .ne 7, 3) := by decide +kernel
theorem dX2_takeNumber_45 : decode cX2_takeNumber 45 = .ok (.iconst 2, 1) := by decide +kernel
theorem dX2_takeNumber_46 : decode cX2_takeNumber 46 = .ok (.goto 4, 3) := by decide +kernel
theorem dX2_takeNumber_49 : decode cX2_takeNumber 49 = .ok (.iconst 3, 1) := by decide +kernel
theorem dX2_takeNumber_50 : decode cX2_takeNumber 50 = .ok (.putfield 11, 3) := by decide +kernel
theorem dX2_takeNumber_53 : decode cX2_takeNumber 53 = .ok (.return_, 1) := by decide +kernel
theorem dX3_init_0 : decode cX3_init 0 = .ok (.aload_n 0, 1) := by decide +kernel
theorem dX3_init_1 : decode cX3_init 1 = .ok (.invokespecial 3, 3) := by decide +kernel
theorem dX3_init_4 : decode cX3_init 4 = .ok (.aload_n 0, 1) := by decide +kernel
theorem dX3_init_5 : decode cX3_init 5 = .ok (.iload_n 1, 1) := by decide +kernel
theorem dX3_init_6 : decode cX3_init 6 = .ok (.putfield 9, 3) := by decide +kernel
theorem dX3_init_9 : decode cX3_init 9 = .ok (.aload_n 0, 1) := by decide +kernel
theorem dX3_init_10 : decode cX3_init 10 = .ok (.iconst 1, 1) := by decide +kernel
theorem dX3_init_11 : decode cX3_init 11 = .ok (.iconst 3, 1) := by decide +kernel
theorem dX3_init_12 : decode cX3_init 12 = .ok (.iload_n 1, 1) := by decide +kernel
theorem dX3_init_13 : decode cX3_init 13 = .ok (.imul, 1) := by decide +kernel
theorem dX3_init_14 : decode cX3_init 14 = .ok (.ishl, 1) := by decide +kernel
theorem dX3_init_15 : decode cX3_init 15 = .ok (.iconst 1, 1) := by decide +kernel
theorem dX3_init_16 : decode cX3_init 16 = .ok (.isub, 1) := by decide +kernel
theorem dX3_init_17 : decode cX3_init 17 = .ok (.putfield 15, 3) := by decide +kernel
theorem dX3_init_20 : decode cX3_init 20 = .ok (.return_, 1) := by decide +kernel
theorem dX3_oneAt_0 : decode cX3_oneAt 0 = .ok (.iconst 1, 1) := by decide +kernel
theorem dX3_oneAt_1 : decode cX3_oneAt 1 = .ok (.iconst 3, 1) := by decide +kernel
theorem dX3_oneAt_2 : decode cX3_oneAt 2 = .ok (.aload_n 0, 1) := by decide +kernel
theorem dX3_oneAt_3 : decode cX3_oneAt 3 = .ok (.getfield 9, 3) := by decide +kernel
theorem dX3_oneAt_6 : decode cX3_oneAt 6 = .ok (.iconst 1, 1) := by decide +kernel
theorem dX3_oneAt_7 : decode cX3_oneAt 7 = .ok (.isub, 1) := by decide +kernel
theorem dX3_oneAt_8 : decode cX3_oneAt 8 = .ok (.iload_n 1, 1) := by decide +kernel
theorem dX3_oneAt_9 : decode cX3_oneAt 9 = .ok (.isub, 1) := by decide +kernel
theorem dX3_oneAt_10 : decode cX3_oneAt 10 = .ok (.imul, 1) := by decide +kernel
theorem dX3_oneAt_11 : decode cX3_oneAt 11 = .ok (.ishl, 1) := by decide +kernel
theorem dX3_oneAt_12 : decode cX3_oneAt 12 = .ok (.ireturn, 1) := by decide +kernel
theorem dX3_manyAt_0 : decode cX3_manyAt 0 = .ok (.iload_n 1, 1) := by decide +kernel
theorem dX3_manyAt_1 : decode cX3_manyAt 1 = .ok (.iconst 3, 1) := by decide +kernel
theorem dX3_manyAt_2 : decode cX3_manyAt 2 = .ok (.aload_n 0, 1) := by decide +kernel
theorem dX3_manyAt_3 : decode cX3_manyAt 3 = .ok (.getfield 9, 3) := by decide +kernel
theorem dX3_manyAt_6 : decode cX3_manyAt 6 = .ok (.iconst 1, 1) := by decide +kernel
theorem dX3_manyAt_7 : decode cX3_manyAt 7 = .ok (.isub, 1) := by decide +kernel
theorem dX3_manyAt_8 : decode cX3_manyAt 8 = .ok (.iload_n 2, 1) := by decide +kernel
theorem dX3_manyAt_9 : decode cX3_manyAt 9 = .ok (.isub, 1) := by decide +kernel
theorem dX3_manyAt_10 : decode cX3_manyAt 10 = .ok (.imul, 1) := by decide +kernel
theorem dX3_manyAt_11 : decode cX3_manyAt 11 = .ok (.iushr, 1) := by decide +kernel
theorem dX3_manyAt_12 : decode cX3_manyAt 12 = .ok (.bipush 7, 2) := by decide +kernel
theorem dX3_manyAt_14 : decode cX3_manyAt 14 = .ok (.iand, 1) := by decide +kernel
theorem dX3_manyAt_15 : decode cX3_manyAt 15 = .ok (.ireturn, 1) := by decide +kernel
theorem dX3_beside_0 : decode cX3_beside 0 = .ok (.iload_n 1, 1) := by decide +kernel
theorem dX3_beside_1 : decode cX3_beside 1 = .ok (.iload_n 2, 1) := by decide +kernel
theorem dX3_beside_2 : decode cX3_beside 2 = .ok (.iadd, 1) := by decide +kernel
theorem dX3_beside_3 : decode cX3_beside 3 = .ok (.istore_n 3, 1) := by decide +kernel
theorem dX3_beside_4 : decode cX3_beside 4 = .ok (.iload_n 3, 1) := by decide +kernel
theorem dX3_beside_5 : decode cX3_beside 5 = .ok (.aload_n 0, 1) := by decide +kernel
theorem dX3_beside_6 : decode cX3_beside 6 = .ok (.getfield 9, 3) := by decide +kernel
theorem dX3_beside_9 : decode cX3_beside 9 = .ok (.if_icmp .lt 5, 3) := by decide +kernel
theorem dX3_beside_12 : decode cX3_beside 12 = .ok (.iconst 0, 1) := by decide +kernel
theorem dX3_beside_13 : decode cX3_beside 13 = .ok (.ireturn, 1) := by decide +kernel
theorem dX3_beside_14 : decode cX3_beside 14 = .ok (.iload_n 3, 1) := by decide +kernel
theorem dX3_beside_15 : decode cX3_beside 15 = .ok (.ifCond .ge 12, 3) := by decide +kernel
theorem dX3_beside_18 : decode cX3_beside 18 = .ok (.aload_n 0, 1) := by decide +kernel
theorem dX3_beside_19 : decode cX3_beside 19 = .ok (.getfield 9, 3) := by decide +kernel
theorem dX3_beside_22 : decode cX3_beside 22 = .ok (.iconst 1, 1) := by decide +kernel
theorem dX3_beside_23 : decode cX3_beside 23 = .ok (.isub, 1) := by decide +kernel
theorem dX3_beside_24 : decode cX3_beside 24 = .ok (.goto 4, 3) := by decide +kernel
theorem dX3_beside_27 : decode cX3_beside 27 = .ok (.iload_n 3, 1) := by decide +kernel
theorem dX3_beside_28 : decode cX3_beside 28 = .ok (.ireturn, 1) := by decide +kernel
theorem dX3_shift_0 : decode cX3_shift 0 = .ok (.aload_n 0, 1) := by decide +kernel
theorem dX3_shift_1 : decode cX3_shift 1 = .ok (.aload_n 0, 1) := by decide +kernel
theorem dX3_shift_2 : decode cX3_shift 2 = .ok (.iload_n 1, 1) := by decide +kernel
theorem dX3_shift_3 : decode cX3_shift 3 = .ok (.iload_n 2, 1) := by decide +kernel
theorem dX3_shift_4 : decode cX3_shift 4 = .ok (.invokevirtual 18, 3) := by decide +kernel
theorem dX3_shift_7 : decode cX3_shift 7 = .ok (.invokevirtual 22, 3) := by decide +kernel
theorem dX3_shift_10 : decode cX3_shift 10 = .ok (.aload_n 0, 1) := by decide +kernel
theorem dX3_shift_11 : decode cX3_shift 11 = .ok (.iload_n 1, 1) := by decide +kernel
theorem dX3_shift_12 : decode cX3_shift 12 = .ok (.invokevirtual 22, 3) := by decide +kernel
theorem dX3_shift_15 : decode cX3_shift 15 = .ok (.isub, 1) := by decide +kernel
theorem dX3_shift_16 : decode cX3_shift 16 = .ok (.ireturn, 1) := by decide +kernel
theorem dX3_robotsIn_0 : decode cX3_robotsIn 0 = .ok (.iconst 0, 1) := by decide +kernel
theorem dX3_robotsIn_1 : decode cX3_robotsIn 1 = .ok (.istore_n 2, 1) := by decide +kernel
theorem dX3_robotsIn_2 : decode cX3_robotsIn 2 = .ok (.iconst 0, 1) := by decide +kernel
theorem dX3_robotsIn_3 : decode cX3_robotsIn 3 = .ok (.istore_n 3, 1) := by decide +kernel
theorem dX3_robotsIn_4 : decode cX3_robotsIn 4 = .ok (.iload_n 3, 1) := by decide +kernel
theorem dX3_robotsIn_5 : decode cX3_robotsIn 5 = .ok (.aload_n 0, 1) := by decide +kernel
theorem dX3_robotsIn_6 : decode cX3_robotsIn 6 = .ok (.getfield 9, 3) := by decide +kernel
theorem dX3_robotsIn_9 : decode cX3_robotsIn 9 = .ok (.if_icmp .ge 18, 3) := by decide +kernel
theorem dX3_robotsIn_12 : decode cX3_robotsIn 12 = .ok (.iload_n 2, 1) := by decide +kernel
theorem dX3_robotsIn_13 : decode cX3_robotsIn 13 = .ok (.aload_n 0, 1) := by decide +kernel
theorem dX3_robotsIn_14 : decode cX3_robotsIn 14 = .ok (.iload_n 1, 1) := by decide +kernel
theorem dX3_robotsIn_15 : decode cX3_robotsIn 15 = .ok (.iload_n 3, 1) := by decide +kernel
theorem dX3_robotsIn_16 : decode cX3_robotsIn 16 = .ok (.invokevirtual 26, 3) := by decide +kernel
theorem dX3_robotsIn_19 : decode cX3_robotsIn 19 = .ok (.iadd, 1) := by decide +kernel
theorem dX3_robotsIn_20 : decode cX3_robotsIn 20 = .ok (.istore_n 2, 1) := by decide +kernel
theorem dX3_robotsIn_21 : decode cX3_robotsIn 21 = .ok (.iinc 3 1, 3) := by decide +kernel
theorem dX3_robotsIn_24 : decode cX3_robotsIn 24 = .ok (.goto (-20), 3) := by decide +kernel
theorem dX3_robotsIn_27 : decode cX3_robotsIn 27 = .ok (.iload_n 2, 1) := by decide +kernel
theorem dX3_robotsIn_28 : decode cX3_robotsIn 28 = .ok (.ireturn, 1) := by decide +kernel
theorem dX3_takenIn_0 : decode cX3_takenIn 0 = .ok (.iconst 0, 1) := by decide +kernel
theorem dX3_takenIn_1 : decode cX3_takenIn 1 = .ok (.istore_n 2, 1) := by decide +kernel
theorem dX3_takenIn_2 : decode cX3_takenIn 2 = .ok (.iconst 0, 1) := by decide +kernel
theorem dX3_takenIn_3 : decode cX3_takenIn 3 = .ok (.istore_n 3, 1) := by decide +kernel
theorem dX3_takenIn_4 : decode cX3_takenIn 4 = .ok (.iload_n 3, 1) := by decide +kernel
theorem dX3_takenIn_5 : decode cX3_takenIn 5 = .ok (.aload_n 0, 1) := by decide +kernel
theorem dX3_takenIn_6 : decode cX3_takenIn 6 = .ok (.getfield 9, 3) := by decide +kernel
theorem dX3_takenIn_9 : decode cX3_takenIn 9 = .ok (.if_icmp .ge 21, 3) := by decide +kernel
theorem dX3_takenIn_12 : decode cX3_takenIn 12 = .ok (.aload_n 0, 1) := by decide +kernel
theorem dX3_takenIn_13 : decode cX3_takenIn 13 = .ok (.iload_n 1, 1) := by decide +kernel
theorem dX3_takenIn_14 : decode cX3_takenIn 14 = .ok (.iload_n 3, 1) := by decide +kernel
theorem dX3_takenIn_15 : decode cX3_takenIn 15 = .ok (.invokevirtual 26, 3) := by decide +kernel
theorem dX3_takenIn_18 : decode cX3_takenIn 18 = .ok (.ifCond .le 6, 3) := by decide +kernel
theorem dX3_takenIn_21 : decode cX3_takenIn 21 = .ok (.iinc 2 1, 3) := by decide +kernel
theorem dX3_takenIn_24 : decode cX3_takenIn 24 = .ok (.iinc 3 1, 3) := by decide +kernel
theorem dX3_takenIn_27 : decode cX3_takenIn 27 = .ok (.goto (-23), 3) := by decide +kernel
theorem dX3_takenIn_30 : decode cX3_takenIn 30 = .ok (.iload_n 2, 1) := by decide +kernel
theorem dX3_takenIn_31 : decode cX3_takenIn 31 = .ok (.ireturn, 1) := by decide +kernel
theorem dX3_turned_0 : decode cX3_turned 0 = .ok (.iload_n 1, 1) := by decide +kernel
theorem dX3_turned_1 : decode cX3_turned 1 = .ok (.iconst 3, 1) := by decide +kernel
theorem dX3_turned_2 : decode cX3_turned 2 = .ok (.ishl, 1) := by decide +kernel
theorem dX3_turned_3 : decode cX3_turned 3 = .ok (.aload_n 0, 1) := by decide +kernel
theorem dX3_turned_4 : decode cX3_turned 4 = .ok (.getfield 15, 3) := by decide +kernel
theorem dX3_turned_7 : decode cX3_turned 7 = .ok (.iand, 1) := by decide +kernel
theorem dX3_turned_8 : decode cX3_turned 8 = .ok (.iload_n 1, 1) := by decide +kernel
theorem dX3_turned_9 : decode cX3_turned 9 = .ok (.iconst 3, 1) := by decide +kernel
theorem dX3_turned_10 : decode cX3_turned 10 = .ok (.aload_n 0, 1) := by decide +kernel
theorem dX3_turned_11 : decode cX3_turned 11 = .ok (.getfield 9, 3) := by decide +kernel
theorem dX3_turned_14 : decode cX3_turned 14 = .ok (.iconst 1, 1) := by decide +kernel
theorem dX3_turned_15 : decode cX3_turned 15 = .ok (.isub, 1) := by decide +kernel
theorem dX3_turned_16 : decode cX3_turned 16 = .ok (.imul, 1) := by decide +kernel
theorem dX3_turned_17 : decode cX3_turned 17 = .ok (.iushr, 1) := by decide +kernel
theorem dX3_turned_18 : decode cX3_turned 18 = .ok (.ior, 1) := by decide +kernel
theorem dX3_turned_19 : decode cX3_turned 19 = .ok (.ireturn, 1) := by decide +kernel
theorem dX3_mirrored_0 : decode cX3_mirrored 0 = .ok (.iconst 0, 1) := by decide +kernel
theorem dX3_mirrored_1 : decode cX3_mirrored 1 = .ok (.istore_n 2, 1) := by decide +kernel
theorem dX3_mirrored_2 : decode cX3_mirrored 2 = .ok (.aload_n 0, 1) := by decide +kernel
theorem dX3_mirrored_3 : decode cX3_mirrored 3 = .ok (.getfield 9, 3) := by decide +kernel
theorem dX3_mirrored_6 : decode cX3_mirrored 6 = .ok (.iconst 1, 1) := by decide +kernel
theorem dX3_mirrored_7 : decode cX3_mirrored 7 = .ok (.isub, 1) := by decide +kernel
theorem dX3_mirrored_8 : decode cX3_mirrored 8 = .ok (.istore_n 3, 1) := by decide +kernel
theorem dX3_mirrored_9 : decode cX3_mirrored 9 = .ok (.iload_n 3, 1) := by decide +kernel
theorem dX3_mirrored_10 : decode cX3_mirrored 10 = .ok (.ifCond .lt 20, 3) := by decide +kernel
theorem dX3_mirrored_13 : decode cX3_mirrored 13 = .ok (.iload_n 2, 1) := by decide +kernel
theorem dX3_mirrored_14 : decode cX3_mirrored 14 = .ok (.iconst 3, 1) := by decide +kernel
theorem dX3_mirrored_15 : decode cX3_mirrored 15 = .ok (.ishl, 1) := by decide +kernel
theorem dX3_mirrored_16 : decode cX3_mirrored 16 = .ok (.aload_n 0, 1) := by decide +kernel
theorem dX3_mirrored_17 : decode cX3_mirrored 17 = .ok (.iload_n 1, 1) := by decide +kernel
theorem dX3_mirrored_18 : decode cX3_mirrored 18 = .ok (.iload_n 3, 1) := by decide +kernel
theorem dX3_mirrored_19 : decode cX3_mirrored 19 = .ok (.invokevirtual 26, 3) := by decide +kernel
theorem dX3_mirrored_22 : decode cX3_mirrored 22 = .ok (.ior, 1) := by decide +kernel
theorem dX3_mirrored_23 : decode cX3_mirrored 23 = .ok (.istore_n 2, 1) := by decide +kernel
theorem dX3_mirrored_24 : decode cX3_mirrored 24 = .ok (.iinc 3 (-1), 3) := by decide +kernel
theorem dX3_mirrored_27 : decode cX3_mirrored 27 = .ok (.goto (-18), 3) := by decide +kernel
theorem dX3_mirrored_30 : decode cX3_mirrored 30 = .ok (.iload_n 2, 1) := by decide +kernel
theorem dX3_mirrored_31 : decode cX3_mirrored 31 = .ok (.ireturn, 1) := by decide +kernel
theorem dX3_nameOf_0 : decode cX3_nameOf 0 = .ok (.iload_n 1, 1) := by decide +kernel
theorem dX3_nameOf_1 : decode cX3_nameOf 1 = .ok (.istore_n 2, 1) := by decide +kernel
theorem dX3_nameOf_2 : decode cX3_nameOf 2 = .ok (.iload_n 1, 1) := by decide +kernel
theorem dX3_nameOf_3 : decode cX3_nameOf 3 = .ok (.istore_n 3, 1) := by decide +kernel
theorem dX3_nameOf_4 : decode cX3_nameOf 4 = .ok (.aload_n 0, 1) := by decide +kernel
theorem dX3_nameOf_5 : decode cX3_nameOf 5 = .ok (.iload_n 1, 1) := by decide +kernel
theorem dX3_nameOf_6 : decode cX3_nameOf 6 = .ok (.invokevirtual 29, 3) := by decide +kernel
theorem dX3_nameOf_9 : decode cX3_nameOf 9 = .ok (.istore 4, 2) := by decide +kernel
theorem dX3_nameOf_11 : decode cX3_nameOf 11 = .ok (.iconst 0, 1) := by decide +kernel
theorem dX3_nameOf_12 : decode cX3_nameOf 12 = .ok (.istore 5, 2) := by decide +kernel
theorem dX3_nameOf_14 : decode cX3_nameOf 14 = .ok (.iload 5, 2) := by decide +kernel
theorem dX3_nameOf_16 : decode cX3_nameOf 16 = .ok (.aload_n 0, 1) := by decide +kernel
theorem dX3_nameOf_17 : decode cX3_nameOf 17 = .ok (.getfield 9, 3) := by decide +kernel
theorem dX3_nameOf_20 : decode cX3_nameOf 20 = .ok (.if_icmp .ge 34, 3) := by decide +kernel
theorem dX3_nameOf_23 : decode cX3_nameOf 23 = .ok (.iload_n 2, 1) := by decide +kernel
theorem dX3_nameOf_24 : decode cX3_nameOf 24 = .ok (.iload_n 3, 1) := by decide +kernel
theorem dX3_nameOf_25 : decode cX3_nameOf 25 = .ok (.iload 4, 2) := by decide +kernel
theorem dX3_nameOf_27 : decode cX3_nameOf 27 = .ok (.invokestatic 32, 3) := by decide +kernel
theorem dX3_nameOf_30 : decode cX3_nameOf 30 = .ok (.invokestatic 32, 3) := by decide +kernel
theorem dX3_nameOf_33 : decode cX3_nameOf 33 = .ok (.istore_n 2, 1) := by decide +kernel
theorem dX3_nameOf_34 : decode cX3_nameOf 34 = .ok (.aload_n 0, 1) := by decide +kernel
theorem dX3_nameOf_35 : decode cX3_nameOf 35 = .ok (.iload_n 3, 1) := by decide +kernel
theorem dX3_nameOf_36 : decode cX3_nameOf 36 = .ok (.invokevirtual 37, 3) := by decide +kernel
theorem dX3_nameOf_39 : decode cX3_nameOf 39 = .ok (.istore_n 3, 1) := by decide +kernel
theorem dX3_nameOf_40 : decode cX3_nameOf 40 = .ok (.aload_n 0, 1) := by decide +kernel
theorem dX3_nameOf_41 : decode cX3_nameOf 41 = .ok (.iload 4, 2) := by decide +kernel
theorem dX3_nameOf_43 : decode cX3_nameOf 43 = .ok (.invokevirtual 37, 3) := by decide +kernel
theorem dX3_nameOf_46 : decode cX3_nameOf 46 = .ok (.istore 4, 2) := by decide +kernel
theorem dX3_nameOf_48 : decode cX3_nameOf 48 = .ok (.iinc 5 1, 3) := by decide +kernel
theorem dX3_nameOf_51 : decode cX3_nameOf 51 = .ok (.goto (-37), 3) := by decide +kernel
theorem dX3_nameOf_54 : decode cX3_nameOf 54 = .ok (.iload_n 2, 1) := by decide +kernel
theorem dX3_nameOf_55 : decode cX3_nameOf 55 = .ok (.ireturn, 1) := by decide +kernel
theorem dX3_turnsOf_0 : decode cX3_turnsOf 0 = .ok (.aload_n 0, 1) := by decide +kernel
theorem dX3_turnsOf_1 : decode cX3_turnsOf 1 = .ok (.iload_n 1, 1) := by decide +kernel
theorem dX3_turnsOf_2 : decode cX3_turnsOf 2 = .ok (.iload_n 1, 1) := by decide +kernel
theorem dX3_turnsOf_3 : decode cX3_turnsOf 3 = .ok (.invokevirtual 40, 3) := by decide +kernel
theorem dX3_turnsOf_6 : decode cX3_turnsOf 6 = .ok (.ireturn, 1) := by decide +kernel
theorem dX3_mirrorsOf_0 : decode cX3_mirrorsOf 0 = .ok (.aload_n 0, 1) := by decide +kernel
theorem dX3_mirrorsOf_1 : decode cX3_mirrorsOf 1 = .ok (.aload_n 0, 1) := by decide +kernel
theorem dX3_mirrorsOf_2 : decode cX3_mirrorsOf 2 = .ok (.iload_n 1, 1) := by decide +kernel
theorem dX3_mirrorsOf_3 : decode cX3_mirrorsOf 3 = .ok (.invokevirtual 29, 3) := by decide +kernel
theorem dX3_mirrorsOf_6 : decode cX3_mirrorsOf 6 = .ok (.iload_n 1, 1) := by decide +kernel
theorem dX3_mirrorsOf_7 : decode cX3_mirrorsOf 7 = .ok (.invokevirtual 40, 3) := by decide +kernel
theorem dX3_mirrorsOf_10 : decode cX3_mirrorsOf 10 = .ok (.ireturn, 1) := by decide +kernel
theorem dX3_turnsBetween_0 : decode cX3_turnsBetween 0 = .ok (.iconst 0, 1) := by decide +kernel
theorem dX3_turnsBetween_1 : decode cX3_turnsBetween 1 = .ok (.istore_n 3, 1) := by decide +kernel
theorem dX3_turnsBetween_2 : decode cX3_turnsBetween 2 = .ok (.iload_n 1, 1) := by decide +kernel
theorem dX3_turnsBetween_3 : decode cX3_turnsBetween 3 = .ok (.istore 4, 2) := by decide +kernel
theorem dX3_turnsBetween_5 : decode cX3_turnsBetween 5 = .ok (.iconst 0, 1) := by decide +kernel
theorem dX3_turnsBetween_6 : decode cX3_turnsBetween 6 = .ok (.istore 5, 2) := by decide +kernel
theorem dX3_turnsBetween_8 : decode cX3_turnsBetween 8 = .ok (.iload 5, 2) := by decide +kernel
theorem dX3_turnsBetween_10 : decode cX3_turnsBetween 10 = .ok (.aload_n 0, 1) := by decide +kernel
theorem dX3_turnsBetween_11 : decode cX3_turnsBetween 11 = .ok (.getfield 9, 3) := by decide +kernel
theorem dX3_turnsBetween_14 : decode cX3_turnsBetween 14 = .ok (.if_icmp .ge 26, 3) := by decide +kernel
theorem dX3_turnsBetween_17 : decode cX3_turnsBetween 17 = .ok (.iload 4, 2) := by decide +kernel
theorem dX3_turnsBetween_19 : decode cX3_turnsBetween 19 = .ok (.iload_n 2, 1) := by decide +kernel
theorem dX3_turnsBetween_20 : decode cX3_turnsBetween 20 = .ok (.if_icmp .ne 6, 3) := by decide +kernel
theorem dX3_turnsBetween_23 : decode cX3_turnsBetween 23 = .ok (.iinc 3 1, 3) := by decide +kernel
theorem dX3_turnsBetween_26 : decode cX3_turnsBetween 26 = .ok (.aload_n 0, 1) := by decide +kernel
theorem dX3_turnsBetween_27 : decode cX3_turnsBetween 27 = .ok (.iload 4, 2) := by decide +kernel
theorem dX3_turnsBetween_29 : decode cX3_turnsBetween 29 = .ok (.invokevirtual 37, 3) := by decide +kernel
theorem dX3_turnsBetween_32 : decode cX3_turnsBetween 32 = .ok (.istore 4, 2) := by decide +kernel
theorem dX3_turnsBetween_34 : decode cX3_turnsBetween 34 = .ok (.iinc 5 1, 3) := by decide +kernel
theorem dX3_turnsBetween_37 : decode cX3_turnsBetween 37 = .ok (.goto (-29), 3) := by decide +kernel
theorem dX3_turnsBetween_40 : decode cX3_turnsBetween 40 = .ok (.iload_n 3, 1) := by decide +kernel
theorem dX3_turnsBetween_41 : decode cX3_turnsBetween 41 = .ok (.ireturn, 1) := by decide +kernel
theorem dX3_kindOf_0 : decode cX3_kindOf 0 = .ok (.aload_n 0, 1) := by decide +kernel
theorem dX3_kindOf_1 : decode cX3_kindOf 1 = .ok (.iload_n 1, 1) := by decide +kernel
theorem dX3_kindOf_2 : decode cX3_kindOf 2 = .ok (.invokevirtual 43, 3) := by decide +kernel
theorem dX3_kindOf_5 : decode cX3_kindOf 5 = .ok (.iconst 1, 1) := by decide +kernel
theorem dX3_kindOf_6 : decode cX3_kindOf 6 = .ok (.if_icmp .le 5, 3) := by decide +kernel
theorem dX3_kindOf_9 : decode cX3_kindOf 9 = .ok (.iconst 2, 1) := by decide +kernel
theorem dX3_kindOf_10 : decode cX3_kindOf 10 = .ok (.ireturn, 1) := by decide +kernel
theorem dX3_kindOf_11 : decode cX3_kindOf 11 = .ok (.aload_n 0, 1) := by decide +kernel
theorem dX3_kindOf_12 : decode cX3_kindOf 12 = .ok (.iload_n 1, 1) := by decide +kernel
theorem dX3_kindOf_13 : decode cX3_kindOf 13 = .ok (.invokevirtual 46, 3) := by decide +kernel
theorem dX3_kindOf_16 : decode cX3_kindOf 16 = .ok (.ifCond .le 7, 3) := by decide +kernel
theorem dX3_kindOf_19 : decode cX3_kindOf 19 = .ok (.iconst 1, 1) := by decide +kernel
theorem dX3_kindOf_20 : decode cX3_kindOf 20 = .ok (.goto 4, 3) := by decide +kernel
theorem dX3_kindOf_23 : decode cX3_kindOf 23 = .ok (.iconst 3, 1) := by decide +kernel
theorem dX3_kindOf_24 : decode cX3_kindOf 24 = .ok (.ireturn, 1) := by decide +kernel
theorem dX3_rowFrom_0 : decode cX3_rowFrom 0 = .ok (.lconst 0, 1) := by decide +kernel
theorem dX3_rowFrom_1 : decode cX3_rowFrom 1 = .ok (.lstore 4, 2) := by decide +kernel
theorem dX3_rowFrom_3 : decode cX3_rowFrom 3 = .ok (.iconst 0, 1) := by decide +kernel
theorem dX3_rowFrom_4 : decode cX3_rowFrom 4 = .ok (.istore 6, 2) := by decide +kernel
theorem dX3_rowFrom_6 : decode cX3_rowFrom 6 = .ok (.iload_n 2, 1) := by decide +kernel
theorem dX3_rowFrom_7 : decode cX3_rowFrom 7 = .ok (.istore 7, 2) := by decide +kernel
theorem dX3_rowFrom_9 : decode cX3_rowFrom 9 = .ok (.iconst 0, 1) := by decide +kernel
theorem dX3_rowFrom_10 : decode cX3_rowFrom 10 = .ok (.istore 8, 2) := by decide +kernel
theorem dX3_rowFrom_12 : decode cX3_rowFrom 12 = .ok (.iload 8, 2) := by decide +kernel
theorem dX3_rowFrom_14 : decode cX3_rowFrom 14 = .ok (.aload_n 0, 1) := by decide +kernel
theorem dX3_rowFrom_15 : decode cX3_rowFrom 15 = .ok (.getfield 9, 3) := by decide +kernel
theorem dX3_rowFrom_18 : decode cX3_rowFrom 18 = .ok (.if_icmp .ge 52, 3) := by decide +kernel
theorem dX3_rowFrom_21 : decode cX3_rowFrom 21 = .ok (.aload_n 0, 1) := by decide +kernel
theorem dX3_rowFrom_22 : decode cX3_rowFrom 22 = .ok (.iload 7, 2) := by decide +kernel
theorem dX3_rowFrom_24 : decode cX3_rowFrom 24 = .ok (.iload_n 3, 1) := by decide +kernel
theorem dX3_rowFrom_25 : decode cX3_rowFrom 25 = .ok (.invokevirtual 18, 3) := by decide +kernel
theorem dX3_rowFrom_28 : decode cX3_rowFrom 28 = .ok (.istore 7, 2) := by decide +kernel
theorem dX3_rowFrom_30 : decode cX3_rowFrom 30 = .ok (.iinc 6 1, 3) := by decide +kernel
theorem dX3_rowFrom_33 : decode cX3_rowFrom 33 = .ok (.aload_n 0, 1) := by decide +kernel
theorem dX3_rowFrom_34 : decode cX3_rowFrom 34 = .ok (.iload_n 1, 1) := by decide +kernel
theorem dX3_rowFrom_35 : decode cX3_rowFrom 35 = .ok (.iload 7, 2) := by decide +kernel
theorem dX3_rowFrom_37 : decode cX3_rowFrom 37 = .ok (.invokevirtual 26, 3) := by decide +kernel
theorem dX3_rowFrom_40 : decode cX3_rowFrom 40 = .ok (.istore 9, 2) := by decide +kernel
theorem dX3_rowFrom_42 : decode cX3_rowFrom 42 = .ok (.iload 9, 2) := by decide +kernel
theorem dX3_rowFrom_44 : decode cX3_rowFrom 44 = .ok (.ifCond .le 20, 3) := by decide +kernel
theorem dX3_rowFrom_47 : decode cX3_rowFrom 47 = .ok (.lload 4, 2) := by decide +kernel
theorem dX3_rowFrom_49 : decode cX3_rowFrom 49 = .ok (.iload 6, 2) := by decide +kernel
theorem dX3_rowFrom_51 : decode cX3_rowFrom 51 = .ok (.invokestatic 49, 3) := by decide +kernel
theorem dX3_rowFrom_54 : decode cX3_rowFrom 54 = .ok (.iload 9, 2) := by decide +kernel
theorem dX3_rowFrom_56 : decode cX3_rowFrom 56 = .ok (.invokestatic 49, 3) := by decide +kernel
theorem dX3_rowFrom_59 : decode cX3_rowFrom 59 = .ok (.lstore 4, 2) := by decide +kernel
theorem dX3_rowFrom_61 : decode cX3_rowFrom 61 = .ok (.iconst 0, 1) := by decide +kernel
theorem dX3_rowFrom_62 : decode cX3_rowFrom 62 = .ok (.istore 6, 2) := by decide +kernel
theorem dX3_rowFrom_64 : decode cX3_rowFrom 64 = .ok (.iinc 8 1, 3) := by decide +kernel
theorem dX3_rowFrom_67 : decode cX3_rowFrom 67 = .ok (.goto (-55), 3) := by decide +kernel
theorem dX3_rowFrom_70 : decode cX3_rowFrom 70 = .ok (.lload 4, 2) := by decide +kernel
theorem dX3_rowFrom_72 : decode cX3_rowFrom 72 = .ok (.lreturn, 1) := by decide +kernel
theorem dX3_viewFrom_0 : decode cX3_viewFrom 0 = .ok (.aload_n 0, 1) := by decide +kernel
theorem dX3_viewFrom_1 : decode cX3_viewFrom 1 = .ok (.iload_n 1, 1) := by decide +kernel
theorem dX3_viewFrom_2 : decode cX3_viewFrom 2 = .ok (.iload_n 2, 1) := by decide +kernel
theorem dX3_viewFrom_3 : decode cX3_viewFrom 3 = .ok (.iconst 1, 1) := by decide +kernel
theorem dX3_viewFrom_4 : decode cX3_viewFrom 4 = .ok (.invokevirtual 55, 3) := by decide +kernel
theorem dX3_viewFrom_7 : decode cX3_viewFrom 7 = .ok (.aload_n 0, 1) := by decide +kernel
theorem dX3_viewFrom_8 : decode cX3_viewFrom 8 = .ok (.iload_n 1, 1) := by decide +kernel
theorem dX3_viewFrom_9 : decode cX3_viewFrom 9 = .ok (.iload_n 2, 1) := by decide +kernel
theorem dX3_viewFrom_10 : decode cX3_viewFrom 10 = .ok (.iconst (-1), 1) := by decide +kernel
theorem dX3_viewFrom_11 : decode cX3_viewFrom 11 = .ok (.invokevirtual 55, 3) := by decide +kernel
theorem dX3_viewFrom_14 : decode cX3_viewFrom 14 = .ok (.invokestatic 59, 3) := by decide +kernel
theorem dX3_viewFrom_17 : decode cX3_viewFrom 17 = .ok (.lreturn, 1) := by decide +kernel
theorem dX3_isOfGoal_0 : decode cX3_isOfGoal 0 = .ok (.aload_n 0, 1) := by decide +kernel
theorem dX3_isOfGoal_1 : decode cX3_isOfGoal 1 = .ok (.iload_n 1, 1) := by decide +kernel
theorem dX3_isOfGoal_2 : decode cX3_isOfGoal 2 = .ok (.invokevirtual 63, 3) := by decide +kernel
theorem dX3_isOfGoal_5 : decode cX3_isOfGoal 5 = .ok (.istore_n 3, 1) := by decide +kernel
theorem dX3_isOfGoal_6 : decode cX3_isOfGoal 6 = .ok (.aload_n 0, 1) := by decide +kernel
theorem dX3_isOfGoal_7 : decode cX3_isOfGoal 7 = .ok (.iload_n 1, 1) := by decide +kernel
theorem dX3_isOfGoal_8 : decode cX3_isOfGoal 8 = .ok (.invokevirtual 66, 3) := by decide +kernel
theorem dX3_isOfGoal_11 : decode cX3_isOfGoal 11 = .ok (.istore 4, 2) := by decide +kernel
theorem dX3_isOfGoal_13 : decode cX3_isOfGoal 13 = .ok (.iload_n 3, 1) := by decide +kernel
theorem dX3_isOfGoal_14 : decode cX3_isOfGoal 14 = .ok (.ifCond .ne 5, 3) := by decide +kernel
theorem dX3_isOfGoal_17 : decode cX3_isOfGoal 17 = .ok (.iconst 0, 1) := by decide +kernel
theorem dX3_isOfGoal_18 : decode cX3_isOfGoal 18 = .ok (.ireturn, 1) := by decide +kernel
theorem dX3_isOfGoal_19 : decode cX3_isOfGoal 19 = .ok (.iload_n 2, 1) := by decide +kernel
theorem dX3_isOfGoal_20 : decode cX3_isOfGoal 20 = .ok (.ifCond .ne 15, 3) := by decide +kernel
theorem dX3_isOfGoal_23 : decode cX3_isOfGoal 23 = .ok (.iload 4, 2) := by decide +kernel
theorem dX3_isOfGoal_25 : decode cX3_isOfGoal 25 = .ok (.iconst 1, 1) := by decide +kernel
theorem dX3_isOfGoal_26 : decode cX3_isOfGoal 26 = .ok (.if_icmp .ne 7, 3) := by decide +kernel
theorem dX3_isOfGoal_29 : decode cX3_isOfGoal 29 = .ok (.iconst 1, 1) := by decide +kernel
theorem dX3_isOfGoal_30 : decode cX3_isOfGoal 30 = .ok (.goto 4, 3) := by decide +kernel
theorem dX3_isOfGoal_33 : decode cX3_isOfGoal 33 = .ok (.iconst 0, 1) := by decide +kernel
theorem dX3_isOfGoal_34 : decode cX3_isOfGoal 34 = .ok (.ireturn, 1) := by decide +kernel
theorem dX3_isOfGoal_35 : decode cX3_isOfGoal 35 = .ok (.iload 4, 2) := by decide +kernel
theorem dX3_isOfGoal_37 : decode cX3_isOfGoal 37 = .ok (.iload_n 3, 1) := by decide +kernel
theorem dX3_isOfGoal_38 : decode cX3_isOfGoal 38 = .ok (.if_icmp .eq 5, 3) := by decide +kernel
theorem dX3_isOfGoal_41 : decode cX3_isOfGoal 41 = .ok (.iconst 0, 1) := by decide +kernel
theorem dX3_isOfGoal_42 : decode cX3_isOfGoal 42 = .ok (.ireturn, 1) := by decide +kernel
theorem dX3_isOfGoal_43 : decode cX3_isOfGoal 43 = .ok (.iload_n 2, 1) := by decide +kernel
theorem dX3_isOfGoal_44 : decode cX3_isOfGoal 44 = .ok (.iconst 1, 1) := by decide +kernel
theorem dX3_isOfGoal_45 : decode cX3_isOfGoal 45 = .ok (.if_icmp .ne 17, 3) := by decide +kernel
theorem dX3_isOfGoal_48 : decode cX3_isOfGoal 48 = .ok (.aload_n 0, 1) := by decide +kernel
theorem dX3_isOfGoal_49 : decode cX3_isOfGoal 49 = .ok (.iload_n 1, 1) := by decide +kernel
theorem dX3_isOfGoal_50 : decode cX3_isOfGoal 50 = .ok (.aload_n 0, 1) := by decide +kernel
theorem dX3_isOfGoal_51 : decode cX3_isOfGoal 51 = .ok (.getfield 9, 3) := by decide +kernel
theorem dX3_isOfGoal_54 : decode cX3_isOfGoal 54 = .ok (.iload_n 3, 1) := by decide +kernel
theorem dX3_isOfGoal_55 : decode cX3_isOfGoal 55 = .ok (.idiv, 1) := by decide +kernel
theorem dX3_isOfGoal_56 : decode cX3_isOfGoal 56 = .ok (.invokevirtual 69, 3) := by decide +kernel
theorem dX3_isOfGoal_59 : decode cX3_isOfGoal 59 = .ok (.goto 8, 3) := by decide +kernel
theorem dX3_isOfGoal_62 : decode cX3_isOfGoal 62 = .ok (.aload_n 0, 1) := by decide +kernel
theorem dX3_isOfGoal_63 : decode cX3_isOfGoal 63 = .ok (.iload_n 1, 1) := by decide +kernel
theorem dX3_isOfGoal_64 : decode cX3_isOfGoal 64 = .ok (.invokevirtual 73, 3) := by decide +kernel
theorem dX3_isOfGoal_67 : decode cX3_isOfGoal 67 = .ok (.ireturn, 1) := by decide +kernel
theorem dX3_isSpread_0 : decode cX3_isSpread 0 = .ok (.iconst 0, 1) := by decide +kernel
theorem dX3_isSpread_1 : decode cX3_isSpread 1 = .ok (.istore_n 3, 1) := by decide +kernel
theorem dX3_isSpread_2 : decode cX3_isSpread 2 = .ok (.iload_n 3, 1) := by decide +kernel
theorem dX3_isSpread_3 : decode cX3_isSpread 3 = .ok (.aload_n 0, 1) := by decide +kernel
theorem dX3_isSpread_4 : decode cX3_isSpread 4 = .ok (.getfield 9, 3) := by decide +kernel
theorem dX3_isSpread_7 : decode cX3_isSpread 7 = .ok (.if_icmp .ge 42, 3) := by decide +kernel
theorem dX3_isSpread_10 : decode cX3_isSpread 10 = .ok (.aload_n 0, 1) := by decide +kernel
theorem dX3_isSpread_11 : decode cX3_isSpread 11 = .ok (.iload_n 1, 1) := by decide +kernel
theorem dX3_isSpread_12 : decode cX3_isSpread 12 = .ok (.iload_n 3, 1) := by decide +kernel
theorem dX3_isSpread_13 : decode cX3_isSpread 13 = .ok (.invokevirtual 26, 3) := by decide +kernel
theorem dX3_isSpread_16 : decode cX3_isSpread 16 = .ok (.ifCond .le 27, 3) := by decide +kernel
theorem dX3_isSpread_19 : decode cX3_isSpread 19 = .ok (.aload_n 0, 1) := by decide +kernel
theorem dX3_isSpread_20 : decode cX3_isSpread 20 = .ok (.iload_n 1, 1) := by decide +kernel
theorem dX3_isSpread_21 : decode cX3_isSpread 21 = .ok (.iload_n 3, 1) := by decide +kernel
theorem dX3_isSpread_22 : decode cX3_isSpread 22 = .ok (.invokevirtual 77, 3) := by decide +kernel
theorem dX3_isSpread_25 : decode cX3_isSpread 25 = .ok (.istore 4, 2) := by decide +kernel
theorem dX3_isSpread_27 : decode cX3_isSpread 27 = .ok (.iload 4, 2) := by decide +kernel
theorem dX3_isSpread_29 : decode cX3_isSpread 29 = .ok (.iload_n 2, 1) := by decide +kernel
theorem dX3_isSpread_30 : decode cX3_isSpread 30 = .ok (.if_icmp .eq 13, 3) := by decide +kernel
theorem dX3_isSpread_33 : decode cX3_isSpread 33 = .ok (.iload 4, 2) := by decide +kernel
theorem dX3_isSpread_35 : decode cX3_isSpread 35 = .ok (.iload_n 2, 1) := by decide +kernel
theorem dX3_isSpread_36 : decode cX3_isSpread 36 = .ok (.iconst 1, 1) := by decide +kernel
theorem dX3_isSpread_37 : decode cX3_isSpread 37 = .ok (.iadd, 1) := by decide +kernel
theorem dX3_isSpread_38 : decode cX3_isSpread 38 = .ok (.if_icmp .eq 5, 3) := by decide +kernel
theorem dX3_isSpread_41 : decode cX3_isSpread 41 = .ok (.iconst 0, 1) := by decide +kernel
theorem dX3_isSpread_42 : decode cX3_isSpread 42 = .ok (.ireturn, 1) := by decide +kernel
theorem dX3_isSpread_43 : decode cX3_isSpread 43 = .ok (.iinc 3 1, 3) := by decide +kernel
theorem dX3_isSpread_46 : decode cX3_isSpread 46 = .ok (.goto (-44), 3) := by decide +kernel
theorem dX3_isSpread_49 : decode cX3_isSpread 49 = .ok (.iconst 1, 1) := by decide +kernel
theorem dX3_isSpread_50 : decode cX3_isSpread 50 = .ok (.ireturn, 1) := by decide +kernel
theorem dX3_gapAbove_0 : decode cX3_gapAbove 0 = .ok (.iload_n 2, 1) := by decide +kernel
theorem dX3_gapAbove_1 : decode cX3_gapAbove 1 = .ok (.istore_n 3, 1) := by decide +kernel
theorem dX3_gapAbove_2 : decode cX3_gapAbove 2 = .ok (.iconst 1, 1) := by decide +kernel
theorem dX3_gapAbove_3 : decode cX3_gapAbove 3 = .ok (.istore 4, 2) := by decide +kernel
theorem dX3_gapAbove_5 : decode cX3_gapAbove 5 = .ok (.iload 4, 2) := by decide +kernel
theorem dX3_gapAbove_7 : decode cX3_gapAbove 7 = .ok (.aload_n 0, 1) := by decide +kernel
theorem dX3_gapAbove_8 : decode cX3_gapAbove 8 = .ok (.getfield 9, 3) := by decide +kernel
theorem dX3_gapAbove_11 : decode cX3_gapAbove 11 = .ok (.if_icmp .ge 28, 3) := by decide +kernel
theorem dX3_gapAbove_14 : decode cX3_gapAbove 14 = .ok (.aload_n 0, 1) := by decide +kernel
theorem dX3_gapAbove_15 : decode cX3_gapAbove 15 = .ok (.iload_n 3, 1) := by decide +kernel
theorem dX3_gapAbove_16 : decode cX3_gapAbove 16 = .ok (.iconst 1, 1) := by decide +kernel
theorem dX3_gapAbove_17 : decode cX3_gapAbove 17 = .ok (.invokevirtual 18, 3) := by decide +kernel
theorem dX3_gapAbove_20 : decode cX3_gapAbove 20 = .ok (.istore_n 3, 1) := by decide +kernel
theorem dX3_gapAbove_21 : decode cX3_gapAbove 21 = .ok (.aload_n 0, 1) := by decide +kernel
theorem dX3_gapAbove_22 : decode cX3_gapAbove 22 = .ok (.iload_n 1, 1) := by decide +kernel
theorem dX3_gapAbove_23 : decode cX3_gapAbove 23 = .ok (.iload_n 3, 1) := by decide +kernel
theorem dX3_gapAbove_24 : decode cX3_gapAbove 24 = .ok (.invokevirtual 26, 3) := by decide +kernel
theorem dX3_gapAbove_27 : decode cX3_gapAbove 27 = .ok (.ifCond .le 6, 3) := by decide +kernel
theorem dX3_gapAbove_30 : decode cX3_gapAbove 30 = .ok (.iload 4, 2) := by decide +kernel
theorem dX3_gapAbove_32 : decode cX3_gapAbove 32 = .ok (.ireturn, 1) := by decide +kernel
theorem dX3_gapAbove_33 : decode cX3_gapAbove 33 = .ok (.iinc 4 1, 3) := by decide +kernel
theorem dX3_gapAbove_36 : decode cX3_gapAbove 36 = .ok (.goto (-31), 3) := by decide +kernel
theorem dX3_gapAbove_39 : decode cX3_gapAbove 39 = .ok (.aload_n 0, 1) := by decide +kernel
theorem dX3_gapAbove_40 : decode cX3_gapAbove 40 = .ok (.getfield 9, 3) := by decide +kernel
theorem dX3_gapAbove_43 : decode cX3_gapAbove 43 = .ok (.ireturn, 1) := by decide +kernel
theorem dX3_isSideBySide_0 : decode cX3_isSideBySide 0 = .ok (.iconst 0, 1) := by decide +kernel
theorem dX3_isSideBySide_1 : decode cX3_isSideBySide 1 = .ok (.istore_n 2, 1) := by decide +kernel
theorem dX3_isSideBySide_2 : decode cX3_isSideBySide 2 = .ok (.iconst 0, 1) := by decide +kernel
theorem dX3_isSideBySide_3 : decode cX3_isSideBySide 3 = .ok (.istore_n 3, 1) := by decide +kernel
theorem dX3_isSideBySide_4 : decode cX3_isSideBySide 4 = .ok (.iload_n 3, 1) := by decide +kernel
theorem dX3_isSideBySide_5 : decode cX3_isSideBySide 5 = .ok (.aload_n 0, 1) := by decide +kernel
theorem dX3_isSideBySide_6 : decode cX3_isSideBySide 6 = .ok (.getfield 9, 3) := by decide +kernel
theorem dX3_isSideBySide_9 : decode cX3_isSideBySide 9 = .ok (.if_icmp .ge 35, 3) := by decide +kernel
theorem dX3_isSideBySide_12 : decode cX3_isSideBySide 12 = .ok (.aload_n 0, 1) := by decide +kernel
theorem dX3_isSideBySide_13 : decode cX3_isSideBySide 13 = .ok (.iload_n 1, 1) := by decide +kernel
theorem dX3_isSideBySide_14 : decode cX3_isSideBySide 14 = .ok (.iload_n 3, 1) := by decide +kernel
theorem dX3_isSideBySide_15 : decode cX3_isSideBySide 15 = .ok (.invokevirtual 26, 3) := by decide +kernel
theorem dX3_isSideBySide_18 : decode cX3_isSideBySide 18 = .ok (.ifCond .le 20, 3) := by decide +kernel
theorem dX3_isSideBySide_21 : decode cX3_isSideBySide 21 = .ok (.aload_n 0, 1) := by decide +kernel
theorem dX3_isSideBySide_22 : decode cX3_isSideBySide 22 = .ok (.iload_n 1, 1) := by decide +kernel
theorem dX3_isSideBySide_23 : decode cX3_isSideBySide 23 = .ok (.aload_n 0, 1) := by decide +kernel
theorem dX3_isSideBySide_24 : decode cX3_isSideBySide 24 = .ok (.iload_n 3, 1) := by decide +kernel
theorem dX3_isSideBySide_25 : decode cX3_isSideBySide 25 = .ok (.iconst 1, 1) := by decide +kernel
theorem dX3_isSideBySide_26 : decode cX3_isSideBySide 26 = .ok (.invokevirtual 18, 3) := by decide +kernel
theorem dX3_isSideBySide_29 : decode cX3_isSideBySide 29 = .ok (.invokevirtual 26, 3) := by decide +kernel
theorem dX3_isSideBySide_32 : decode cX3_isSideBySide 32 = .ok (.ifCond .ne 6, 3) := by decide +kernel
theorem dX3_isSideBySide_35 : decode cX3_isSideBySide 35 = .ok (.iinc 2 1, 3) := by decide +kernel
theorem dX3_isSideBySide_38 : decode cX3_isSideBySide 38 = .ok (.iinc 3 1, 3) := by decide +kernel
theorem dX3_isSideBySide_41 : decode cX3_isSideBySide 41 = .ok (.goto (-37), 3) := by decide +kernel
theorem dX3_isSideBySide_44 : decode cX3_isSideBySide 44 = .ok (.iload_n 2, 1) := by decide +kernel
theorem dX3_isSideBySide_45 : decode cX3_isSideBySide 45 = .ok (.iconst 1, 1) := by decide +kernel
theorem dX3_isSideBySide_46 : decode cX3_isSideBySide 46 = .ok (.if_icmp .gt 7, 3) := by decide +kernel
theorem dX3_isSideBySide_49 : decode cX3_isSideBySide 49 = .ok (.iconst 1, 1) := by decide +kernel
theorem dX3_isSideBySide_50 : decode cX3_isSideBySide 50 = .ok (.goto 4, 3) := by decide +kernel
theorem dX3_isSideBySide_53 : decode cX3_isSideBySide 53 = .ok (.iconst 0, 1) := by decide +kernel
theorem dX3_isSideBySide_54 : decode cX3_isSideBySide 54 = .ok (.ireturn, 1) := by decide +kernel
theorem dX4_with_0 : decode cX4_with 0 = .ok (.lload_n 0, 1) := by decide +kernel
theorem dX4_with_1 : decode cX4_with 1 = .ok (.bipush 7, 2) := by decide +kernel
theorem dX4_with_3 : decode cX4_with 3 = .ok (.lshl, 1) := by decide +kernel
theorem dX4_with_4 : decode cX4_with 4 = .ok (.iload_n 2, 1) := by decide +kernel
theorem dX4_with_5 : decode cX4_with 5 = .ok (.bipush 127, 2) := by decide +kernel
theorem dX4_with_7 : decode cX4_with 7 = .ok (.iand, 1) := by decide +kernel
theorem dX4_with_8 : decode cX4_with 8 = .ok (.i2l, 1) := by decide +kernel
theorem dX4_with_9 : decode cX4_with 9 = .ok (.lor, 1) := by decide +kernel
theorem dX4_with_10 : decode cX4_with 10 = .ok (.lreturn, 1) := by decide +kernel
theorem dX4_item_0 : decode cX4_item 0 = .ok (.iconst 0, 1) := by decide +kernel
theorem dX4_item_1 : decode cX4_item 1 = .ok (.istore_n 3, 1) := by decide +kernel
theorem dX4_item_2 : decode cX4_item 2 = .ok (.lload_n 0, 1) := by decide +kernel
theorem dX4_item_3 : decode cX4_item 3 = .ok (.lstore 4, 2) := by decide +kernel
theorem dX4_item_5 : decode cX4_item 5 = .ok (.lload 4, 2) := by decide +kernel
theorem dX4_item_7 : decode cX4_item 7 = .ok (.lconst 0, 1) := by decide +kernel
theorem dX4_item_8 : decode cX4_item 8 = .ok (.lcmp, 1) := by decide +kernel
theorem dX4_item_9 : decode cX4_item 9 = .ok (.ifCond .eq 22, 3) := by decide +kernel
theorem dX4_item_12 : decode cX4_item 12 = .ok (.iload_n 3, 1) := by decide +kernel
theorem dX4_item_13 : decode cX4_item 13 = .ok (.bipush 8, 2) := by decide +kernel
theorem dX4_item_15 : decode cX4_item 15 = .ok (.if_icmp .ge 16, 3) := by decide +kernel
theorem dX4_item_18 : decode cX4_item 18 = .ok (.iinc 3 1, 3) := by decide +kernel
theorem dX4_item_21 : decode cX4_item 21 = .ok (.lload 4, 2) := by decide +kernel
theorem dX4_item_23 : decode cX4_item 23 = .ok (.bipush 7, 2) := by decide +kernel
theorem dX4_item_25 : decode cX4_item 25 = .ok (.lushr, 1) := by decide +kernel
theorem dX4_item_26 : decode cX4_item 26 = .ok (.lstore 4, 2) := by decide +kernel
theorem dX4_item_28 : decode cX4_item 28 = .ok (.goto (-23), 3) := by decide +kernel
theorem dX4_item_31 : decode cX4_item 31 = .ok (.iload_n 2, 1) := by decide +kernel
theorem dX4_item_32 : decode cX4_item 32 = .ok (.iload_n 3, 1) := by decide +kernel
theorem dX4_item_33 : decode cX4_item 33 = .ok (.invokestatic 11, 3) := by decide +kernel
theorem dX4_item_36 : decode cX4_item 36 = .ok (.ifCond .eq 8, 3) := by decide +kernel
theorem dX4_item_39 : decode cX4_item 39 = .ok (.ldc 15, 2) := by decide +kernel
theorem dX4_item_41 : decode cX4_item 41 = .ok (.goto 17, 3) := by decide +kernel
theorem dX4_item_44 : decode cX4_item 44 = .ok (.lload_n 0, 1) := by decide +kernel
theorem dX4_item_45 : decode cX4_item 45 = .ok (.bipush 7, 2) := by decide +kernel
theorem dX4_item_47 : decode cX4_item 47 = .ok (.iload_n 3, 1) := by decide +kernel
theorem dX4_item_48 : decode cX4_item 48 = .ok (.iconst 1, 1) := by decide +kernel
theorem dX4_item_49 : decode cX4_item 49 = .ok (.isub, 1) := by decide +kernel
theorem dX4_item_50 : decode cX4_item 50 = .ok (.iload_n 2, 1) := by decide +kernel
theorem dX4_item_51 : decode cX4_item 51 = .ok (.isub, 1) := by decide +kernel
theorem dX4_item_52 : decode cX4_item 52 = .ok (.imul, 1) := by decide +kernel
theorem dX4_item_53 : decode cX4_item 53 = .ok (.lushr, 1) := by decide +kernel
theorem dX4_item_54 : decode cX4_item 54 = .ok (.l2i, 1) := by decide +kernel
theorem dX4_item_55 : decode cX4_item 55 = .ok (.bipush 127, 2) := by decide +kernel
theorem dX4_item_57 : decode cX4_item 57 = .ok (.iand, 1) := by decide +kernel
theorem dX4_item_58 : decode cX4_item 58 = .ok (.ireturn, 1) := by decide +kernel
theorem dX5_init_0 : decode cX5_init 0 = .ok (.aload_n 0, 1) := by decide +kernel
theorem dX5_init_1 : decode cX5_init 1 = .ok (.invokespecial 3, 3) := by decide +kernel
theorem dX5_init_4 : decode cX5_init 4 = .ok (.aload_n 0, 1) := by decide +kernel
theorem dX5_init_5 : decode cX5_init 5 = .ok (.sipush 400, 3) := by decide +kernel
theorem dX5_init_8 : decode cX5_init 8 = .ok (.newarray .int, 2) := by decide +kernel
theorem dX5_init_10 : decode cX5_init 10 = .ok (.putfield 9, 3) := by decide +kernel
theorem dX5_init_13 : decode cX5_init 13 = .ok (.aload_n 0, 1) := by decide +kernel
theorem dX5_init_14 : decode cX5_init 14 = .ok (.iconst 0, 1) := by decide +kernel
theorem dX5_init_15 : decode cX5_init 15 = .ok (.putfield 15, 3) := by decide +kernel
theorem dX5_init_18 : decode cX5_init 18 = .ok (.aload_n 0, 1) := by decide +kernel
theorem dX5_init_19 : decode cX5_init 19 = .ok (.iconst 0, 1) := by decide +kernel
theorem dX5_init_20 : decode cX5_init 20 = .ok (.putfield 19, 3) := by decide +kernel
theorem dX5_init_23 : decode cX5_init 23 = .ok (.aload_n 0, 1) := by decide +kernel
theorem dX5_init_24 : decode cX5_init 24 = .ok (.iconst 0, 1) := by decide +kernel
theorem dX5_init_25 : decode cX5_init 25 = .ok (.putfield 22, 3) := by decide +kernel
theorem dX5_init_28 : decode cX5_init 28 = .ok (.aload_n 0, 1) := by decide +kernel
theorem dX5_init_29 : decode cX5_init 29 = .ok (.iconst 0, 1) := by decide +kernel
theorem dX5_init_30 : decode cX5_init 30 = .ok (.putfield 25, 3) := by decide +kernel
theorem dX5_init_33 : decode cX5_init 33 = .ok (.aload_n 0, 1) := by decide +kernel
theorem dX5_init_34 : decode cX5_init 34 = .ok (.iconst 0, 1) := by decide +kernel
theorem dX5_init_35 : decode cX5_init 35 = .ok (.putfield 28, 3) := by decide +kernel
theorem dX5_init_38 : decode cX5_init 38 = .ok (.return_, 1) := by decide +kernel
theorem dX5_clear_0 : decode cX5_clear 0 = .ok (.aload_n 0, 1) := by decide +kernel
theorem dX5_clear_1 : decode cX5_clear 1 = .ok (.iconst 0, 1) := by decide +kernel
theorem dX5_clear_2 : decode cX5_clear 2 = .ok (.putfield 15, 3) := by decide +kernel
theorem dX5_clear_5 : decode cX5_clear 5 = .ok (.aload_n 0, 1) := by decide +kernel
theorem dX5_clear_6 : decode cX5_clear 6 = .ok (.invokevirtual 31, 3) := by decide +kernel
theorem dX5_clear_9 : decode cX5_clear 9 = .ok (.return_, 1) := by decide +kernel
theorem dX5_rewind_0 : decode cX5_rewind 0 = .ok (.aload_n 0, 1) := by decide +kernel
theorem dX5_rewind_1 : decode cX5_rewind 1 = .ok (.iconst 0, 1) := by decide +kernel
theorem dX5_rewind_2 : decode cX5_rewind 2 = .ok (.putfield 19, 3) := by decide +kernel
theorem dX5_rewind_5 : decode cX5_rewind 5 = .ok (.aload_n 0, 1) := by decide +kernel
theorem dX5_rewind_6 : decode cX5_rewind 6 = .ok (.iconst 0, 1) := by decide +kernel
theorem dX5_rewind_7 : decode cX5_rewind 7 = .ok (.putfield 22, 3) := by decide +kernel
theorem dX5_rewind_10 : decode cX5_rewind 10 = .ok (.aload_n 0, 1) := by decide +kernel
theorem dX5_rewind_11 : decode cX5_rewind 11 = .ok (.iconst 0, 1) := by decide +kernel
theorem dX5_rewind_12 : decode cX5_rewind 12 = .ok (.putfield 25, 3) := by decide +kernel
theorem dX5_rewind_15 : decode cX5_rewind 15 = .ok (.aload_n 0, 1) := by decide +kernel
theorem dX5_rewind_16 : decode cX5_rewind 16 = .ok (.iconst 0, 1) := by decide +kernel
theorem dX5_rewind_17 : decode cX5_rewind 17 = .ok (.putfield 28, 3) := by decide +kernel
theorem dX5_rewind_20 : decode cX5_rewind 20 = .ok (.return_, 1) := by decide +kernel
theorem dX5_append_0 : decode cX5_append 0 = .ok (.aload_n 0, 1) := by decide +kernel
theorem dX5_append_1 : decode cX5_append 1 = .ok (.getfield 15, 3) := by decide +kernel
theorem dX5_append_4 : decode cX5_append 4 = .ok (.iload_n 3, 1) := by decide +kernel
theorem dX5_append_5 : decode cX5_append 5 = .ok (.iadd, 1) := by decide +kernel
theorem dX5_append_6 : decode cX5_append 6 = .ok (.sipush 400, 3) := by decide +kernel
theorem dX5_append_9 : decode cX5_append 9 = .ok (.if_icmp .le 5, 3) := by decide +kernel
theorem dX5_append_12 : decode cX5_append 12 = .ok (.iconst 0, 1) := by decide +kernel
theorem dX5_append_13 : decode cX5_append 13 = .ok (.ireturn, 1) := by decide +kernel
theorem dX5_append_14 : decode cX5_append 14 = .ok (.iload_n 3, 1) := by decide +kernel
theorem dX5_append_15 : decode cX5_append 15 = .ok (.iconst 1, 1) := by decide +kernel
theorem dX5_append_16 : decode cX5_append 16 = .ok (.isub, 1) := by decide +kernel
theorem dX5_append_17 : decode cX5_append 17 = .ok (.istore 4, 2) := by decide +kernel
theorem dX5_append_19 : decode cX5_append 19 = .ok (.iload 4, 2) := by decide +kernel
theorem dX5_append_21 : decode cX5_append 21 = .ok (.ifCond .lt 40, 3) := by decide +kernel
theorem dX5_append_24 : decode cX5_append 24 = .ok (.aload_n 0, 1) := by decide +kernel
theorem dX5_append_25 : decode cX5_append 25 = .ok (.getfield 9, 3) := by decide +kernel
theorem dX5_append_28 : decode cX5_append 28 = .ok (.aload_n 0, 1) := by decide +kernel
theorem dX5_append_29 : decode cX5_append 29 = .ok (.getfield 15, 3) := by decide +kernel
theorem dX5_append_32 : decode cX5_append 32 = .ok (.lload_n 1, 1) := by decide +kernel
theorem dX5_append_33 : decode cX5_append 33 = .ok (.bipush 8, 2) := by decide +kernel
theorem dX5_append_35 : decode cX5_append 35 = .ok (.iload 4, 2) := by decide +kernel
theorem dX5_append_37 : decode cX5_append 37 = .ok (.imul, 1) := by decide +kernel
theorem dX5_append_38 : decode cX5_append 38 = .ok (.lushr, 1) := by decide +kernel
theorem dX5_append_39 : decode cX5_append 39 = .ok (.l2i, 1) := by decide +kernel
theorem dX5_append_40 : decode cX5_append 40 = .ok (.sipush 255, 3) := by decide +kernel
theorem dX5_append_43 : decode cX5_append 43 = .ok (.iand, 1) := by decide +kernel
theorem dX5_append_44 : decode cX5_append 44 = .ok (.iastore, 1) := by decide +kernel
theorem dX5_append_45 : decode cX5_append 45 = .ok (.aload_n 0, 1) := by decide +kernel
theorem dX5_append_46 : decode cX5_append 46 = .ok (.dup, 1) := by decide +kernel
theorem dX5_append_47 : decode cX5_append 47 = .ok (.getfield 15, 3) := by decide +kernel
theorem dX5_append_50 : decode cX5_append 50 = .ok (.iconst 1, 1) := by decide +kernel
theorem dX5_append_51 : decode cX5_append 51 = .ok (.iadd, 1) := by decide +kernel
theorem dX5_append_52 : decode cX5_append 52 = .ok (.putfield 15, 3) := by decide +kernel
theorem dX5_append_55 : decode cX5_append 55 = .ok (.iinc 4 (-1), 3) := by decide +kernel
theorem dX5_append_58 : decode cX5_append 58 = .ok (.goto (-39), 3) := by decide +kernel
theorem dX5_append_61 : decode cX5_append 61 = .ok (.iconst 1, 1) := by decide +kernel
theorem dX5_append_62 : decode cX5_append 62 = .ok (.ireturn, 1) := by decide +kernel
theorem dX5_readToken_0 : decode cX5_readToken 0 = .ok (.aload_n 0, 1) := by decide +kernel
theorem dX5_readToken_1 : decode cX5_readToken 1 = .ok (.aload_n 0, 1) := by decide +kernel
theorem dX5_readToken_2 : decode cX5_readToken 2 = .ok (.getfield 28, 3) := by decide +kernel
theorem dX5_readToken_5 : decode cX5_readToken 5 = .ok (.putfield 22, 3) := by decide +kernel
theorem dX5_readToken_8 : decode cX5_readToken 8 = .ok (.aload_n 0, 1) := by decide +kernel
theorem dX5_readToken_9 : decode cX5_readToken 9 = .ok (.getfield 22, 3) := by decide +kernel
theorem dX5_readToken_12 : decode cX5_readToken 12 = .ok (.aload_n 0, 1) := by decide +kernel
theorem dX5_readToken_13 : decode cX5_readToken 13 = .ok (.getfield 15, 3) := by decide +kernel
theorem dX5_readToken_16 : decode cX5_readToken 16 = .ok (.if_icmp .ge 30, 3) := by decide +kernel
theorem dX5_readToken_19 : decode cX5_readToken 19 = .ok (.aload_n 0, 1) := by decide +kernel
theorem dX5_readToken_20 : decode cX5_readToken 20 = .ok (.aload_n 0, 1) := by decide +kernel
theorem dX5_readToken_21 : decode cX5_readToken 21 = .ok (.getfield 22, 3) := by decide +kernel
theorem dX5_readToken_24 : decode cX5_readToken 24 = .ok (.invokevirtual 34, 3) := by decide +kernel
theorem dX5_readToken_27 : decode cX5_readToken 27 = .ok (.invokestatic 38, 3) := by decide +kernel
theorem dX5_readToken_30 : decode cX5_readToken 30 = .ok (.ifCond .eq 16, 3) := by decide +kernel
theorem dX5_readToken_33 : decode cX5_readToken 33 = .ok (.aload_n 0, 1) := by decide +kernel
theorem dX5_readToken_34 : decode cX5_readToken 34 = .ok (.dup, 1) := by decide +kernel
theorem dX5_readToken_35 : decode cX5_readToken 35 = .ok (.getfield 22, 3) := by decide +kernel
theorem dX5_readToken_38 : decode cX5_readToken 38 = .ok (.iconst 1, 1) := by decide +kernel
theorem dX5_readToken_39 : decode cX5_readToken 39 = .ok (.iadd, 1) := by decide +kernel
theorem dX5_readToken_40 : decode cX5_readToken 40 = .ok (.putfield 22, 3) := by decide +kernel
theorem dX5_readToken_43 : decode cX5_readToken 43 = .ok (.goto (-35), 3) := by decide +kernel
theorem dX5_readToken_46 : decode cX5_readToken 46 = .ok (.aload_n 0, 1) := by decide +kernel
theorem dX5_readToken_47 : decode cX5_readToken 47 = .ok (.aload_n 0, 1) := by decide +kernel
theorem dX5_readToken_48 : decode cX5_readToken 48 = .ok (.getfield 22, 3) := by decide +kernel
theorem dX5_readToken_51 : decode cX5_readToken 51 = .ok (.iconst 1, 1) := by decide +kernel
theorem dX5_readToken_52 : decode cX5_readToken 52 = .ok (.iadd, 1) := by decide +kernel
theorem dX5_readToken_53 : decode cX5_readToken 53 = .ok (.putfield 28, 3) := by decide +kernel
theorem dX5_readToken_56 : decode cX5_readToken 56 = .ok (.aload_n 0, 1) := by decide +kernel
theorem dX5_readToken_57 : decode cX5_readToken 57 = .ok (.iconst 0, 1) := by decide +kernel
theorem dX5_readToken_58 : decode cX5_readToken 58 = .ok (.putfield 25, 3) := by decide +kernel
theorem dX5_readToken_61 : decode cX5_readToken 61 = .ok (.aload_n 0, 1) := by decide +kernel
theorem dX5_readToken_62 : decode cX5_readToken 62 = .ok (.aload_n 0, 1) := by decide +kernel
theorem dX5_readToken_63 : decode cX5_readToken 63 = .ok (.getfield 22, 3) := by decide +kernel
theorem dX5_readToken_66 : decode cX5_readToken 66 = .ok (.invokevirtual 34, 3) := by decide +kernel
theorem dX5_readToken_69 : decode cX5_readToken 69 = .ok (.istore_n 1, 1) := by decide +kernel
theorem dX5_readToken_70 : decode cX5_readToken 70 = .ok (.aload_n 0, 1) := by decide +kernel
theorem dX5_readToken_71 : decode cX5_readToken 71 = .ok (.getfield 22, 3) := by decide +kernel
theorem dX5_readToken_74 : decode cX5_readToken 74 = .ok (.aload_n 0, 1) := by decide +kernel
theorem dX5_readToken_75 : decode cX5_readToken 75 = .ok (.getfield 15, 3) := by decide +kernel
theorem dX5_readToken_78 : decode cX5_readToken 78 = .ok (.if_icmp .lt 19, 3) := by decide +kernel
theorem dX5_readToken_81 : decode cX5_readToken 81 = .ok (.aload_n 0, 1) := by decide +kernel
theorem dX5_readToken_82 : decode cX5_readToken 82 = .ok (.aload_n 0, 1) := by decide +kernel
theorem dX5_readToken_83 : decode cX5_readToken 83 = .ok (.getfield 15, 3) := by decide +kernel
theorem dX5_readToken_86 : decode cX5_readToken 86 = .ok (.putfield 28, 3) := by decide +kernel
theorem dX5_readToken_89 : decode cX5_readToken 89 = .ok (.aload_n 0, 1) := by decide +kernel
theorem dX5_readToken_90 : decode cX5_readToken 90 = .ok (.iconst 1, 1) := by decide +kernel
theorem dX5_readToken_91 : decode cX5_readToken 91 = .ok (.putfield 19, 3) := by decide +kernel
theorem dX5_readToken_94 : decode cX5_readToken 94 = .ok (.goto 56, 3) := by decide +kernel
theorem dX5_readToken_97 : decode cX5_readToken 97 = .ok (.iload_n 1, 1) := by decide +kernel
theorem dX5_readToken_98 : decode cX5_readToken 98 = .ok (.invokestatic 42, 3) := by decide +kernel
theorem dX5_readToken_101 : decode cX5_readToken 101 = .ok (.ifCond .eq 10, 3) := by decide +kernel
theorem dX5_readToken_104 : decode cX5_readToken 104 = .ok (.aload_n 0, 1) := by decide +kernel
theorem dX5_readToken_105 : decode cX5_readToken 105 = .ok (.invokevirtual 45, 3) := by decide +kernel
theorem dX5_readToken_108 : decode cX5_readToken 108 = .ok (.goto 42, 3) := by decide +kernel
theorem dX5_readToken_111 : decode cX5_readToken 111 = .ok (.iload_n 1, 1) := by decide +kernel
theorem dX5_readToken_112 : decode cX5_readToken 112 = .ok (.invokestatic 48, 3) := by decide +kernel
theorem dX5_readToken_115 : decode cX5_readToken 115 = .ok (.ifCond .eq 10, 3) := by decide +kernel
theorem dX5_readToken_118 : decode cX5_readToken 118 = .ok (.aload_n 0, 1) := by decide +kernel
theorem dX5_readToken_119 : decode cX5_readToken 119 = .ok (.invokevirtual 51, 3) := by decide +kernel
theorem dX5_readToken_122 : decode cX5_readToken 122 = .ok (.goto 28, 3) := by decide +kernel
theorem dX5_readToken_125 : decode cX5_readToken 125 = .ok (.aload_n 0, 1) := by decide +kernel
theorem dX5_readToken_126 : decode cX5_readToken 126 = .ok (.iload_n 1, 1) := by decide +kernel
theorem dX5_readToken_127 : decode cX5_readToken 127 = .ok (.bipush 44, 2) := by decide +kernel
theorem dX5_readToken_129 : decode cX5_readToken 129 = .ok (.if_icmp .ne 7, 3) := by decide +kernel
theorem dX5_readToken_132 : decode cX5_readToken 132 = .ok (.iconst 3, 1) := by decide +kernel
theorem dX5_readToken_133 : decode cX5_readToken 133 = .ok (.goto 14, 3) := by decide +kernel
theorem dX5_readToken_136 : decode cX5_readToken 136 = .ok (.iload_n 1, 1) := by decide +kernel
theorem dX5_readToken_137 : decode cX5_readToken 137 = .ok (.bipush 59, 2) := by decide +kernel
theorem dX5_readToken_139 : decode cX5_readToken 139 = .ok (.if_icmp .ne 7, 3) := by decide +kernel
theorem dX5_readToken_142 : decode cX5_readToken 142 = .ok (.iconst 4, 1) := by decide +kernel
theorem dX5_readToken_143 : decode cX5_readToken 143 = .ok (.goto 4, 3) := by decide +kernel
theorem dX5_readToken_146 : decode cX5_readToken 146 = .ok (.iconst 0, 1) := by decide +kernel
theorem dX5_readToken_147 : decode cX5_readToken 147 = .ok (.putfield 19, 3) := by decide +kernel
theorem dX5_readToken_150 : decode cX5_readToken 150 = .ok (.return_, 1) := by decide +kernel
theorem dX5_readNumber_0 : decode cX5_readNumber 0 = .ok (.aload_n 0, 1) := by decide +kernel
theorem dX5_readNumber_1 : decode cX5_readNumber 1 = .ok (.getfield 28, 3) := by decide +kernel
theorem dX5_readNumber_4 : decode cX5_readNumber 4 = .ok (.aload_n 0, 1) := by decide +kernel
theorem dX5_readNumber_5 : decode cX5_readNumber 5 = .ok (.getfield 15, 3) := by decide +kernel
theorem dX5_readNumber_8 : decode cX5_readNumber 8 = .ok (.if_icmp .ge 30, 3) := by decide +kernel
theorem dX5_readNumber_11 : decode cX5_readNumber 11 = .ok (.aload_n 0, 1) := by decide +kernel
theorem dX5_readNumber_12 : decode cX5_readNumber 12 = .ok (.aload_n 0, 1) := by decide +kernel
theorem dX5_readNumber_13 : decode cX5_readNumber 13 = .ok (.getfield 28, 3) := by decide +kernel
theorem dX5_readNumber_16 : decode cX5_readNumber 16 = .ok (.invokevirtual 34, 3) := by decide +kernel
theorem dX5_readNumber_19 : decode cX5_readNumber 19 = .ok (.invokestatic 42, 3) := by decide +kernel
theorem dX5_readNumber_22 : decode cX5_readNumber 22 = .ok (.ifCond .eq 16, 3) := by decide +kernel
theorem dX5_readNumber_25 : decode cX5_readNumber 25 = .ok (.aload_n 0, 1) := by decide +kernel
theorem dX5_readNumber_26 : decode cX5_readNumber 26 = .ok (.dup, 1) := by decide +kernel
theorem dX5_readNumber_27 : decode cX5_readNumber 27 = .ok (.getfield 28, 3) := by decide +kernel
theorem dX5_readNumber_30 : decode cX5_readNumber 30 = .ok (.iconst 1, 1) := by decide +kernel
theorem dX5_readNumber_31 : decode cX5_readNumber 31 = .ok (.iadd, 1) := by decide +kernel
theorem dX5_readNumber_32 : decode cX5_readNumber 32 = .ok (.putfield 28, 3) := by decide +kernel
theorem dX5_readNumber_35 : decode cX5_readNumber 35 = .ok (.goto (-35), 3) := by decide +kernel
theorem dX5_readNumber_38 : decode cX5_readNumber 38 = .ok (.aload_n 0, 1) := by decide +kernel
theorem dX5_readNumber_39 : decode cX5_readNumber 39 = .ok (.aload_n 0, 1) := by decide +kernel
theorem dX5_readNumber_40 : decode cX5_readNumber 40 = .ok (.getfield 28, 3) := by decide +kernel
theorem dX5_readNumber_43 : decode cX5_readNumber 43 = .ok (.aload_n 0, 1) := by decide +kernel
theorem dX5_readNumber_44 : decode cX5_readNumber 44 = .ok (.getfield 22, 3) := by decide +kernel
theorem dX5_readNumber_47 : decode cX5_readNumber 47 = .ok (.isub, 1) := by decide +kernel
theorem dX5_readNumber_48 : decode cX5_readNumber 48 = .ok (.iconst 2, 1) := by decide +kernel
theorem dX5_readNumber_49 : decode cX5_readNumber 49 = .ok (.if_icmp .le 7, 3) := by decide +kernel
theorem dX5_readNumber_52 : decode cX5_readNumber 52 = .ok (.iconst 0, 1) := by decide +kernel
theorem dX5_readNumber_53 : decode cX5_readNumber 53 = .ok (.goto 4, 3) := by decide +kernel
theorem dX5_readNumber_56 : decode cX5_readNumber 56 = .ok (.iconst 2, 1) := by decide +kernel
theorem dX5_readNumber_57 : decode cX5_readNumber 57 = .ok (.putfield 19, 3) := by decide +kernel
theorem dX5_readNumber_60 : decode cX5_readNumber 60 = .ok (.aload_n 0, 1) := by decide +kernel
theorem dX5_readNumber_61 : decode cX5_readNumber 61 = .ok (.getfield 22, 3) := by decide +kernel
theorem dX5_readNumber_64 : decode cX5_readNumber 64 = .ok (.istore_n 1, 1) := by decide +kernel
theorem dX5_readNumber_65 : decode cX5_readNumber 65 = .ok (.iload_n 1, 1) := by decide +kernel
theorem dX5_readNumber_66 : decode cX5_readNumber 66 = .ok (.aload_n 0, 1) := by decide +kernel
theorem dX5_readNumber_67 : decode cX5_readNumber 67 = .ok (.getfield 28, 3) := by decide +kernel
theorem dX5_readNumber_70 : decode cX5_readNumber 70 = .ok (.if_icmp .ge 37, 3) := by decide +kernel
theorem dX5_readNumber_73 : decode cX5_readNumber 73 = .ok (.aload_n 0, 1) := by decide +kernel
theorem dX5_readNumber_74 : decode cX5_readNumber 74 = .ok (.getfield 19, 3) := by decide +kernel
theorem dX5_readNumber_77 : decode cX5_readNumber 77 = .ok (.iconst 2, 1) := by decide +kernel
theorem dX5_readNumber_78 : decode cX5_readNumber 78 = .ok (.if_icmp .ne 29, 3) := by decide +kernel
theorem dX5_readNumber_81 : decode cX5_readNumber 81 = .ok (.aload_n 0, 1) := by decide +kernel
theorem dX5_readNumber_82 : decode cX5_readNumber 82 = .ok (.bipush 10, 2) := by decide +kernel
theorem dX5_readNumber_84 : decode cX5_readNumber 84 = .ok (.aload_n 0, 1) := by decide +kernel
theorem dX5_readNumber_85 : decode cX5_readNumber 85 = .ok (.getfield 25, 3) := by decide +kernel
theorem dX5_readNumber_88 : decode cX5_readNumber 88 = .ok (.imul, 1) := by decide +kernel
theorem dX5_readNumber_89 : decode cX5_readNumber 89 = .ok (.aload_n 0, 1) := by decide +kernel
theorem dX5_readNumber_90 : decode cX5_readNumber 90 = .ok (.iload_n 1, 1) := by decide +kernel
theorem dX5_readNumber_91 : decode cX5_readNumber 91 = .ok (.invokevirtual 34, 3) := by decide +kernel
theorem dX5_readNumber_94 : decode cX5_readNumber 94 = .ok (.iadd, 1) := by decide +kernel
theorem dX5_readNumber_95 : decode cX5_readNumber 95 = .ok (.bipush 48, 2) := by decide +kernel
theorem dX5_readNumber_97 : decode cX5_readNumber 97 = .ok (.isub, 1) := by decide +kernel
theorem dX5_readNumber_98 : decode cX5_readNumber 98 = .ok (.putfield 25, 3) := by decide +kernel
theorem dX5_readNumber_101 : decode cX5_readNumber 101 = .ok (.iinc 1 1, 3) := by decide +kernel
theorem dX5_readNumber_104 : decode cX5_readNumber 104 = .ok (.goto (-39), 3) := by decide +kernel
theorem dX5_readNumber_107 : decode cX5_readNumber 107 = .ok (.return_, 1) := by decide +kernel
theorem dX5_readName_0 : decode cX5_readName 0 = .ok (.aload_n 0, 1) := by decide +kernel
theorem dX5_readName_1 : decode cX5_readName 1 = .ok (.getfield 28, 3) := by decide +kernel
theorem dX5_readName_4 : decode cX5_readName 4 = .ok (.aload_n 0, 1) := by decide +kernel
theorem dX5_readName_5 : decode cX5_readName 5 = .ok (.getfield 15, 3) := by decide +kernel
theorem dX5_readName_8 : decode cX5_readName 8 = .ok (.if_icmp .ge 30, 3) := by decide +kernel
theorem dX5_readName_11 : decode cX5_readName 11 = .ok (.aload_n 0, 1) := by decide +kernel
theorem dX5_readName_12 : decode cX5_readName 12 = .ok (.aload_n 0, 1) := by decide +kernel
theorem dX5_readName_13 : decode cX5_readName 13 = .ok (.getfield 28, 3) := by decide +kernel
theorem dX5_readName_16 : decode cX5_readName 16 = .ok (.invokevirtual 34, 3) := by decide +kernel
theorem dX5_readName_19 : decode cX5_readName 19 = .ok (.invokestatic 48, 3) := by decide +kernel
theorem dX5_readName_22 : decode cX5_readName 22 = .ok (.ifCond .eq 16, 3) := by decide +kernel
theorem dX5_readName_25 : decode cX5_readName 25 = .ok (.aload_n 0, 1) := by decide +kernel
theorem dX5_readName_26 : decode cX5_readName 26 = .ok (.dup, 1) := by decide +kernel
theorem dX5_readName_27 : decode cX5_readName 27 = .ok (.getfield 28, 3) := by decide +kernel
theorem dX5_readName_30 : decode cX5_readName 30 = .ok (.iconst 1, 1) := by decide +kernel
theorem dX5_readName_31 : decode cX5_readName 31 = .ok (.iadd, 1) := by decide +kernel
theorem dX5_readName_32 : decode cX5_readName 32 = .ok (.putfield 28, 3) := by decide +kernel
theorem dX5_readName_35 : decode cX5_readName 35 = .ok (.goto (-35), 3) := by decide +kernel
theorem dX5_readName_38 : decode cX5_readName 38 = .ok (.aload_n 0, 1) := by decide +kernel
theorem dX5_readName_39 : decode cX5_readName 39 = .ok (.bipush 6, 2) := by decide +kernel
theorem dX5_readName_41 : decode cX5_readName 41 = .ok (.putfield 19, 3) := by decide +kernel
theorem dX5_readName_44 : decode cX5_readName 44 = .ok (.aload_n 0, 1) := by decide +kernel
theorem dX5_readName_45 : decode cX5_readName 45 = .ok (.ldc 54, 2) := by decide +kernel
theorem dX5_readName_47 : decode cX5_readName 47 = .ok (.invokevirtual 56, 3) := by decide +kernel
theorem dX5_readName_50 : decode cX5_readName 50 = .ok (.ifCond .eq 11, 3) := by decide +kernel
theorem dX5_readName_53 : decode cX5_readName 53 = .ok (.aload_n 0, 1) := by decide +kernel
theorem dX5_readName_54 : decode cX5_readName 54 = .ok (.iconst 5, 1) := by decide +kernel
theorem dX5_readName_55 : decode cX5_readName 55 = .ok (.putfield 19, 3) := by decide +kernel
theorem dX5_readName_58 : decode cX5_readName 58 = .ok (.goto 59, 3) := by decide +kernel
theorem dX5_readName_61 : decode cX5_readName 61 = .ok (.aload_n 0, 1) := by decide +kernel
theorem dX5_readName_62 : decode cX5_readName 62 = .ok (.ldc 60, 2) := by decide +kernel
theorem dX5_readName_64 : decode cX5_readName 64 = .ok (.invokevirtual 56, 3) := by decide +kernel
theorem dX5_readName_67 : decode cX5_readName 67 = .ok (.ifCond .eq 11, 3) := by decide +kernel
theorem dX5_readName_70 : decode cX5_readName 70 = .ok (.aload_n 0, 1) := by decide +kernel
theorem dX5_readName_71 : decode cX5_readName 71 = .ok (.iconst 1, 1) := by decide +kernel
theorem dX5_readName_72 : decode cX5_readName 72 = .ok (.putfield 25, 3) := by decide +kernel
theorem dX5_readName_75 : decode cX5_readName 75 = .ok (.goto 42, 3) := by decide +kernel
theorem dX5_readName_78 : decode cX5_readName 78 = .ok (.aload_n 0, 1) := by decide +kernel
theorem dX5_readName_79 : decode cX5_readName 79 = .ok (.ldc 62, 2) := by decide +kernel
theorem dX5_readName_81 : decode cX5_readName 81 = .ok (.invokevirtual 56, 3) := by decide +kernel
theorem dX5_readName_84 : decode cX5_readName 84 = .ok (.ifCond .eq 11, 3) := by decide +kernel
theorem dX5_readName_87 : decode cX5_readName 87 = .ok (.aload_n 0, 1) := by decide +kernel
theorem dX5_readName_88 : decode cX5_readName 88 = .ok (.iconst 2, 1) := by decide +kernel
theorem dX5_readName_89 : decode cX5_readName 89 = .ok (.putfield 25, 3) := by decide +kernel
theorem dX5_readName_92 : decode cX5_readName 92 = .ok (.goto 25, 3) := by decide +kernel
theorem dX5_readName_95 : decode cX5_readName 95 = .ok (.aload_n 0, 1) := by decide +kernel
theorem dX5_readName_96 : decode cX5_readName 96 = .ok (.ldc 64, 2) := by decide +kernel
theorem dX5_readName_98 : decode cX5_readName 98 = .ok (.invokevirtual 56, 3) := by decide +kernel
theorem dX5_readName_101 : decode cX5_readName 101 = .ok (.ifCond .eq 11, 3) := by decide +kernel
theorem dX5_readName_104 : decode cX5_readName 104 = .ok (.aload_n 0, 1) := by decide +kernel
theorem dX5_readName_105 : decode cX5_readName 105 = .ok (.iconst 0, 1) := by decide +kernel
theorem dX5_readName_106 : decode cX5_readName 106 = .ok (.putfield 25, 3) := by decide +kernel
theorem dX5_readName_109 : decode cX5_readName 109 = .ok (.goto 8, 3) := by decide +kernel
theorem dX5_readName_112 : decode cX5_readName 112 = .ok (.aload_n 0, 1) := by decide +kernel
theorem dX5_readName_113 : decode cX5_readName 113 = .ok (.iconst 0, 1) := by decide +kernel
theorem dX5_readName_114 : decode cX5_readName 114 = .ok (.putfield 19, 3) := by decide +kernel
theorem dX5_readName_117 : decode cX5_readName 117 = .ok (.return_, 1) := by decide +kernel
theorem dX5_spells_0 : decode cX5_spells 0 = .ok (.aload_n 0, 1) := by decide +kernel
theorem dX5_spells_1 : decode cX5_spells 1 = .ok (.getfield 28, 3) := by decide +kernel
theorem dX5_spells_4 : decode cX5_spells 4 = .ok (.aload_n 0, 1) := by decide +kernel
theorem dX5_spells_5 : decode cX5_spells 5 = .ok (.getfield 22, 3) := by decide +kernel
theorem dX5_spells_8 : decode cX5_spells 8 = .ok (.isub, 1) := by decide +kernel
theorem dX5_spells_9 : decode cX5_spells 9 = .ok (.aload_n 1, 1) := by decide +kernel
theorem dX5_spells_10 : decode cX5_spells 10 = .ok (.invokevirtual 66, 3) := by decide +kernel
theorem dX5_spells_13 : decode cX5_spells 13 = .ok (.if_icmp .eq 5, 3) := by decide +kernel
theorem dX5_spells_16 : decode cX5_spells 16 = .ok (.iconst 0, 1) := by decide +kernel
theorem dX5_spells_17 : decode cX5_spells 17 = .ok (.ireturn, 1) := by decide +kernel
theorem dX5_spells_18 : decode cX5_spells 18 = .ok (.iconst 0, 1) := by decide +kernel
theorem dX5_spells_19 : decode cX5_spells 19 = .ok (.istore_n 2, 1) := by decide +kernel
theorem dX5_spells_20 : decode cX5_spells 20 = .ok (.iload_n 2, 1) := by decide +kernel
theorem dX5_spells_21 : decode cX5_spells 21 = .ok (.aload_n 1, 1) := by decide +kernel
theorem dX5_spells_22 : decode cX5_spells 22 = .ok (.invokevirtual 66, 3) := by decide +kernel
theorem dX5_spells_25 : decode cX5_spells 25 = .ok (.if_icmp .ge 29, 3) := by decide +kernel
theorem dX5_spells_28 : decode cX5_spells 28 = .ok (.aload_n 0, 1) := by decide +kernel
theorem dX5_spells_29 : decode cX5_spells 29 = .ok (.aload_n 0, 1) := by decide +kernel
theorem dX5_spells_30 : decode cX5_spells 30 = .ok (.getfield 22, 3) := by decide +kernel
theorem dX5_spells_33 : decode cX5_spells 33 = .ok (.iload_n 2, 1) := by decide +kernel
theorem dX5_spells_34 : decode cX5_spells 34 = .ok (.iadd, 1) := by decide +kernel
theorem dX5_spells_35 : decode cX5_spells 35 = .ok (.invokevirtual 34, 3) := by decide +kernel
theorem dX5_spells_38 : decode cX5_spells 38 = .ok (.aload_n 1, 1) := by decide +kernel
theorem dX5_spells_39 : decode cX5_spells 39 = .ok (.iload_n 2, 1) := by decide +kernel
theorem dX5_spells_40 : decode cX5_spells 40 = .ok (.invokevirtual 71, 3) := by decide +kernel
theorem dX5_spells_43 : decode cX5_spells 43 = .ok (.if_icmp .eq 5, 3) := by decide +kernel
theorem dX5_spells_46 : decode cX5_spells 46 = .ok (.iconst 0, 1) := by decide +kernel
theorem dX5_spells_47 : decode cX5_spells 47 = .ok (.ireturn, 1) := by decide +kernel
theorem dX5_spells_48 : decode cX5_spells 48 = .ok (.iinc 2 1, 3) := by decide +kernel
theorem dX5_spells_51 : decode cX5_spells 51 = .ok (.goto (-31), 3) := by decide +kernel
theorem dX5_spells_54 : decode cX5_spells 54 = .ok (.iconst 1, 1) := by decide +kernel
theorem dX5_spells_55 : decode cX5_spells 55 = .ok (.ireturn, 1) := by decide +kernel
theorem dX5_byteAt_0 : decode cX5_byteAt 0 = .ok (.iload_n 1, 1) := by decide +kernel
theorem dX5_byteAt_1 : decode cX5_byteAt 1 = .ok (.aload_n 0, 1) := by decide +kernel
theorem dX5_byteAt_2 : decode cX5_byteAt 2 = .ok (.getfield 15, 3) := by decide +kernel
theorem dX5_byteAt_5 : decode cX5_byteAt 5 = .ok (.invokestatic 75, 3) := by decide +kernel
theorem dX5_byteAt_8 : decode cX5_byteAt 8 = .ok (.ifCond .ne 10, 3) := by decide +kernel
theorem dX5_byteAt_11 : decode cX5_byteAt 11 = .ok (.iload_n 1, 1) := by decide +kernel
theorem dX5_byteAt_12 : decode cX5_byteAt 12 = .ok (.sipush 400, 3) := by decide +kernel
theorem dX5_byteAt_15 : decode cX5_byteAt 15 = .ok (.if_icmp .lt 7, 3) := by decide +kernel
theorem dX5_byteAt_18 : decode cX5_byteAt 18 = .ok (.iconst (-1), 1) := by decide +kernel
theorem dX5_byteAt_19 : decode cX5_byteAt 19 = .ok (.goto 9, 3) := by decide +kernel
theorem dX5_byteAt_22 : decode cX5_byteAt 22 = .ok (.aload_n 0, 1) := by decide +kernel
theorem dX5_byteAt_23 : decode cX5_byteAt 23 = .ok (.getfield 9, 3) := by decide +kernel
theorem dX5_byteAt_26 : decode cX5_byteAt 26 = .ok (.iload_n 1, 1) := by decide +kernel
theorem dX5_byteAt_27 : decode cX5_byteAt 27 = .ok (.iaload, 1) := by decide +kernel
theorem dX5_byteAt_28 : decode cX5_byteAt 28 = .ok (.ireturn, 1) := by decide +kernel
theorem dX5_isBlank_0 : decode cX5_isBlank 0 = .ok (.iload_n 0, 1) := by decide +kernel
theorem dX5_isBlank_1 : decode cX5_isBlank 1 = .ok (.bipush 32, 2) := by decide +kernel
theorem dX5_isBlank_3 : decode cX5_isBlank 3 = .ok (.if_icmp .eq 9, 3) := by decide +kernel
theorem dX5_isBlank_6 : decode cX5_isBlank 6 = .ok (.iload_n 0, 1) := by decide +kernel
theorem dX5_isBlank_7 : decode cX5_isBlank 7 = .ok (.bipush 10, 2) := by decide +kernel
theorem dX5_isBlank_9 : decode cX5_isBlank 9 = .ok (.if_icmp .ne 7, 3) := by decide +kernel
theorem dX5_isBlank_12 : decode cX5_isBlank 12 = .ok (.iconst 1, 1) := by decide +kernel
theorem dX5_isBlank_13 : decode cX5_isBlank 13 = .ok (.goto 4, 3) := by decide +kernel
theorem dX5_isBlank_16 : decode cX5_isBlank 16 = .ok (.iconst 0, 1) := by decide +kernel
theorem dX5_isBlank_17 : decode cX5_isBlank 17 = .ok (.ireturn, 1) := by decide +kernel
theorem dX5_isFigure_0 : decode cX5_isFigure 0 = .ok (.iload_n 0, 1) := by decide +kernel
theorem dX5_isFigure_1 : decode cX5_isFigure 1 = .ok (.bipush 48, 2) := by decide +kernel
theorem dX5_isFigure_3 : decode cX5_isFigure 3 = .ok (.if_icmp .lt 13, 3) := by decide +kernel
theorem dX5_isFigure_6 : decode cX5_isFigure 6 = .ok (.iload_n 0, 1) := by decide +kernel
theorem dX5_isFigure_7 : decode cX5_isFigure 7 = .ok (.bipush 57, 2) := by decide +kernel
theorem dX5_isFigure_9 : decode cX5_isFigure 9 = .ok (.if_icmp .gt 7, 3) := by decide +kernel
theorem dX5_isFigure_12 : decode cX5_isFigure 12 = .ok (.iconst 1, 1) := by decide +kernel
theorem dX5_isFigure_13 : decode cX5_isFigure 13 = .ok (.goto 4, 3) := by decide +kernel
theorem dX5_isFigure_16 : decode cX5_isFigure 16 = .ok (.iconst 0, 1) := by decide +kernel
theorem dX5_isFigure_17 : decode cX5_isFigure 17 = .ok (.ireturn, 1) := by decide +kernel
theorem dX5_isLetter_0 : decode cX5_isLetter 0 = .ok (.iload_n 0, 1) := by decide +kernel
theorem dX5_isLetter_1 : decode cX5_isLetter 1 = .ok (.bipush 97, 2) := by decide +kernel
theorem dX5_isLetter_3 : decode cX5_isLetter 3 = .ok (.if_icmp .lt 13, 3) := by decide +kernel
theorem dX5_isLetter_6 : decode cX5_isLetter 6 = .ok (.iload_n 0, 1) := by decide +kernel
theorem dX5_isLetter_7 : decode cX5_isLetter 7 = .ok (.bipush 122, 2) := by decide +kernel
theorem dX5_isLetter_9 : decode cX5_isLetter 9 = .ok (.if_icmp .gt 7, 3) := by decide +kernel
theorem dX5_isLetter_12 : decode cX5_isLetter 12 = .ok (.iconst 1, 1) := by decide +kernel
theorem dX5_isLetter_13 : decode cX5_isLetter 13 = .ok (.goto 4, 3) := by decide +kernel
theorem dX5_isLetter_16 : decode cX5_isLetter 16 = .ok (.iconst 0, 1) := by decide +kernel
theorem dX5_isLetter_17 : decode cX5_isLetter 17 = .ok (.ireturn, 1) := by decide +kernel
theorem dX6_init_0 : decode cX6_init 0 = .ok (.aload_n 0, 1) := by decide +kernel
theorem dX6_init_1 : decode cX6_init 1 = .ok (.invokespecial 3, 3) := by decide +kernel
theorem dX6_init_4 : decode cX6_init 4 = .ok (.aload_n 0, 1) := by decide +kernel
theorem dX6_init_5 : decode cX6_init 5 = .ok (.bipush 64, 2) := by decide +kernel
theorem dX6_init_7 : decode cX6_init 7 = .ok (.newarray .int, 2) := by decide +kernel
theorem dX6_init_9 : decode cX6_init 9 = .ok (.putfield 11, 3) := by decide +kernel
theorem dX6_init_12 : decode cX6_init 12 = .ok (.aload_n 0, 1) := by decide +kernel
theorem dX6_init_13 : decode cX6_init 13 = .ok (.iconst 3, 1) := by decide +kernel
theorem dX6_init_14 : decode cX6_init 14 = .ok (.newarray .long, 2) := by decide +kernel
theorem dX6_init_16 : decode cX6_init 16 = .ok (.putfield 15, 3) := by decide +kernel
theorem dX6_init_19 : decode cX6_init 19 = .ok (.aload_n 0, 1) := by decide +kernel
theorem dX6_init_20 : decode cX6_init 20 = .ok (.sipush 192, 3) := by decide +kernel
theorem dX6_init_23 : decode cX6_init 23 = .ok (.newarray .long, 2) := by decide +kernel
theorem dX6_init_25 : decode cX6_init 25 = .ok (.putfield 19, 3) := by decide +kernel
theorem dX6_init_28 : decode cX6_init 28 = .ok (.aload_n 0, 1) := by decide +kernel
theorem dX6_init_29 : decode cX6_init 29 = .ok (.iconst 3, 1) := by decide +kernel
theorem dX6_init_30 : decode cX6_init 30 = .ok (.newarray .boolean, 2) := by decide +kernel
theorem dX6_init_32 : decode cX6_init 32 = .ok (.putfield 22, 3) := by decide +kernel
theorem dX6_init_35 : decode cX6_init 35 = .ok (.aload_n 0, 1) := by decide +kernel
theorem dX6_init_36 : decode cX6_init 36 = .ok (.bipush 9, 2) := by decide +kernel
theorem dX6_init_38 : decode cX6_init 38 = .ok (.newarray .int, 2) := by decide +kernel
theorem dX6_init_40 : decode cX6_init 40 = .ok (.putfield 26, 3) := by decide +kernel
theorem dX6_init_43 : decode cX6_init 43 = .ok (.aload_n 0, 1) := by decide +kernel
theorem dX6_init_44 : decode cX6_init 44 = .ok (.bipush 9, 2) := by decide +kernel
theorem dX6_init_46 : decode cX6_init 46 = .ok (.newarray .int, 2) := by decide +kernel
theorem dX6_init_48 : decode cX6_init 48 = .ok (.putfield 29, 3) := by decide +kernel
theorem dX6_init_51 : decode cX6_init 51 = .ok (.aload_n 0, 1) := by decide +kernel
theorem dX6_init_52 : decode cX6_init 52 = .ok (.bipush 81, 2) := by decide +kernel
theorem dX6_init_54 : decode cX6_init 54 = .ok (.newarray .int, 2) := by decide +kernel
theorem dX6_init_56 : decode cX6_init 56 = .ok (.putfield 32, 3) := by decide +kernel
theorem dX6_init_59 : decode cX6_init 59 = .ok (.aload_n 0, 1) := by decide +kernel
theorem dX6_init_60 : decode cX6_init 60 = .ok (.iconst 0, 1) := by decide +kernel
theorem dX6_init_61 : decode cX6_init 61 = .ok (.putfield 35, 3) := by decide +kernel
theorem dX6_init_64 : decode cX6_init 64 = .ok (.aload_n 0, 1) := by decide +kernel
theorem dX6_init_65 : decode cX6_init 65 = .ok (.iconst 0, 1) := by decide +kernel
theorem dX6_init_66 : decode cX6_init 66 = .ok (.putfield 39, 3) := by decide +kernel
theorem dX6_init_69 : decode cX6_init 69 = .ok (.aload_n 0, 1) := by decide +kernel
theorem dX6_init_70 : decode cX6_init 70 = .ok (.iconst 0, 1) := by decide +kernel
theorem dX6_init_71 : decode cX6_init 71 = .ok (.putfield 42, 3) := by decide +kernel
theorem dX6_init_74 : decode cX6_init 74 = .ok (.aload_n 0, 1) := by decide +kernel
theorem dX6_init_75 : decode cX6_init 75 = .ok (.aload_n 1, 1) := by decide +kernel
theorem dX6_init_76 : decode cX6_init 76 = .ok (.putfield 45, 3) := by decide +kernel
theorem dX6_init_79 : decode cX6_init 79 = .ok (.return_, 1) := by decide +kernel
theorem dX6_forgetRules_0 : decode cX6_forgetRules 0 = .ok (.iconst 0, 1) := by decide +kernel
theorem dX6_forgetRules_1 : decode cX6_forgetRules 1 = .ok (.istore_n 1, 1) := by decide +kernel
theorem dX6_forgetRules_2 : decode cX6_forgetRules 2 = .ok (.iload_n 1, 1) := by decide +kernel
theorem dX6_forgetRules_3 : decode cX6_forgetRules 3 = .ok (.iconst 3, 1) := by decide +kernel
theorem dX6_forgetRules_4 : decode cX6_forgetRules 4 = .ok (.if_icmp .ge 16, 3) := by decide +kernel
theorem dX6_forgetRules_7 : decode cX6_forgetRules 7 = .ok (.aload_n 0, 1) := by decide +kernel
theorem dX6_forgetRules_8 : decode cX6_forgetRules 8 = .ok (.getfield 22, 3) := by decide +kernel
theorem dX6_forgetRules_11 : decode cX6_forgetRules 11 = .ok (.iload_n 1, 1) := by decide +kernel
theorem dX6_forgetRules_12 : decode cX6_forgetRules 12 = .ok (.iconst 0, 1) := by decide +kernel
theorem dX6_forgetRules_13 : decode cX6_forgetRules 13 = .ok (.bastore, 1) := by decide +kernel
theorem dX6_forgetRules_14 : decode cX6_forgetRules 14 = .ok (.iinc 1 1, 3) := by decide +kernel
theorem dX6_forgetRules_17 : decode cX6_forgetRules 17 = .ok (.goto (-15), 3) := by decide +kernel
theorem dX6_forgetRules_20 : decode cX6_forgetRules 20 = .ok (.return_, 1) := by decide +kernel
theorem dX6_gatherFor_0 : decode cX6_gatherFor 0 = .ok (.aload_n 0, 1) := by decide +kernel
theorem dX6_gatherFor_1 : decode cX6_gatherFor 1 = .ok (.getfield 35, 3) := by decide +kernel
theorem dX6_gatherFor_4 : decode cX6_gatherFor 4 = .ok (.iload_n 1, 1) := by decide +kernel
theorem dX6_gatherFor_5 : decode cX6_gatherFor 5 = .ok (.if_icmp .ne 4, 3) := by decide +kernel
theorem dX6_gatherFor_8 : decode cX6_gatherFor 8 = .ok (.return_, 1) := by decide +kernel
theorem dX6_gatherFor_9 : decode cX6_gatherFor 9 = .ok (.aload_n 0, 1) := by decide +kernel
theorem dX6_gatherFor_10 : decode cX6_gatherFor 10 = .ok (.iload_n 1, 1) := by decide +kernel
theorem dX6_gatherFor_11 : decode cX6_gatherFor 11 = .ok (.putfield 35, 3) := by decide +kernel
theorem dX6_gatherFor_14 : decode cX6_gatherFor 14 = .ok (.aload_n 0, 1) := by decide +kernel
theorem dX6_gatherFor_15 : decode cX6_gatherFor 15 = .ok (.iconst 0, 1) := by decide +kernel
theorem dX6_gatherFor_16 : decode cX6_gatherFor 16 = .ok (.putfield 39, 3) := by decide +kernel
theorem dX6_gatherFor_19 : decode cX6_gatherFor 19 = .ok (.aload_n 0, 1) := by decide +kernel
theorem dX6_gatherFor_20 : decode cX6_gatherFor 20 = .ok (.aload_n 0, 1) := by decide +kernel
theorem dX6_gatherFor_21 : decode cX6_gatherFor 21 = .ok (.getfield 45, 3) := by decide +kernel
theorem dX6_gatherFor_24 : decode cX6_gatherFor 24 = .ok (.iconst 0, 1) := by decide +kernel
theorem dX6_gatherFor_25 : decode cX6_gatherFor 25 = .ok (.invokevirtual 49, 3) := by decide +kernel
theorem dX6_gatherFor_28 : decode cX6_gatherFor 28 = .ok (.iconst 0, 1) := by decide +kernel
theorem dX6_gatherFor_29 : decode cX6_gatherFor 29 = .ok (.iload_n 1, 1) := by decide +kernel
theorem dX6_gatherFor_30 : decode cX6_gatherFor 30 = .ok (.iconst 4, 1) := by decide +kernel
theorem dX6_gatherFor_31 : decode cX6_gatherFor 31 = .ok (.invokestatic 55, 3) := by decide +kernel
theorem dX6_gatherFor_34 : decode cX6_gatherFor 34 = .ok (.iconst 1, 1) := by decide +kernel
theorem dX6_gatherFor_35 : decode cX6_gatherFor 35 = .ok (.isub, 1) := by decide +kernel
theorem dX6_gatherFor_36 : decode cX6_gatherFor 36 = .ok (.invokevirtual 61, 3) := by decide +kernel
theorem dX6_gatherFor_39 : decode cX6_gatherFor 39 = .ok (.aload_n 0, 1) := by decide +kernel
theorem dX6_gatherFor_40 : decode cX6_gatherFor 40 = .ok (.invokevirtual 65, 3) := by decide +kernel
theorem dX6_gatherFor_43 : decode cX6_gatherFor 43 = .ok (.aload_n 0, 1) := by decide +kernel
theorem dX6_gatherFor_44 : decode cX6_gatherFor 44 = .ok (.invokevirtual 68, 3) := by decide +kernel
theorem dX6_gatherFor_47 : decode cX6_gatherFor 47 = .ok (.return_, 1) := by decide +kernel
theorem dX6_gather_0 : decode cX6_gather 0 = .ok (.iload_n 3, 1) := by decide +kernel
theorem dX6_gather_1 : decode cX6_gather 1 = .ok (.ifCond .gt 45, 3) := by decide +kernel
theorem dX6_gather_4 : decode cX6_gather 4 = .ok (.aload_n 0, 1) := by decide +kernel
theorem dX6_gather_5 : decode cX6_gather 5 = .ok (.getfield 39, 3) := by decide +kernel
theorem dX6_gather_8 : decode cX6_gather 8 = .ok (.bipush 64, 2) := by decide +kernel
theorem dX6_gather_10 : decode cX6_gather 10 = .ok (.if_icmp .ge 35, 3) := by decide +kernel
theorem dX6_gather_13 : decode cX6_gather 13 = .ok (.aload_n 0, 1) := by decide +kernel
theorem dX6_gather_14 : decode cX6_gather 14 = .ok (.getfield 45, 3) := by decide +kernel
theorem dX6_gather_17 : decode cX6_gather 17 = .ok (.iload_n 1, 1) := by decide +kernel
theorem dX6_gather_18 : decode cX6_gather 18 = .ok (.invokevirtual 71, 3) := by decide +kernel
theorem dX6_gather_21 : decode cX6_gather 21 = .ok (.iload_n 1, 1) := by decide +kernel
theorem dX6_gather_22 : decode cX6_gather 22 = .ok (.if_icmp .ne 23, 3) := by decide +kernel
theorem dX6_gather_25 : decode cX6_gather 25 = .ok (.aload_n 0, 1) := by decide +kernel
theorem dX6_gather_26 : decode cX6_gather 26 = .ok (.getfield 11, 3) := by decide +kernel
theorem dX6_gather_29 : decode cX6_gather 29 = .ok (.aload_n 0, 1) := by decide +kernel
theorem dX6_gather_30 : decode cX6_gather 30 = .ok (.getfield 39, 3) := by decide +kernel
theorem dX6_gather_33 : decode cX6_gather 33 = .ok (.iload_n 1, 1) := by decide +kernel
theorem dX6_gather_34 : decode cX6_gather 34 = .ok (.iastore, 1) := by decide +kernel
theorem dX6_gather_35 : decode cX6_gather 35 = .ok (.aload_n 0, 1) := by decide +kernel
theorem dX6_gather_36 : decode cX6_gather 36 = .ok (.dup, 1) := by decide +kernel
theorem dX6_gather_37 : decode cX6_gather 37 = .ok (.getfield 39, 3) := by decide +kernel
theorem dX6_gather_40 : decode cX6_gather 40 = .ok (.iconst 1, 1) := by decide +kernel
theorem dX6_gather_41 : decode cX6_gather 41 = .ok (.iadd, 1) := by decide +kernel
theorem dX6_gather_42 : decode cX6_gather 42 = .ok (.putfield 39, 3) := by decide +kernel
theorem dX6_gather_45 : decode cX6_gather 45 = .ok (.return_, 1) := by decide +kernel
theorem dX6_gather_46 : decode cX6_gather 46 = .ok (.iload_n 2, 1) := by decide +kernel
theorem dX6_gather_47 : decode cX6_gather 47 = .ok (.istore 4, 2) := by decide +kernel
theorem dX6_gather_49 : decode cX6_gather 49 = .ok (.iload 4, 2) := by decide +kernel
theorem dX6_gather_51 : decode cX6_gather 51 = .ok (.aload_n 0, 1) := by decide +kernel
theorem dX6_gather_52 : decode cX6_gather 52 = .ok (.getfield 45, 3) := by decide +kernel
theorem dX6_gather_55 : decode cX6_gather 55 = .ok (.getfield 74, 3) := by decide +kernel
theorem dX6_gather_58 : decode cX6_gather 58 = .ok (.if_icmp .ge 29, 3) := by decide +kernel
theorem dX6_gather_61 : decode cX6_gather 61 = .ok (.aload_n 0, 1) := by decide +kernel
theorem dX6_gather_62 : decode cX6_gather 62 = .ok (.iload_n 1, 1) := by decide +kernel
theorem dX6_gather_63 : decode cX6_gather 63 = .ok (.aload_n 0, 1) := by decide +kernel
theorem dX6_gather_64 : decode cX6_gather 64 = .ok (.getfield 45, 3) := by decide +kernel
theorem dX6_gather_67 : decode cX6_gather 67 = .ok (.iload 4, 2) := by decide +kernel
theorem dX6_gather_69 : decode cX6_gather 69 = .ok (.invokevirtual 49, 3) := by decide +kernel
theorem dX6_gather_72 : decode cX6_gather 72 = .ok (.iadd, 1) := by decide +kernel
theorem dX6_gather_73 : decode cX6_gather 73 = .ok (.iload 4, 2) := by decide +kernel
theorem dX6_gather_75 : decode cX6_gather 75 = .ok (.iload_n 3, 1) := by decide +kernel
theorem dX6_gather_76 : decode cX6_gather 76 = .ok (.iconst 1, 1) := by decide +kernel
theorem dX6_gather_77 : decode cX6_gather 77 = .ok (.isub, 1) := by decide +kernel
theorem dX6_gather_78 : decode cX6_gather 78 = .ok (.invokevirtual 61, 3) := by decide +kernel
theorem dX6_gather_81 : decode cX6_gather 81 = .ok (.iinc 4 1, 3) := by decide +kernel
theorem dX6_gather_84 : decode cX6_gather 84 = .ok (.goto (-35), 3) := by decide +kernel
theorem dX6_gather_87 : decode cX6_gather 87 = .ok (.return_, 1) := by decide +kernel
theorem dX6_markGoals_0 : decode cX6_markGoals 0 = .ok (.iconst 0, 1) := by decide +kernel
theorem dX6_markGoals_1 : decode cX6_markGoals 1 = .ok (.istore_n 1, 1) := by decide +kernel
theorem dX6_markGoals_2 : decode cX6_markGoals 2 = .ok (.iload_n 1, 1) := by decide +kernel
theorem dX6_markGoals_3 : decode cX6_markGoals 3 = .ok (.iconst 3, 1) := by decide +kernel
theorem dX6_markGoals_4 : decode cX6_markGoals 4 = .ok (.if_icmp .ge 67, 3) := by decide +kernel
theorem dX6_markGoals_7 : decode cX6_markGoals 7 = .ok (.aload_n 0, 1) := by decide +kernel
theorem dX6_markGoals_8 : decode cX6_markGoals 8 = .ok (.getfield 15, 3) := by decide +kernel
theorem dX6_markGoals_11 : decode cX6_markGoals 11 = .ok (.iload_n 1, 1) := by decide +kernel
theorem dX6_markGoals_12 : decode cX6_markGoals 12 = .ok (.lconst 0, 1) := by decide +kernel
theorem dX6_markGoals_13 : decode cX6_markGoals 13 = .ok (.lastore, 1) := by decide +kernel
theorem dX6_markGoals_14 : decode cX6_markGoals 14 = .ok (.iconst 0, 1) := by decide +kernel
theorem dX6_markGoals_15 : decode cX6_markGoals 15 = .ok (.istore_n 2, 1) := by decide +kernel
theorem dX6_markGoals_16 : decode cX6_markGoals 16 = .ok (.iload_n 2, 1) := by decide +kernel
theorem dX6_markGoals_17 : decode cX6_markGoals 17 = .ok (.aload_n 0, 1) := by decide +kernel
theorem dX6_markGoals_18 : decode cX6_markGoals 18 = .ok (.getfield 39, 3) := by decide +kernel
theorem dX6_markGoals_21 : decode cX6_markGoals 21 = .ok (.if_icmp .ge 44, 3) := by decide +kernel
theorem dX6_markGoals_24 : decode cX6_markGoals 24 = .ok (.iload_n 2, 1) := by decide +kernel
theorem dX6_markGoals_25 : decode cX6_markGoals 25 = .ok (.bipush 64, 2) := by decide +kernel
theorem dX6_markGoals_27 : decode cX6_markGoals 27 = .ok (.if_icmp .ge 38, 3) := by decide +kernel
theorem dX6_markGoals_30 : decode cX6_markGoals 30 = .ok (.aload_n 0, 1) := by decide +kernel
theorem dX6_markGoals_31 : decode cX6_markGoals 31 = .ok (.getfield 45, 3) := by decide +kernel
theorem dX6_markGoals_34 : decode cX6_markGoals 34 = .ok (.aload_n 0, 1) := by decide +kernel
theorem dX6_markGoals_35 : decode cX6_markGoals 35 = .ok (.getfield 11, 3) := by decide +kernel
theorem dX6_markGoals_38 : decode cX6_markGoals 38 = .ok (.iload_n 2, 1) := by decide +kernel
theorem dX6_markGoals_39 : decode cX6_markGoals 39 = .ok (.iaload, 1) := by decide +kernel
theorem dX6_markGoals_40 : decode cX6_markGoals 40 = .ok (.iload_n 1, 1) := by decide +kernel
theorem dX6_markGoals_41 : decode cX6_markGoals 41 = .ok (.invokevirtual 77, 3) := by decide +kernel
theorem dX6_markGoals_44 : decode cX6_markGoals 44 = .ok (.ifCond .eq 15, 3) := by decide +kernel
theorem dX6_markGoals_47 : decode cX6_markGoals 47 = .ok (.aload_n 0, 1) := by decide +kernel
theorem dX6_markGoals_48 : decode cX6_markGoals 48 = .ok (.getfield 15, 3) := by decide +kernel
theorem dX6_markGoals_51 : decode cX6_markGoals 51 = .ok (.iload_n 1, 1) := by decide +kernel
theorem dX6_markGoals_52 : decode cX6_markGoals 52 = .ok (.dup2, 1) := by decide +kernel
theorem dX6_markGoals_53 : decode cX6_markGoals 53 = .ok (.laload, 1) := by decide +kernel
theorem dX6_markGoals_54 : decode cX6_markGoals 54 = .ok (.lconst 1, 1) := by decide +kernel
theorem dX6_markGoals_55 : decode cX6_markGoals 55 = .ok (.iload_n 2, 1) := by decide +kernel
theorem dX6_markGoals_56 : decode cX6_markGoals 56 = .ok (.lshl, 1) := by decide +kernel
theorem dX6_markGoals_57 : decode cX6_markGoals 57 = .ok (.lor, 1) := by decide +kernel
theorem dX6_markGoals_58 : decode cX6_markGoals 58 = .ok (.lastore, 1) := by decide +kernel
theorem dX6_markGoals_59 : decode cX6_markGoals 59 = .ok (.iinc 2 1, 3) := by decide +kernel
theorem dX6_markGoals_62 : decode cX6_markGoals 62 = .ok (.goto (-46), 3) := by decide +kernel
theorem dX6_markGoals_65 : decode cX6_markGoals 65 = .ok (.iinc 1 1, 3) := by decide +kernel
theorem dX6_markGoals_68 : decode cX6_markGoals 68 = .ok (.goto (-66), 3) := by decide +kernel
theorem dX6_markGoals_71 : decode cX6_markGoals 71 = .ok (.return_, 1) := by decide +kernel
theorem dX6_numberOf_0 : decode cX6_numberOf 0 = .ok (.aload_n 0, 1) := by decide +kernel
theorem dX6_numberOf_1 : decode cX6_numberOf 1 = .ok (.getfield 45, 3) := by decide +kernel
theorem dX6_numberOf_4 : decode cX6_numberOf 4 = .ok (.iload_n 1, 1) := by decide +kernel
theorem dX6_numberOf_5 : decode cX6_numberOf 5 = .ok (.invokevirtual 71, 3) := by decide +kernel
theorem dX6_numberOf_8 : decode cX6_numberOf 8 = .ok (.istore_n 2, 1) := by decide +kernel
theorem dX6_numberOf_9 : decode cX6_numberOf 9 = .ok (.iconst 0, 1) := by decide +kernel
theorem dX6_numberOf_10 : decode cX6_numberOf 10 = .ok (.istore_n 3, 1) := by decide +kernel
theorem dX6_numberOf_11 : decode cX6_numberOf 11 = .ok (.iload_n 3, 1) := by decide +kernel
theorem dX6_numberOf_12 : decode cX6_numberOf 12 = .ok (.aload_n 0, 1) := by decide +kernel
theorem dX6_numberOf_13 : decode cX6_numberOf 13 = .ok (.getfield 39, 3) := by decide +kernel
theorem dX6_numberOf_16 : decode cX6_numberOf 16 = .ok (.if_icmp .ge 27, 3) := by decide +kernel
theorem dX6_numberOf_19 : decode cX6_numberOf 19 = .ok (.iload_n 3, 1) := by decide +kernel
theorem dX6_numberOf_20 : decode cX6_numberOf 20 = .ok (.bipush 64, 2) := by decide +kernel
theorem dX6_numberOf_22 : decode cX6_numberOf 22 = .ok (.if_icmp .ge 21, 3) := by decide +kernel
theorem dX6_numberOf_25 : decode cX6_numberOf 25 = .ok (.aload_n 0, 1) := by decide +kernel
theorem dX6_numberOf_26 : decode cX6_numberOf 26 = .ok (.getfield 11, 3) := by decide +kernel
theorem dX6_numberOf_29 : decode cX6_numberOf 29 = .ok (.iload_n 3, 1) := by decide +kernel
theorem dX6_numberOf_30 : decode cX6_numberOf 30 = .ok (.iaload, 1) := by decide +kernel
theorem dX6_numberOf_31 : decode cX6_numberOf 31 = .ok (.iload_n 2, 1) := by decide +kernel
theorem dX6_numberOf_32 : decode cX6_numberOf 32 = .ok (.if_icmp .ne 5, 3) := by decide +kernel
theorem dX6_numberOf_35 : decode cX6_numberOf 35 = .ok (.iload_n 3, 1) := by decide +kernel
theorem dX6_numberOf_36 : decode cX6_numberOf 36 = .ok (.ireturn, 1) := by decide +kernel
theorem dX6_numberOf_37 : decode cX6_numberOf 37 = .ok (.iinc 3 1, 3) := by decide +kernel
theorem dX6_numberOf_40 : decode cX6_numberOf 40 = .ok (.goto (-29), 3) := by decide +kernel
theorem dX6_numberOf_43 : decode cX6_numberOf 43 = .ok (.iconst 0, 1) := by decide +kernel
theorem dX6_numberOf_44 : decode cX6_numberOf 44 = .ok (.ireturn, 1) := by decide +kernel
theorem dX6_linkBy_0 : decode cX6_linkBy 0 = .ok (.iload_n 2, 1) := by decide +kernel
theorem dX6_linkBy_1 : decode cX6_linkBy 1 = .ok (.iconst 3, 1) := by decide +kernel
theorem dX6_linkBy_2 : decode cX6_linkBy 2 = .ok (.invokestatic 81, 3) := by decide +kernel
theorem dX6_linkBy_5 : decode cX6_linkBy 5 = .ok (.ifCond .ne 12, 3) := by decide +kernel
theorem dX6_linkBy_8 : decode cX6_linkBy 8 = .ok (.aload_n 0, 1) := by decide +kernel
theorem dX6_linkBy_9 : decode cX6_linkBy 9 = .ok (.getfield 22, 3) := by decide +kernel
theorem dX6_linkBy_12 : decode cX6_linkBy 12 = .ok (.iload_n 2, 1) := by decide +kernel
theorem dX6_linkBy_13 : decode cX6_linkBy 13 = .ok (.baload, 1) := by decide +kernel
theorem dX6_linkBy_14 : decode cX6_linkBy 14 = .ok (.ifCond .eq 4, 3) := by decide +kernel
theorem dX6_linkBy_17 : decode cX6_linkBy 17 = .ok (.return_, 1) := by decide +kernel
theorem dX6_linkBy_18 : decode cX6_linkBy 18 = .ok (.aload_n 0, 1) := by decide +kernel
theorem dX6_linkBy_19 : decode cX6_linkBy 19 = .ok (.getfield 22, 3) := by decide +kernel
theorem dX6_linkBy_22 : decode cX6_linkBy 22 = .ok (.iload_n 2, 1) := by decide +kernel
theorem dX6_linkBy_23 : decode cX6_linkBy 23 = .ok (.iconst 1, 1) := by decide +kernel
theorem dX6_linkBy_24 : decode cX6_linkBy 24 = .ok (.bastore, 1) := by decide +kernel
theorem dX6_linkBy_25 : decode cX6_linkBy 25 = .ok (.iconst 0, 1) := by decide +kernel
theorem dX6_linkBy_26 : decode cX6_linkBy 26 = .ok (.istore_n 3, 1) := by decide +kernel
theorem dX6_linkBy_27 : decode cX6_linkBy 27 = .ok (.iload_n 3, 1) := by decide +kernel
theorem dX6_linkBy_28 : decode cX6_linkBy 28 = .ok (.aload_n 0, 1) := by decide +kernel
theorem dX6_linkBy_29 : decode cX6_linkBy 29 = .ok (.getfield 39, 3) := by decide +kernel
theorem dX6_linkBy_32 : decode cX6_linkBy 32 = .ok (.if_icmp .ge 78, 3) := by decide +kernel
theorem dX6_linkBy_35 : decode cX6_linkBy 35 = .ok (.iload_n 3, 1) := by decide +kernel
theorem dX6_linkBy_36 : decode cX6_linkBy 36 = .ok (.bipush 64, 2) := by decide +kernel
theorem dX6_linkBy_38 : decode cX6_linkBy 38 = .ok (.if_icmp .ge 72, 3) := by decide +kernel
theorem dX6_linkBy_41 : decode cX6_linkBy 41 = .ok (.aload_n 0, 1) := by decide +kernel
theorem dX6_linkBy_42 : decode cX6_linkBy 42 = .ok (.aload_n 1, 1) := by decide +kernel
theorem dX6_linkBy_43 : decode cX6_linkBy 43 = .ok (.aload_n 0, 1) := by decide +kernel
theorem dX6_linkBy_44 : decode cX6_linkBy 44 = .ok (.getfield 11, 3) := by decide +kernel
theorem dX6_linkBy_47 : decode cX6_linkBy 47 = .ok (.iload_n 3, 1) := by decide +kernel
theorem dX6_linkBy_48 : decode cX6_linkBy 48 = .ok (.iaload, 1) := by decide +kernel
theorem dX6_linkBy_49 : decode cX6_linkBy 49 = .ok (.invokevirtual 84, 3) := by decide +kernel
theorem dX6_linkBy_52 : decode cX6_linkBy 52 = .ok (.aload_n 0, 1) := by decide +kernel
theorem dX6_linkBy_53 : decode cX6_linkBy 53 = .ok (.iconst 0, 1) := by decide +kernel
theorem dX6_linkBy_54 : decode cX6_linkBy 54 = .ok (.putfield 42, 3) := by decide +kernel
theorem dX6_linkBy_57 : decode cX6_linkBy 57 = .ok (.iload_n 2, 1) := by decide +kernel
theorem dX6_linkBy_58 : decode cX6_linkBy 58 = .ok (.iconst 1, 1) := by decide +kernel
theorem dX6_linkBy_59 : decode cX6_linkBy 59 = .ok (.if_icmp .ne 16, 3) := by decide +kernel
theorem dX6_linkBy_62 : decode cX6_linkBy 62 = .ok (.aload_n 0, 1) := by decide +kernel
theorem dX6_linkBy_63 : decode cX6_linkBy 63 = .ok (.aload_n 0, 1) := by decide +kernel
theorem dX6_linkBy_64 : decode cX6_linkBy 64 = .ok (.getfield 11, 3) := by decide +kernel
theorem dX6_linkBy_67 : decode cX6_linkBy 67 = .ok (.iload_n 3, 1) := by decide +kernel
theorem dX6_linkBy_68 : decode cX6_linkBy 68 = .ok (.iaload, 1) := by decide +kernel
theorem dX6_linkBy_69 : decode cX6_linkBy 69 = .ok (.invokevirtual 88, 3) := by decide +kernel
theorem dX6_linkBy_72 : decode cX6_linkBy 72 = .ok (.goto 22, 3) := by decide +kernel
theorem dX6_linkBy_75 : decode cX6_linkBy 75 = .ok (.aload_n 0, 1) := by decide +kernel
theorem dX6_linkBy_76 : decode cX6_linkBy 76 = .ok (.aload_n 0, 1) := by decide +kernel
theorem dX6_linkBy_77 : decode cX6_linkBy 77 = .ok (.getfield 11, 3) := by decide +kernel
theorem dX6_linkBy_80 : decode cX6_linkBy 80 = .ok (.iload_n 3, 1) := by decide +kernel
theorem dX6_linkBy_81 : decode cX6_linkBy 81 = .ok (.iaload, 1) := by decide +kernel
theorem dX6_linkBy_82 : decode cX6_linkBy 82 = .ok (.iload_n 2, 1) := by decide +kernel
theorem dX6_linkBy_83 : decode cX6_linkBy 83 = .ok (.ifCond .ne 7, 3) := by decide +kernel
theorem dX6_linkBy_86 : decode cX6_linkBy 86 = .ok (.iconst 1, 1) := by decide +kernel
theorem dX6_linkBy_87 : decode cX6_linkBy 87 = .ok (.goto 4, 3) := by decide +kernel
theorem dX6_linkBy_90 : decode cX6_linkBy 90 = .ok (.iconst 0, 1) := by decide +kernel
theorem dX6_linkBy_91 : decode cX6_linkBy 91 = .ok (.invokevirtual 92, 3) := by decide +kernel
theorem dX6_linkBy_94 : decode cX6_linkBy 94 = .ok (.aload_n 0, 1) := by decide +kernel
theorem dX6_linkBy_95 : decode cX6_linkBy 95 = .ok (.iload_n 2, 1) := by decide +kernel
theorem dX6_linkBy_96 : decode cX6_linkBy 96 = .ok (.iload_n 3, 1) := by decide +kernel
theorem dX6_linkBy_97 : decode cX6_linkBy 97 = .ok (.aload_n 0, 1) := by decide +kernel
theorem dX6_linkBy_98 : decode cX6_linkBy 98 = .ok (.invokevirtual 96, 3) := by decide +kernel
theorem dX6_linkBy_101 : decode cX6_linkBy 101 = .ok (.invokevirtual 100, 3) := by decide +kernel
theorem dX6_linkBy_104 : decode cX6_linkBy 104 = .ok (.iinc 3 1, 3) := by decide +kernel
theorem dX6_linkBy_107 : decode cX6_linkBy 107 = .ok (.goto (-80), 3) := by decide +kernel
theorem dX6_linkBy_110 : decode cX6_linkBy 110 = .ok (.return_, 1) := by decide +kernel
theorem dX6_numbersOfNext_0 : decode cX6_numbersOfNext 0 = .ok (.lconst 0, 1) := by decide +kernel
theorem dX6_numbersOfNext_1 : decode cX6_numbersOfNext 1 = .ok (.lstore_n 1, 1) := by decide +kernel
theorem dX6_numbersOfNext_2 : decode cX6_numbersOfNext 2 = .ok (.iconst 0, 1) := by decide +kernel
theorem dX6_numbersOfNext_3 : decode cX6_numbersOfNext 3 = .ok (.istore_n 3, 1) := by decide +kernel
theorem dX6_numbersOfNext_4 : decode cX6_numbersOfNext 4 = .ok (.iload_n 3, 1) := by decide +kernel
theorem dX6_numbersOfNext_5 : decode cX6_numbersOfNext 5 = .ok (.aload_n 0, 1) := by decide +kernel
theorem dX6_numbersOfNext_6 : decode cX6_numbersOfNext 6 = .ok (.getfield 42, 3) := by decide +kernel
theorem dX6_numbersOfNext_9 : decode cX6_numbersOfNext 9 = .ok (.if_icmp .ge 30, 3) := by decide +kernel
theorem dX6_numbersOfNext_12 : decode cX6_numbersOfNext 12 = .ok (.iload_n 3, 1) := by decide +kernel
theorem dX6_numbersOfNext_13 : decode cX6_numbersOfNext 13 = .ok (.bipush 81, 2) := by decide +kernel
theorem dX6_numbersOfNext_15 : decode cX6_numbersOfNext 15 = .ok (.if_icmp .ge 24, 3) := by decide +kernel
theorem dX6_numbersOfNext_18 : decode cX6_numbersOfNext 18 = .ok (.lload_n 1, 1) := by decide +kernel
theorem dX6_numbersOfNext_19 : decode cX6_numbersOfNext 19 = .ok (.lconst 1, 1) := by decide +kernel
theorem dX6_numbersOfNext_20 : decode cX6_numbersOfNext 20 = .ok (.aload_n 0, 1) := by decide +kernel
theorem dX6_numbersOfNext_21 : decode cX6_numbersOfNext 21 = .ok (.aload_n 0, 1) := by decide +kernel
theorem dX6_numbersOfNext_22 : decode cX6_numbersOfNext 22 = .ok (.getfield 32, 3) := by decide +kernel
theorem dX6_numbersOfNext_25 : decode cX6_numbersOfNext 25 = .ok (.iload_n 3, 1) := by decide +kernel
theorem dX6_numbersOfNext_26 : decode cX6_numbersOfNext 26 = .ok (.iaload, 1) := by decide +kernel
theorem dX6_numbersOfNext_27 : decode cX6_numbersOfNext 27 = .ok (.invokevirtual 104, 3) := by decide +kernel
theorem dX6_numbersOfNext_30 : decode cX6_numbersOfNext 30 = .ok (.lshl, 1) := by decide +kernel
theorem dX6_numbersOfNext_31 : decode cX6_numbersOfNext 31 = .ok (.lor, 1) := by decide +kernel
theorem dX6_numbersOfNext_32 : decode cX6_numbersOfNext 32 = .ok (.lstore_n 1, 1) := by decide +kernel
theorem dX6_numbersOfNext_33 : decode cX6_numbersOfNext 33 = .ok (.iinc 3 1, 3) := by decide +kernel
theorem dX6_numbersOfNext_36 : decode cX6_numbersOfNext 36 = .ok (.goto (-32), 3) := by decide +kernel
theorem dX6_numbersOfNext_39 : decode cX6_numbersOfNext 39 = .ok (.lload_n 1, 1) := by decide +kernel
theorem dX6_numbersOfNext_40 : decode cX6_numbersOfNext 40 = .ok (.lreturn, 1) := by decide +kernel
theorem dX6_findMoves_0 : decode cX6_findMoves 0 = .ok (.iconst 0, 1) := by decide +kernel
theorem dX6_findMoves_1 : decode cX6_findMoves 1 = .ok (.istore_n 3, 1) := by decide +kernel
theorem dX6_findMoves_2 : decode cX6_findMoves 2 = .ok (.iload_n 3, 1) := by decide +kernel
theorem dX6_findMoves_3 : decode cX6_findMoves 3 = .ok (.aload_n 0, 1) := by decide +kernel
theorem dX6_findMoves_4 : decode cX6_findMoves 4 = .ok (.getfield 45, 3) := by decide +kernel
theorem dX6_findMoves_7 : decode cX6_findMoves 7 = .ok (.getfield 74, 3) := by decide +kernel
theorem dX6_findMoves_10 : decode cX6_findMoves 10 = .ok (.if_icmp .ge 105, 3) := by decide +kernel
theorem dX6_findMoves_13 : decode cX6_findMoves 13 = .ok (.iload_n 3, 1) := by decide +kernel
theorem dX6_findMoves_14 : decode cX6_findMoves 14 = .ok (.bipush 9, 2) := by decide +kernel
theorem dX6_findMoves_16 : decode cX6_findMoves 16 = .ok (.if_icmp .ge 99, 3) := by decide +kernel
theorem dX6_findMoves_19 : decode cX6_findMoves 19 = .ok (.aload_n 0, 1) := by decide +kernel
theorem dX6_findMoves_20 : decode cX6_findMoves 20 = .ok (.getfield 45, 3) := by decide +kernel
theorem dX6_findMoves_23 : decode cX6_findMoves 23 = .ok (.iload_n 2, 1) := by decide +kernel
theorem dX6_findMoves_24 : decode cX6_findMoves 24 = .ok (.iload_n 3, 1) := by decide +kernel
theorem dX6_findMoves_25 : decode cX6_findMoves 25 = .ok (.invokevirtual 107, 3) := by decide +kernel
theorem dX6_findMoves_28 : decode cX6_findMoves 28 = .ok (.ifCond .ne 7, 3) := by decide +kernel
theorem dX6_findMoves_31 : decode cX6_findMoves 31 = .ok (.iconst 0, 1) := by decide +kernel
theorem dX6_findMoves_32 : decode cX6_findMoves 32 = .ok (.goto 13, 3) := by decide +kernel
theorem dX6_findMoves_35 : decode cX6_findMoves 35 = .ok (.aload_n 1, 1) := by decide +kernel
theorem dX6_findMoves_36 : decode cX6_findMoves 36 = .ok (.aload_n 0, 1) := by decide +kernel
theorem dX6_findMoves_37 : decode cX6_findMoves 37 = .ok (.getfield 45, 3) := by decide +kernel
theorem dX6_findMoves_40 : decode cX6_findMoves 40 = .ok (.iload_n 2, 1) := by decide +kernel
theorem dX6_findMoves_41 : decode cX6_findMoves 41 = .ok (.iload_n 3, 1) := by decide +kernel
theorem dX6_findMoves_42 : decode cX6_findMoves 42 = .ok (.invokevirtual 110, 3) := by decide +kernel
theorem dX6_findMoves_45 : decode cX6_findMoves 45 = .ok (.istore 4, 2) := by decide +kernel
theorem dX6_findMoves_47 : decode cX6_findMoves 47 = .ok (.aload_n 0, 1) := by decide +kernel
theorem dX6_findMoves_48 : decode cX6_findMoves 48 = .ok (.getfield 26, 3) := by decide +kernel
theorem dX6_findMoves_51 : decode cX6_findMoves 51 = .ok (.iload_n 3, 1) := by decide +kernel
theorem dX6_findMoves_52 : decode cX6_findMoves 52 = .ok (.iload 4, 2) := by decide +kernel
theorem dX6_findMoves_54 : decode cX6_findMoves 54 = .ok (.iconst 1, 1) := by decide +kernel
theorem dX6_findMoves_55 : decode cX6_findMoves 55 = .ok (.if_icmp .eq 9, 3) := by decide +kernel
theorem dX6_findMoves_58 : decode cX6_findMoves 58 = .ok (.iload 4, 2) := by decide +kernel
theorem dX6_findMoves_60 : decode cX6_findMoves 60 = .ok (.iconst 2, 1) := by decide +kernel
theorem dX6_findMoves_61 : decode cX6_findMoves 61 = .ok (.if_icmp .ne 15, 3) := by decide +kernel
theorem dX6_findMoves_64 : decode cX6_findMoves 64 = .ok (.aload_n 0, 1) := by decide +kernel
theorem dX6_findMoves_65 : decode cX6_findMoves 65 = .ok (.getfield 45, 3) := by decide +kernel
theorem dX6_findMoves_68 : decode cX6_findMoves 68 = .ok (.iload_n 3, 1) := by decide +kernel
theorem dX6_findMoves_69 : decode cX6_findMoves 69 = .ok (.iconst 1, 1) := by decide +kernel
theorem dX6_findMoves_70 : decode cX6_findMoves 70 = .ok (.invokevirtual 116, 3) := by decide +kernel
theorem dX6_findMoves_73 : decode cX6_findMoves 73 = .ok (.goto 4, 3) := by decide +kernel
theorem dX6_findMoves_76 : decode cX6_findMoves 76 = .ok (.iconst 0, 1) := by decide +kernel
theorem dX6_findMoves_77 : decode cX6_findMoves 77 = .ok (.iastore, 1) := by decide +kernel
theorem dX6_findMoves_78 : decode cX6_findMoves 78 = .ok (.aload_n 0, 1) := by decide +kernel
theorem dX6_findMoves_79 : decode cX6_findMoves 79 = .ok (.getfield 29, 3) := by decide +kernel
theorem dX6_findMoves_82 : decode cX6_findMoves 82 = .ok (.iload_n 3, 1) := by decide +kernel
theorem dX6_findMoves_83 : decode cX6_findMoves 83 = .ok (.iload 4, 2) := by decide +kernel
theorem dX6_findMoves_85 : decode cX6_findMoves 85 = .ok (.iconst (-1), 1) := by decide +kernel
theorem dX6_findMoves_86 : decode cX6_findMoves 86 = .ok (.if_icmp .eq 9, 3) := by decide +kernel
theorem dX6_findMoves_89 : decode cX6_findMoves 89 = .ok (.iload 4, 2) := by decide +kernel
theorem dX6_findMoves_91 : decode cX6_findMoves 91 = .ok (.iconst 2, 1) := by decide +kernel
theorem dX6_findMoves_92 : decode cX6_findMoves 92 = .ok (.if_icmp .ne 15, 3) := by decide +kernel
theorem dX6_findMoves_95 : decode cX6_findMoves 95 = .ok (.aload_n 0, 1) := by decide +kernel
theorem dX6_findMoves_96 : decode cX6_findMoves 96 = .ok (.getfield 45, 3) := by decide +kernel
theorem dX6_findMoves_99 : decode cX6_findMoves 99 = .ok (.iload_n 3, 1) := by decide +kernel
theorem dX6_findMoves_100 : decode cX6_findMoves 100 = .ok (.iconst (-1), 1) := by decide +kernel
theorem dX6_findMoves_101 : decode cX6_findMoves 101 = .ok (.invokevirtual 116, 3) := by decide +kernel
theorem dX6_findMoves_104 : decode cX6_findMoves 104 = .ok (.goto 4, 3) := by decide +kernel
theorem dX6_findMoves_107 : decode cX6_findMoves 107 = .ok (.iconst 0, 1) := by decide +kernel
theorem dX6_findMoves_108 : decode cX6_findMoves 108 = .ok (.iastore, 1) := by decide +kernel
theorem dX6_findMoves_109 : decode cX6_findMoves 109 = .ok (.iinc 3 1, 3) := by decide +kernel
theorem dX6_findMoves_112 : decode cX6_findMoves 112 = .ok (.goto (-110), 3) := by decide +kernel
theorem dX6_findMoves_115 : decode cX6_findMoves 115 = .ok (.return_, 1) := by decide +kernel
theorem dX6_addNext_0 : decode cX6_addNext 0 = .ok (.aload_n 0, 1) := by decide +kernel
theorem dX6_addNext_1 : decode cX6_addNext 1 = .ok (.getfield 42, 3) := by decide +kernel
theorem dX6_addNext_4 : decode cX6_addNext 4 = .ok (.bipush 81, 2) := by decide +kernel
theorem dX6_addNext_6 : decode cX6_addNext 6 = .ok (.if_icmp .ge 23, 3) := by decide +kernel
theorem dX6_addNext_9 : decode cX6_addNext 9 = .ok (.aload_n 0, 1) := by decide +kernel
theorem dX6_addNext_10 : decode cX6_addNext 10 = .ok (.getfield 32, 3) := by decide +kernel
theorem dX6_addNext_13 : decode cX6_addNext 13 = .ok (.aload_n 0, 1) := by decide +kernel
theorem dX6_addNext_14 : decode cX6_addNext 14 = .ok (.getfield 42, 3) := by decide +kernel
theorem dX6_addNext_17 : decode cX6_addNext 17 = .ok (.iload_n 1, 1) := by decide +kernel
theorem dX6_addNext_18 : decode cX6_addNext 18 = .ok (.iastore, 1) := by decide +kernel
theorem dX6_addNext_19 : decode cX6_addNext 19 = .ok (.aload_n 0, 1) := by decide +kernel
theorem dX6_addNext_20 : decode cX6_addNext 20 = .ok (.dup, 1) := by decide +kernel
theorem dX6_addNext_21 : decode cX6_addNext 21 = .ok (.getfield 42, 3) := by decide +kernel
theorem dX6_addNext_24 : decode cX6_addNext 24 = .ok (.iconst 1, 1) := by decide +kernel
theorem dX6_addNext_25 : decode cX6_addNext 25 = .ok (.iadd, 1) := by decide +kernel
theorem dX6_addNext_26 : decode cX6_addNext 26 = .ok (.putfield 42, 3) := by decide +kernel
theorem dX6_addNext_29 : decode cX6_addNext 29 = .ok (.return_, 1) := by decide +kernel
theorem dX6_addMoved_0 : decode cX6_addMoved 0 = .ok (.iload_n 2, 1) := by decide +kernel
theorem dX6_addMoved_1 : decode cX6_addMoved 1 = .ok (.ifCond .eq 10, 3) := by decide +kernel
theorem dX6_addMoved_4 : decode cX6_addMoved 4 = .ok (.aload_n 0, 1) := by decide +kernel
theorem dX6_addMoved_5 : decode cX6_addMoved 5 = .ok (.iload_n 1, 1) := by decide +kernel
theorem dX6_addMoved_6 : decode cX6_addMoved 6 = .ok (.iload_n 2, 1) := by decide +kernel
theorem dX6_addMoved_7 : decode cX6_addMoved 7 = .ok (.iadd, 1) := by decide +kernel
theorem dX6_addMoved_8 : decode cX6_addMoved 8 = .ok (.invokevirtual 119, 3) := by decide +kernel
theorem dX6_addMoved_11 : decode cX6_addMoved 11 = .ok (.iload_n 3, 1) := by decide +kernel
theorem dX6_addMoved_12 : decode cX6_addMoved 12 = .ok (.ifCond .eq 10, 3) := by decide +kernel
theorem dX6_addMoved_15 : decode cX6_addMoved 15 = .ok (.aload_n 0, 1) := by decide +kernel
theorem dX6_addMoved_16 : decode cX6_addMoved 16 = .ok (.iload_n 1, 1) := by decide +kernel
theorem dX6_addMoved_17 : decode cX6_addMoved 17 = .ok (.iload_n 3, 1) := by decide +kernel
theorem dX6_addMoved_18 : decode cX6_addMoved 18 = .ok (.iadd, 1) := by decide +kernel
theorem dX6_addMoved_19 : decode cX6_addMoved 19 = .ok (.invokevirtual 119, 3) := by decide +kernel
theorem dX6_addMoved_22 : decode cX6_addMoved 22 = .ok (.return_, 1) := by decide +kernel
theorem dX6_wakeOne_0 : decode cX6_wakeOne 0 = .ok (.iconst 0, 1) := by decide +kernel
theorem dX6_wakeOne_1 : decode cX6_wakeOne 1 = .ok (.istore_n 2, 1) := by decide +kernel
theorem dX6_wakeOne_2 : decode cX6_wakeOne 2 = .ok (.iload_n 2, 1) := by decide +kernel
theorem dX6_wakeOne_3 : decode cX6_wakeOne 3 = .ok (.aload_n 0, 1) := by decide +kernel
theorem dX6_wakeOne_4 : decode cX6_wakeOne 4 = .ok (.getfield 45, 3) := by decide +kernel
theorem dX6_wakeOne_7 : decode cX6_wakeOne 7 = .ok (.getfield 74, 3) := by decide +kernel
theorem dX6_wakeOne_10 : decode cX6_wakeOne 10 = .ok (.if_icmp .ge 32, 3) := by decide +kernel
theorem dX6_wakeOne_13 : decode cX6_wakeOne 13 = .ok (.iload_n 2, 1) := by decide +kernel
theorem dX6_wakeOne_14 : decode cX6_wakeOne 14 = .ok (.bipush 9, 2) := by decide +kernel
theorem dX6_wakeOne_16 : decode cX6_wakeOne 16 = .ok (.if_icmp .ge 26, 3) := by decide +kernel
theorem dX6_wakeOne_19 : decode cX6_wakeOne 19 = .ok (.aload_n 0, 1) := by decide +kernel
theorem dX6_wakeOne_20 : decode cX6_wakeOne 20 = .ok (.iload_n 1, 1) := by decide +kernel
theorem dX6_wakeOne_21 : decode cX6_wakeOne 21 = .ok (.aload_n 0, 1) := by decide +kernel
theorem dX6_wakeOne_22 : decode cX6_wakeOne 22 = .ok (.getfield 26, 3) := by decide +kernel
theorem dX6_wakeOne_25 : decode cX6_wakeOne 25 = .ok (.iload_n 2, 1) := by decide +kernel
theorem dX6_wakeOne_26 : decode cX6_wakeOne 26 = .ok (.iaload, 1) := by decide +kernel
theorem dX6_wakeOne_27 : decode cX6_wakeOne 27 = .ok (.aload_n 0, 1) := by decide +kernel
theorem dX6_wakeOne_28 : decode cX6_wakeOne 28 = .ok (.getfield 29, 3) := by decide +kernel
theorem dX6_wakeOne_31 : decode cX6_wakeOne 31 = .ok (.iload_n 2, 1) := by decide +kernel
theorem dX6_wakeOne_32 : decode cX6_wakeOne 32 = .ok (.iaload, 1) := by decide +kernel
theorem dX6_wakeOne_33 : decode cX6_wakeOne 33 = .ok (.invokevirtual 122, 3) := by decide +kernel
theorem dX6_wakeOne_36 : decode cX6_wakeOne 36 = .ok (.iinc 2 1, 3) := by decide +kernel
theorem dX6_wakeOne_39 : decode cX6_wakeOne 39 = .ok (.goto (-37), 3) := by decide +kernel
theorem dX6_wakeOne_42 : decode cX6_wakeOne 42 = .ok (.return_, 1) := by decide +kernel
theorem dX6_wakeSome_0 : decode cX6_wakeSome 0 = .ok (.iconst 0, 1) := by decide +kernel
theorem dX6_wakeSome_1 : decode cX6_wakeSome 1 = .ok (.istore_n 3, 1) := by decide +kernel
theorem dX6_wakeSome_2 : decode cX6_wakeSome 2 = .ok (.aload_n 0, 1) := by decide +kernel
theorem dX6_wakeSome_3 : decode cX6_wakeSome 3 = .ok (.iload_n 1, 1) := by decide +kernel
theorem dX6_wakeSome_4 : decode cX6_wakeSome 4 = .ok (.invokevirtual 119, 3) := by decide +kernel
theorem dX6_wakeSome_7 : decode cX6_wakeSome 7 = .ok (.iconst 0, 1) := by decide +kernel
theorem dX6_wakeSome_8 : decode cX6_wakeSome 8 = .ok (.istore 4, 2) := by decide +kernel
theorem dX6_wakeSome_10 : decode cX6_wakeSome 10 = .ok (.iload 4, 2) := by decide +kernel
theorem dX6_wakeSome_12 : decode cX6_wakeSome 12 = .ok (.aload_n 0, 1) := by decide +kernel
theorem dX6_wakeSome_13 : decode cX6_wakeSome 13 = .ok (.getfield 45, 3) := by decide +kernel
theorem dX6_wakeSome_16 : decode cX6_wakeSome 16 = .ok (.getfield 74, 3) := by decide +kernel
theorem dX6_wakeSome_19 : decode cX6_wakeSome 19 = .ok (.if_icmp .ge 101, 3) := by decide +kernel
theorem dX6_wakeSome_22 : decode cX6_wakeSome 22 = .ok (.iload 4, 2) := by decide +kernel
theorem dX6_wakeSome_24 : decode cX6_wakeSome 24 = .ok (.bipush 9, 2) := by decide +kernel
theorem dX6_wakeSome_26 : decode cX6_wakeSome 26 = .ok (.if_icmp .ge 94, 3) := by decide +kernel
theorem dX6_wakeSome_29 : decode cX6_wakeSome 29 = .ok (.aload_n 0, 1) := by decide +kernel
theorem dX6_wakeSome_30 : decode cX6_wakeSome 30 = .ok (.getfield 26, 3) := by decide +kernel
theorem dX6_wakeSome_33 : decode cX6_wakeSome 33 = .ok (.iload 4, 2) := by decide +kernel
theorem dX6_wakeSome_35 : decode cX6_wakeSome 35 = .ok (.iaload, 1) := by decide +kernel
theorem dX6_wakeSome_36 : decode cX6_wakeSome 36 = .ok (.ifCond .ne 13, 3) := by decide +kernel
theorem dX6_wakeSome_39 : decode cX6_wakeSome 39 = .ok (.aload_n 0, 1) := by decide +kernel
theorem dX6_wakeSome_40 : decode cX6_wakeSome 40 = .ok (.getfield 29, 3) := by decide +kernel
theorem dX6_wakeSome_43 : decode cX6_wakeSome 43 = .ok (.iload 4, 2) := by decide +kernel
theorem dX6_wakeSome_45 : decode cX6_wakeSome 45 = .ok (.iaload, 1) := by decide +kernel
theorem dX6_wakeSome_46 : decode cX6_wakeSome 46 = .ok (.ifCond .eq 7, 3) := by decide +kernel
theorem dX6_wakeSome_49 : decode cX6_wakeSome 49 = .ok (.iconst 1, 1) := by decide +kernel
theorem dX6_wakeSome_50 : decode cX6_wakeSome 50 = .ok (.goto 4, 3) := by decide +kernel
theorem dX6_wakeSome_53 : decode cX6_wakeSome 53 = .ok (.iconst 0, 1) := by decide +kernel
theorem dX6_wakeSome_54 : decode cX6_wakeSome 54 = .ok (.istore 5, 2) := by decide +kernel
theorem dX6_wakeSome_56 : decode cX6_wakeSome 56 = .ok (.iload 5, 2) := by decide +kernel
theorem dX6_wakeSome_58 : decode cX6_wakeSome 58 = .ok (.ifCond .eq 16, 3) := by decide +kernel
theorem dX6_wakeSome_61 : decode cX6_wakeSome 61 = .ok (.aload_n 0, 1) := by decide +kernel
theorem dX6_wakeSome_62 : decode cX6_wakeSome 62 = .ok (.getfield 45, 3) := by decide +kernel
theorem dX6_wakeSome_65 : decode cX6_wakeSome 65 = .ok (.iload_n 1, 1) := by decide +kernel
theorem dX6_wakeSome_66 : decode cX6_wakeSome 66 = .ok (.iload 4, 2) := by decide +kernel
theorem dX6_wakeSome_68 : decode cX6_wakeSome 68 = .ok (.invokevirtual 107, 3) := by decide +kernel
theorem dX6_wakeSome_71 : decode cX6_wakeSome 71 = .ok (.goto 4, 3) := by decide +kernel
theorem dX6_wakeSome_74 : decode cX6_wakeSome 74 = .ok (.iconst 0, 1) := by decide +kernel
theorem dX6_wakeSome_75 : decode cX6_wakeSome 75 = .ok (.istore 6, 2) := by decide +kernel
theorem dX6_wakeSome_77 : decode cX6_wakeSome 77 = .ok (.iconst 0, 1) := by decide +kernel
theorem dX6_wakeSome_78 : decode cX6_wakeSome 78 = .ok (.istore 7, 2) := by decide +kernel
theorem dX6_wakeSome_80 : decode cX6_wakeSome 80 = .ok (.iload 7, 2) := by decide +kernel
theorem dX6_wakeSome_82 : decode cX6_wakeSome 82 = .ok (.iload 6, 2) := by decide +kernel
theorem dX6_wakeSome_84 : decode cX6_wakeSome 84 = .ok (.if_icmp .ge 30, 3) := by decide +kernel
theorem dX6_wakeSome_87 : decode cX6_wakeSome 87 = .ok (.iconst 1, 1) := by decide +kernel
theorem dX6_wakeSome_88 : decode cX6_wakeSome 88 = .ok (.istore_n 3, 1) := by decide +kernel
theorem dX6_wakeSome_89 : decode cX6_wakeSome 89 = .ok (.aload_n 0, 1) := by decide +kernel
theorem dX6_wakeSome_90 : decode cX6_wakeSome 90 = .ok (.aload_n 0, 1) := by decide +kernel
theorem dX6_wakeSome_91 : decode cX6_wakeSome 91 = .ok (.getfield 26, 3) := by decide +kernel
theorem dX6_wakeSome_94 : decode cX6_wakeSome 94 = .ok (.iload 4, 2) := by decide +kernel
theorem dX6_wakeSome_96 : decode cX6_wakeSome 96 = .ok (.iaload, 1) := by decide +kernel
theorem dX6_wakeSome_97 : decode cX6_wakeSome 97 = .ok (.aload_n 0, 1) := by decide +kernel
theorem dX6_wakeSome_98 : decode cX6_wakeSome 98 = .ok (.getfield 29, 3) := by decide +kernel
theorem dX6_wakeSome_101 : decode cX6_wakeSome 101 = .ok (.iload 4, 2) := by decide +kernel
theorem dX6_wakeSome_103 : decode cX6_wakeSome 103 = .ok (.iaload, 1) := by decide +kernel
theorem dX6_wakeSome_104 : decode cX6_wakeSome 104 = .ok (.iload_n 2, 1) := by decide +kernel
theorem dX6_wakeSome_105 : decode cX6_wakeSome 105 = .ok (.invokevirtual 125, 3) := by decide +kernel
theorem dX6_wakeSome_108 : decode cX6_wakeSome 108 = .ok (.iinc 7 1, 3) := by decide +kernel
theorem dX6_wakeSome_111 : decode cX6_wakeSome 111 = .ok (.goto (-31), 3) := by decide +kernel
theorem dX6_wakeSome_114 : decode cX6_wakeSome 114 = .ok (.iinc 4 1, 3) := by decide +kernel
theorem dX6_wakeSome_117 : decode cX6_wakeSome 117 = .ok (.goto (-107), 3) := by decide +kernel
theorem dX6_wakeSome_120 : decode cX6_wakeSome 120 = .ok (.iload_n 2, 1) := by decide +kernel
theorem dX6_wakeSome_121 : decode cX6_wakeSome 121 = .ok (.ifCond .eq 7, 3) := by decide +kernel
theorem dX6_wakeSome_124 : decode cX6_wakeSome 124 = .ok (.iload_n 3, 1) := by decide +kernel
theorem dX6_wakeSome_125 : decode cX6_wakeSome 125 = .ok (.ifCond .ne 8, 3) := by decide +kernel
theorem dX6_wakeSome_128 : decode cX6_wakeSome 128 = .ok (.aload_n 0, 1) := by decide +kernel
theorem dX6_wakeSome_129 : decode cX6_wakeSome 129 = .ok (.iconst 1, 1) := by decide +kernel
theorem dX6_wakeSome_130 : decode cX6_wakeSome 130 = .ok (.invokevirtual 129, 3) := by decide +kernel
theorem dX6_wakeSome_133 : decode cX6_wakeSome 133 = .ok (.return_, 1) := by decide +kernel
theorem dX6_wakeAgain_0 : decode cX6_wakeAgain 0 = .ok (.aload_n 0, 1) := by decide +kernel
theorem dX6_wakeAgain_1 : decode cX6_wakeAgain 1 = .ok (.getfield 42, 3) := by decide +kernel
theorem dX6_wakeAgain_4 : decode cX6_wakeAgain 4 = .ok (.istore 4, 2) := by decide +kernel
theorem dX6_wakeAgain_6 : decode cX6_wakeAgain 6 = .ok (.iconst 0, 1) := by decide +kernel
theorem dX6_wakeAgain_7 : decode cX6_wakeAgain 7 = .ok (.istore 5, 2) := by decide +kernel
theorem dX6_wakeAgain_9 : decode cX6_wakeAgain 9 = .ok (.iload 5, 2) := by decide +kernel
theorem dX6_wakeAgain_11 : decode cX6_wakeAgain 11 = .ok (.iload 4, 2) := by decide +kernel
theorem dX6_wakeAgain_13 : decode cX6_wakeAgain 13 = .ok (.if_icmp .ge 29, 3) := by decide +kernel
theorem dX6_wakeAgain_16 : decode cX6_wakeAgain 16 = .ok (.iload 5, 2) := by decide +kernel
theorem dX6_wakeAgain_18 : decode cX6_wakeAgain 18 = .ok (.bipush 81, 2) := by decide +kernel
theorem dX6_wakeAgain_20 : decode cX6_wakeAgain 20 = .ok (.if_icmp .ge 22, 3) := by decide +kernel
theorem dX6_wakeAgain_23 : decode cX6_wakeAgain 23 = .ok (.aload_n 0, 1) := by decide +kernel
theorem dX6_wakeAgain_24 : decode cX6_wakeAgain 24 = .ok (.aload_n 0, 1) := by decide +kernel
theorem dX6_wakeAgain_25 : decode cX6_wakeAgain 25 = .ok (.getfield 32, 3) := by decide +kernel
theorem dX6_wakeAgain_28 : decode cX6_wakeAgain 28 = .ok (.iload 5, 2) := by decide +kernel
theorem dX6_wakeAgain_30 : decode cX6_wakeAgain 30 = .ok (.iaload, 1) := by decide +kernel
theorem dX6_wakeAgain_31 : decode cX6_wakeAgain 31 = .ok (.iload_n 1, 1) := by decide +kernel
theorem dX6_wakeAgain_32 : decode cX6_wakeAgain 32 = .ok (.iload_n 2, 1) := by decide +kernel
theorem dX6_wakeAgain_33 : decode cX6_wakeAgain 33 = .ok (.invokevirtual 122, 3) := by decide +kernel
theorem dX6_wakeAgain_36 : decode cX6_wakeAgain 36 = .ok (.iinc 5 1, 3) := by decide +kernel
theorem dX6_wakeAgain_39 : decode cX6_wakeAgain 39 = .ok (.goto (-30), 3) := by decide +kernel
theorem dX6_wakeAgain_42 : decode cX6_wakeAgain 42 = .ok (.iload_n 3, 1) := by decide +kernel
theorem dX6_wakeAgain_43 : decode cX6_wakeAgain 43 = .ok (.ifCond .eq 9, 3) := by decide +kernel
theorem dX6_wakeAgain_46 : decode cX6_wakeAgain 46 = .ok (.aload_n 0, 1) := by decide +kernel
theorem dX6_wakeAgain_47 : decode cX6_wakeAgain 47 = .ok (.iload 4, 2) := by decide +kernel
theorem dX6_wakeAgain_49 : decode cX6_wakeAgain 49 = .ok (.invokevirtual 129, 3) := by decide +kernel
theorem dX6_wakeAgain_52 : decode cX6_wakeAgain 52 = .ok (.return_, 1) := by decide +kernel
theorem dX6_dropFirst_0 : decode cX6_dropFirst 0 = .ok (.iload_n 1, 1) := by decide +kernel
theorem dX6_dropFirst_1 : decode cX6_dropFirst 1 = .ok (.istore_n 2, 1) := by decide +kernel
theorem dX6_dropFirst_2 : decode cX6_dropFirst 2 = .ok (.iload_n 2, 1) := by decide +kernel
theorem dX6_dropFirst_3 : decode cX6_dropFirst 3 = .ok (.aload_n 0, 1) := by decide +kernel
theorem dX6_dropFirst_4 : decode cX6_dropFirst 4 = .ok (.getfield 42, 3) := by decide +kernel
theorem dX6_dropFirst_7 : decode cX6_dropFirst 7 = .ok (.if_icmp .ge 29, 3) := by decide +kernel
theorem dX6_dropFirst_10 : decode cX6_dropFirst 10 = .ok (.iload_n 2, 1) := by decide +kernel
theorem dX6_dropFirst_11 : decode cX6_dropFirst 11 = .ok (.bipush 81, 2) := by decide +kernel
theorem dX6_dropFirst_13 : decode cX6_dropFirst 13 = .ok (.if_icmp .ge 23, 3) := by decide +kernel
theorem dX6_dropFirst_16 : decode cX6_dropFirst 16 = .ok (.aload_n 0, 1) := by decide +kernel
theorem dX6_dropFirst_17 : decode cX6_dropFirst 17 = .ok (.getfield 32, 3) := by decide +kernel
theorem dX6_dropFirst_20 : decode cX6_dropFirst 20 = .ok (.iload_n 2, 1) := by decide +kernel
theorem dX6_dropFirst_21 : decode cX6_dropFirst 21 = .ok (.iload_n 1, 1) := by decide +kernel
theorem dX6_dropFirst_22 : decode cX6_dropFirst 22 = .ok (.isub, 1) := by decide +kernel
theorem dX6_dropFirst_23 : decode cX6_dropFirst 23 = .ok (.aload_n 0, 1) := by decide +kernel
theorem dX6_dropFirst_24 : decode cX6_dropFirst 24 = .ok (.getfield 32, 3) := by decide +kernel
theorem dX6_dropFirst_27 : decode cX6_dropFirst 27 = .ok (.iload_n 2, 1) := by decide +kernel
theorem dX6_dropFirst_28 : decode cX6_dropFirst 28 = .ok (.iaload, 1) := by decide +kernel
theorem dX6_dropFirst_29 : decode cX6_dropFirst 29 = .ok (.iastore, 1) := by decide +kernel
theorem dX6_dropFirst_30 : decode cX6_dropFirst 30 = .ok (.iinc 2 1, 3) := by decide +kernel
theorem dX6_dropFirst_33 : decode cX6_dropFirst 33 = .ok (.goto (-31), 3) := by decide +kernel
theorem dX6_dropFirst_36 : decode cX6_dropFirst 36 = .ok (.aload_n 0, 1) := by decide +kernel
theorem dX6_dropFirst_37 : decode cX6_dropFirst 37 = .ok (.dup, 1) := by decide +kernel
theorem dX6_dropFirst_38 : decode cX6_dropFirst 38 = .ok (.getfield 42, 3) := by decide +kernel
theorem dX6_dropFirst_41 : decode cX6_dropFirst 41 = .ok (.iload_n 1, 1) := by decide +kernel
theorem dX6_dropFirst_42 : decode cX6_dropFirst 42 = .ok (.isub, 1) := by decide +kernel
theorem dX6_dropFirst_43 : decode cX6_dropFirst 43 = .ok (.putfield 42, 3) := by decide +kernel
theorem dX6_dropFirst_46 : decode cX6_dropFirst 46 = .ok (.return_, 1) := by decide +kernel
theorem dX6_setLinks_0 : decode cX6_setLinks 0 = .ok (.iload_n 1, 1) := by decide +kernel
theorem dX6_setLinks_1 : decode cX6_setLinks 1 = .ok (.bipush 64, 2) := by decide +kernel
theorem dX6_setLinks_3 : decode cX6_setLinks 3 = .ok (.imul, 1) := by decide +kernel
theorem dX6_setLinks_4 : decode cX6_setLinks 4 = .ok (.iload_n 2, 1) := by decide +kernel
theorem dX6_setLinks_5 : decode cX6_setLinks 5 = .ok (.iadd, 1) := by decide +kernel
theorem dX6_setLinks_6 : decode cX6_setLinks 6 = .ok (.istore 5, 2) := by decide +kernel
theorem dX6_setLinks_8 : decode cX6_setLinks 8 = .ok (.iload 5, 2) := by decide +kernel
theorem dX6_setLinks_10 : decode cX6_setLinks 10 = .ok (.sipush 192, 3) := by decide +kernel
theorem dX6_setLinks_13 : decode cX6_setLinks 13 = .ok (.invokestatic 81, 3) := by decide +kernel
theorem dX6_setLinks_16 : decode cX6_setLinks 16 = .ok (.ifCond .ne 11, 3) := by decide +kernel
theorem dX6_setLinks_19 : decode cX6_setLinks 19 = .ok (.aload_n 0, 1) := by decide +kernel
theorem dX6_setLinks_20 : decode cX6_setLinks 20 = .ok (.getfield 19, 3) := by decide +kernel
theorem dX6_setLinks_23 : decode cX6_setLinks 23 = .ok (.iload 5, 2) := by decide +kernel
theorem dX6_setLinks_25 : decode cX6_setLinks 25 = .ok (.lload_n 3, 1) := by decide +kernel
theorem dX6_setLinks_26 : decode cX6_setLinks 26 = .ok (.lastore, 1) := by decide +kernel
theorem dX6_setLinks_27 : decode cX6_setLinks 27 = .ok (.return_, 1) := by decide +kernel
theorem dX6_linksOf_0 : decode cX6_linksOf 0 = .ok (.iload_n 1, 1) := by decide +kernel
theorem dX6_linksOf_1 : decode cX6_linksOf 1 = .ok (.bipush 64, 2) := by decide +kernel
theorem dX6_linksOf_3 : decode cX6_linksOf 3 = .ok (.imul, 1) := by decide +kernel
theorem dX6_linksOf_4 : decode cX6_linksOf 4 = .ok (.iload_n 2, 1) := by decide +kernel
theorem dX6_linksOf_5 : decode cX6_linksOf 5 = .ok (.iadd, 1) := by decide +kernel
theorem dX6_linksOf_6 : decode cX6_linksOf 6 = .ok (.istore_n 3, 1) := by decide +kernel
theorem dX6_linksOf_7 : decode cX6_linksOf 7 = .ok (.iload_n 3, 1) := by decide +kernel
theorem dX6_linksOf_8 : decode cX6_linksOf 8 = .ok (.sipush 192, 3) := by decide +kernel
theorem dX6_linksOf_11 : decode cX6_linksOf 11 = .ok (.invokestatic 81, 3) := by decide +kernel
theorem dX6_linksOf_14 : decode cX6_linksOf 14 = .ok (.ifCond .eq 7, 3) := by decide +kernel
theorem dX6_linksOf_17 : decode cX6_linksOf 17 = .ok (.lconst 0, 1) := by decide +kernel
theorem dX6_linksOf_18 : decode cX6_linksOf 18 = .ok (.goto 9, 3) := by decide +kernel
theorem dX6_linksOf_21 : decode cX6_linksOf 21 = .ok (.aload_n 0, 1) := by decide +kernel
theorem dX6_linksOf_22 : decode cX6_linksOf 22 = .ok (.getfield 19, 3) := by decide +kernel
theorem dX6_linksOf_25 : decode cX6_linksOf 25 = .ok (.iload_n 3, 1) := by decide +kernel
theorem dX6_linksOf_26 : decode cX6_linksOf 26 = .ok (.laload, 1) := by decide +kernel
theorem dX6_linksOf_27 : decode cX6_linksOf 27 = .ok (.lreturn, 1) := by decide +kernel
theorem dX6_ofGoal_0 : decode cX6_ofGoal 0 = .ok (.iload_n 1, 1) := by decide +kernel
theorem dX6_ofGoal_1 : decode cX6_ofGoal 1 = .ok (.iconst 3, 1) := by decide +kernel
theorem dX6_ofGoal_2 : decode cX6_ofGoal 2 = .ok (.invokestatic 81, 3) := by decide +kernel
theorem dX6_ofGoal_5 : decode cX6_ofGoal 5 = .ok (.ifCond .eq 7, 3) := by decide +kernel
theorem dX6_ofGoal_8 : decode cX6_ofGoal 8 = .ok (.lconst 0, 1) := by decide +kernel
theorem dX6_ofGoal_9 : decode cX6_ofGoal 9 = .ok (.goto 9, 3) := by decide +kernel
theorem dX6_ofGoal_12 : decode cX6_ofGoal 12 = .ok (.aload_n 0, 1) := by decide +kernel
theorem dX6_ofGoal_13 : decode cX6_ofGoal 13 = .ok (.getfield 15, 3) := by decide +kernel
theorem dX6_ofGoal_16 : decode cX6_ofGoal 16 = .ok (.iload_n 1, 1) := by decide +kernel
theorem dX6_ofGoal_17 : decode cX6_ofGoal 17 = .ok (.laload, 1) := by decide +kernel
theorem dX6_ofGoal_18 : decode cX6_ofGoal 18 = .ok (.lreturn, 1) := by decide +kernel
theorem dX6_safeByOne_0 : decode cX6_safeByOne 0 = .ok (.lload_n 1, 1) := by decide +kernel
theorem dX6_safeByOne_1 : decode cX6_safeByOne 1 = .ok (.lstore 4, 2) := by decide +kernel
theorem dX6_safeByOne_3 : decode cX6_safeByOne 3 = .ok (.iconst 0, 1) := by decide +kernel
theorem dX6_safeByOne_4 : decode cX6_safeByOne 4 = .ok (.istore 6, 2) := by decide +kernel
theorem dX6_safeByOne_6 : decode cX6_safeByOne 6 = .ok (.iload 6, 2) := by decide +kernel
theorem dX6_safeByOne_8 : decode cX6_safeByOne 8 = .ok (.aload_n 0, 1) := by decide +kernel
theorem dX6_safeByOne_9 : decode cX6_safeByOne 9 = .ok (.getfield 39, 3) := by decide +kernel
theorem dX6_safeByOne_12 : decode cX6_safeByOne 12 = .ok (.if_icmp .ge 47, 3) := by decide +kernel
theorem dX6_safeByOne_15 : decode cX6_safeByOne 15 = .ok (.aload_n 0, 1) := by decide +kernel
theorem dX6_safeByOne_16 : decode cX6_safeByOne 16 = .ok (.iload_n 3, 1) := by decide +kernel
theorem dX6_safeByOne_17 : decode cX6_safeByOne 17 = .ok (.iload 6, 2) := by decide +kernel
theorem dX6_safeByOne_19 : decode cX6_safeByOne 19 = .ok (.invokevirtual 132, 3) := by decide +kernel
theorem dX6_safeByOne_22 : decode cX6_safeByOne 22 = .ok (.lstore 7, 2) := by decide +kernel
theorem dX6_safeByOne_24 : decode cX6_safeByOne 24 = .ok (.lload 7, 2) := by decide +kernel
theorem dX6_safeByOne_26 : decode cX6_safeByOne 26 = .ok (.lconst 0, 1) := by decide +kernel
theorem dX6_safeByOne_27 : decode cX6_safeByOne 27 = .ok (.lcmp, 1) := by decide +kernel
theorem dX6_safeByOne_28 : decode cX6_safeByOne 28 = .ok (.ifCond .eq 25, 3) := by decide +kernel
theorem dX6_safeByOne_31 : decode cX6_safeByOne 31 = .ok (.lload 7, 2) := by decide +kernel
theorem dX6_safeByOne_33 : decode cX6_safeByOne 33 = .ok (.lload_n 1, 1) := by decide +kernel
theorem dX6_safeByOne_34 : decode cX6_safeByOne 34 = .ok (.ldc2_w 136, 3) := by decide +kernel
theorem dX6_safeByOne_37 : decode cX6_safeByOne 37 = .ok (.lxor, 1) := by decide +kernel
theorem dX6_safeByOne_38 : decode cX6_safeByOne 38 = .ok (.land, 1) := by decide +kernel
theorem dX6_safeByOne_39 : decode cX6_safeByOne 39 = .ok (.lconst 0, 1) := by decide +kernel
theorem dX6_safeByOne_40 : decode cX6_safeByOne 40 = .ok (.lcmp, 1) := by decide +kernel
theorem dX6_safeByOne_41 : decode cX6_safeByOne 41 = .ok (.ifCond .ne 12, 3) := by decide +kernel
theorem dX6_safeByOne_44 : decode cX6_safeByOne 44 = .ok (.lload 4, 2) := by decide +kernel
theorem dX6_safeByOne_46 : decode cX6_safeByOne 46 = .ok (.lconst 1, 1) := by decide +kernel
theorem dX6_safeByOne_47 : decode cX6_safeByOne 47 = .ok (.iload 6, 2) := by decide +kernel
theorem dX6_safeByOne_49 : decode cX6_safeByOne 49 = .ok (.lshl, 1) := by decide +kernel
theorem dX6_safeByOne_50 : decode cX6_safeByOne 50 = .ok (.lor, 1) := by decide +kernel
theorem dX6_safeByOne_51 : decode cX6_safeByOne 51 = .ok (.lstore 4, 2) := by decide +kernel
theorem dX6_safeByOne_53 : decode cX6_safeByOne 53 = .ok (.iinc 6 1, 3) := by decide +kernel
theorem dX6_safeByOne_56 : decode cX6_safeByOne 56 = .ok (.goto (-50), 3) := by decide +kernel
theorem dX6_safeByOne_59 : decode cX6_safeByOne 59 = .ok (.lload 4, 2) := by decide +kernel
theorem dX6_safeByOne_61 : decode cX6_safeByOne 61 = .ok (.lreturn, 1) := by decide +kernel
theorem dX6_working_0 : decode cX6_working 0 = .ok (.aload_n 0, 1) := by decide +kernel
theorem dX6_working_1 : decode cX6_working 1 = .ok (.iload_n 2, 1) := by decide +kernel
theorem dX6_working_2 : decode cX6_working 2 = .ok (.invokevirtual 138, 3) := by decide +kernel
theorem dX6_working_5 : decode cX6_working 5 = .ok (.lstore_n 3, 1) := by decide +kernel
theorem dX6_working_6 : decode cX6_working 6 = .ok (.iconst 0, 1) := by decide +kernel
theorem dX6_working_7 : decode cX6_working 7 = .ok (.istore 5, 2) := by decide +kernel
theorem dX6_working_9 : decode cX6_working 9 = .ok (.iload 5, 2) := by decide +kernel
theorem dX6_working_11 : decode cX6_working 11 = .ok (.aload_n 0, 1) := by decide +kernel
theorem dX6_working_12 : decode cX6_working 12 = .ok (.getfield 39, 3) := by decide +kernel
theorem dX6_working_15 : decode cX6_working 15 = .ok (.if_icmp .ge 30, 3) := by decide +kernel
theorem dX6_working_18 : decode cX6_working 18 = .ok (.lload_n 3, 1) := by decide +kernel
theorem dX6_working_19 : decode cX6_working 19 = .ok (.lstore 6, 2) := by decide +kernel
theorem dX6_working_21 : decode cX6_working 21 = .ok (.aload_n 0, 1) := by decide +kernel
theorem dX6_working_22 : decode cX6_working 22 = .ok (.lload 6, 2) := by decide +kernel
theorem dX6_working_24 : decode cX6_working 24 = .ok (.iload_n 1, 1) := by decide +kernel
theorem dX6_working_25 : decode cX6_working 25 = .ok (.invokevirtual 142, 3) := by decide +kernel
theorem dX6_working_28 : decode cX6_working 28 = .ok (.lstore_n 3, 1) := by decide +kernel
theorem dX6_working_29 : decode cX6_working 29 = .ok (.lload_n 3, 1) := by decide +kernel
theorem dX6_working_30 : decode cX6_working 30 = .ok (.lload 6, 2) := by decide +kernel
theorem dX6_working_32 : decode cX6_working 32 = .ok (.lcmp, 1) := by decide +kernel
theorem dX6_working_33 : decode cX6_working 33 = .ok (.ifCond .ne 6, 3) := by decide +kernel
theorem dX6_working_36 : decode cX6_working 36 = .ok (.goto 9, 3) := by decide +kernel
theorem dX6_working_39 : decode cX6_working 39 = .ok (.iinc 5 1, 3) := by decide +kernel
theorem dX6_working_42 : decode cX6_working 42 = .ok (.goto (-33), 3) := by decide +kernel
theorem dX6_working_45 : decode cX6_working 45 = .ok (.lload_n 3, 1) := by decide +kernel
theorem dX6_working_46 : decode cX6_working 46 = .ok (.lreturn, 1) := by decide +kernel
theorem dX6_mostSteps_0 : decode cX6_mostSteps 0 = .ok (.aload_n 0, 1) := by decide +kernel
theorem dX6_mostSteps_1 : decode cX6_mostSteps 1 = .ok (.iload_n 3, 1) := by decide +kernel
theorem dX6_mostSteps_2 : decode cX6_mostSteps 2 = .ok (.invokevirtual 138, 3) := by decide +kernel
theorem dX6_mostSteps_5 : decode cX6_mostSteps 5 = .ok (.lstore 4, 2) := by decide +kernel
theorem dX6_mostSteps_7 : decode cX6_mostSteps 7 = .ok (.iconst 0, 1) := by decide +kernel
theorem dX6_mostSteps_8 : decode cX6_mostSteps 8 = .ok (.istore 6, 2) := by decide +kernel
theorem dX6_mostSteps_10 : decode cX6_mostSteps 10 = .ok (.iload 6, 2) := by decide +kernel
theorem dX6_mostSteps_12 : decode cX6_mostSteps 12 = .ok (.aload_n 0, 1) := by decide +kernel
theorem dX6_mostSteps_13 : decode cX6_mostSteps 13 = .ok (.getfield 39, 3) := by decide +kernel
theorem dX6_mostSteps_16 : decode cX6_mostSteps 16 = .ok (.if_icmp .ge 32, 3) := by decide +kernel
theorem dX6_mostSteps_19 : decode cX6_mostSteps 19 = .ok (.lload 4, 2) := by decide +kernel
theorem dX6_mostSteps_21 : decode cX6_mostSteps 21 = .ok (.lconst 1, 1) := by decide +kernel
theorem dX6_mostSteps_22 : decode cX6_mostSteps 22 = .ok (.iload_n 1, 1) := by decide +kernel
theorem dX6_mostSteps_23 : decode cX6_mostSteps 23 = .ok (.lshl, 1) := by decide +kernel
theorem dX6_mostSteps_24 : decode cX6_mostSteps 24 = .ok (.land, 1) := by decide +kernel
theorem dX6_mostSteps_25 : decode cX6_mostSteps 25 = .ok (.lconst 0, 1) := by decide +kernel
theorem dX6_mostSteps_26 : decode cX6_mostSteps 26 = .ok (.lcmp, 1) := by decide +kernel
theorem dX6_mostSteps_27 : decode cX6_mostSteps 27 = .ok (.ifCond .eq 6, 3) := by decide +kernel
theorem dX6_mostSteps_30 : decode cX6_mostSteps 30 = .ok (.iload 6, 2) := by decide +kernel
theorem dX6_mostSteps_32 : decode cX6_mostSteps 32 = .ok (.ireturn, 1) := by decide +kernel
theorem dX6_mostSteps_33 : decode cX6_mostSteps 33 = .ok (.aload_n 0, 1) := by decide +kernel
theorem dX6_mostSteps_34 : decode cX6_mostSteps 34 = .ok (.lload 4, 2) := by decide +kernel
theorem dX6_mostSteps_36 : decode cX6_mostSteps 36 = .ok (.iload_n 2, 1) := by decide +kernel
theorem dX6_mostSteps_37 : decode cX6_mostSteps 37 = .ok (.invokevirtual 142, 3) := by decide +kernel
theorem dX6_mostSteps_40 : decode cX6_mostSteps 40 = .ok (.lstore 4, 2) := by decide +kernel
theorem dX6_mostSteps_42 : decode cX6_mostSteps 42 = .ok (.iinc 6 1, 3) := by decide +kernel
theorem dX6_mostSteps_45 : decode cX6_mostSteps 45 = .ok (.goto (-35), 3) := by decide +kernel
theorem dX6_mostSteps_48 : decode cX6_mostSteps 48 = .ok (.ldc 146, 2) := by decide +kernel
theorem dX6_mostSteps_50 : decode cX6_mostSteps 50 = .ok (.ireturn, 1) := by decide +kernel
theorem dX6_reachedFrom_0 : decode cX6_reachedFrom 0 = .ok (.lconst 1, 1) := by decide +kernel
theorem dX6_reachedFrom_1 : decode cX6_reachedFrom 1 = .ok (.iload_n 1, 1) := by decide +kernel
theorem dX6_reachedFrom_2 : decode cX6_reachedFrom 2 = .ok (.lshl, 1) := by decide +kernel
theorem dX6_reachedFrom_3 : decode cX6_reachedFrom 3 = .ok (.lstore 4, 2) := by decide +kernel
theorem dX6_reachedFrom_5 : decode cX6_reachedFrom 5 = .ok (.iconst 0, 1) := by decide +kernel
theorem dX6_reachedFrom_6 : decode cX6_reachedFrom 6 = .ok (.istore 6, 2) := by decide +kernel
theorem dX6_reachedFrom_8 : decode cX6_reachedFrom 8 = .ok (.iload 6, 2) := by decide +kernel
theorem dX6_reachedFrom_10 : decode cX6_reachedFrom 10 = .ok (.aload_n 0, 1) := by decide +kernel
theorem dX6_reachedFrom_11 : decode cX6_reachedFrom 11 = .ok (.getfield 39, 3) := by decide +kernel
theorem dX6_reachedFrom_14 : decode cX6_reachedFrom 14 = .ok (.if_icmp .ge 76, 3) := by decide +kernel
theorem dX6_reachedFrom_17 : decode cX6_reachedFrom 17 = .ok (.lload 4, 2) := by decide +kernel
theorem dX6_reachedFrom_19 : decode cX6_reachedFrom 19 = .ok (.lstore 7, 2) := by decide +kernel
theorem dX6_reachedFrom_21 : decode cX6_reachedFrom 21 = .ok (.iconst 0, 1) := by decide +kernel
end
section
theorem dX6_reachedFrom_22 : decode cX6_reachedFrom 22 = .ok (.istore 9, 2) := by decide +kernel
theorem dX6_reachedFrom_24 : decode cX6_reachedFrom 24 = .ok (.iload 9, 2) := by decide +kernel
theorem dX6_reachedFrom_26 : decode cX6_reachedFrom 26 = .ok (.aload_n 0, 1) := by decide +kernel
theorem dX6_reachedFrom_27 : decode cX6_reachedFrom 27 = .ok (.getfield 39, 3) := by decide +kernel
theorem dX6_reachedFrom_30 : decode cX6_reachedFrom 30 = .ok (.if_icmp .ge 43, 3) := by decide +kernel
theorem dX6_reachedFrom_33 : decode cX6_reachedFrom 33 = .ok (.lload 7, 2) := by decide +kernel
theorem dX6_reachedFrom_35 : decode cX6_reachedFrom 35 = .ok (.aload_n 0, 1) := by decide +kernel
theorem dX6_reachedFrom_36 : decode cX6_reachedFrom 36 = .ok (.iload_n 3, 1) := by decide +kernel
theorem dX6_reachedFrom_37 : decode cX6_reachedFrom 37 = .ok (.invokevirtual 138, 3) := by decide +kernel
theorem dX6_reachedFrom_40 : decode cX6_reachedFrom 40 = .ok (.ldc2_w 136, 3) := by decide +kernel
theorem dX6_reachedFrom_43 : decode cX6_reachedFrom 43 = .ok (.lxor, 1) := by decide +kernel
theorem dX6_reachedFrom_44 : decode cX6_reachedFrom 44 = .ok (.land, 1) := by decide +kernel
theorem dX6_reachedFrom_45 : decode cX6_reachedFrom 45 = .ok (.lconst 1, 1) := by decide +kernel
theorem dX6_reachedFrom_46 : decode cX6_reachedFrom 46 = .ok (.iload 9, 2) := by decide +kernel
theorem dX6_reachedFrom_48 : decode cX6_reachedFrom 48 = .ok (.lshl, 1) := by decide +kernel
theorem dX6_reachedFrom_49 : decode cX6_reachedFrom 49 = .ok (.land, 1) := by decide +kernel
theorem dX6_reachedFrom_50 : decode cX6_reachedFrom 50 = .ok (.lconst 0, 1) := by decide +kernel
theorem dX6_reachedFrom_51 : decode cX6_reachedFrom 51 = .ok (.lcmp, 1) := by decide +kernel
theorem dX6_reachedFrom_52 : decode cX6_reachedFrom 52 = .ok (.ifCond .eq 15, 3) := by decide +kernel
theorem dX6_reachedFrom_55 : decode cX6_reachedFrom 55 = .ok (.lload 4, 2) := by decide +kernel
theorem dX6_reachedFrom_57 : decode cX6_reachedFrom 57 = .ok (.aload_n 0, 1) := by decide +kernel
theorem dX6_reachedFrom_58 : decode cX6_reachedFrom 58 = .ok (.iload_n 2, 1) := by decide +kernel
theorem dX6_reachedFrom_59 : decode cX6_reachedFrom 59 = .ok (.iload 9, 2) := by decide +kernel
theorem dX6_reachedFrom_61 : decode cX6_reachedFrom 61 = .ok (.invokevirtual 132, 3) := by decide +kernel
theorem dX6_reachedFrom_64 : decode cX6_reachedFrom 64 = .ok (.lor, 1) := by decide +kernel
theorem dX6_reachedFrom_65 : decode cX6_reachedFrom 65 = .ok (.lstore 4, 2) := by decide +kernel
theorem dX6_reachedFrom_67 : decode cX6_reachedFrom 67 = .ok (.iinc 9 1, 3) := by decide +kernel
theorem dX6_reachedFrom_70 : decode cX6_reachedFrom 70 = .ok (.goto (-46), 3) := by decide +kernel
theorem dX6_reachedFrom_73 : decode cX6_reachedFrom 73 = .ok (.lload 4, 2) := by decide +kernel
theorem dX6_reachedFrom_75 : decode cX6_reachedFrom 75 = .ok (.lload 7, 2) := by decide +kernel
theorem dX6_reachedFrom_77 : decode cX6_reachedFrom 77 = .ok (.lcmp, 1) := by decide +kernel
theorem dX6_reachedFrom_78 : decode cX6_reachedFrom 78 = .ok (.ifCond .ne 6, 3) := by decide +kernel
theorem dX6_reachedFrom_81 : decode cX6_reachedFrom 81 = .ok (.goto 9, 3) := by decide +kernel
theorem dX6_reachedFrom_84 : decode cX6_reachedFrom 84 = .ok (.iinc 6 1, 3) := by decide +kernel
theorem dX6_reachedFrom_87 : decode cX6_reachedFrom 87 = .ok (.goto (-79), 3) := by decide +kernel
theorem dX6_reachedFrom_90 : decode cX6_reachedFrom 90 = .ok (.lload 4, 2) := by decide +kernel
theorem dX6_reachedFrom_92 : decode cX6_reachedFrom 92 = .ok (.lreturn, 1) := by decide +kernel
theorem dX6_countReached_0 : decode cX6_countReached 0 = .ok (.iload 5, 2) := by decide +kernel
theorem dX6_countReached_2 : decode cX6_countReached 2 = .ok (.iconst 1, 1) := by decide +kernel
theorem dX6_countReached_3 : decode cX6_countReached 3 = .ok (.if_icmp .ne 8, 3) := by decide +kernel
theorem dX6_countReached_6 : decode cX6_countReached 6 = .ok (.lload_n 1, 1) := by decide +kernel
theorem dX6_countReached_7 : decode cX6_countReached 7 = .ok (.invokestatic 147, 3) := by decide +kernel
theorem dX6_countReached_10 : decode cX6_countReached 10 = .ok (.ireturn, 1) := by decide +kernel
theorem dX6_countReached_11 : decode cX6_countReached 11 = .ok (.iload 5, 2) := by decide +kernel
theorem dX6_countReached_13 : decode cX6_countReached 13 = .ok (.iconst 2, 1) := by decide +kernel
theorem dX6_countReached_14 : decode cX6_countReached 14 = .ok (.if_icmp .ne 15, 3) := by decide +kernel
theorem dX6_countReached_17 : decode cX6_countReached 17 = .ok (.lload_n 1, 1) := by decide +kernel
theorem dX6_countReached_18 : decode cX6_countReached 18 = .ok (.aload_n 0, 1) := by decide +kernel
theorem dX6_countReached_19 : decode cX6_countReached 19 = .ok (.iload 4, 2) := by decide +kernel
theorem dX6_countReached_21 : decode cX6_countReached 21 = .ok (.invokevirtual 138, 3) := by decide +kernel
theorem dX6_countReached_24 : decode cX6_countReached 24 = .ok (.land, 1) := by decide +kernel
theorem dX6_countReached_25 : decode cX6_countReached 25 = .ok (.invokestatic 147, 3) := by decide +kernel
theorem dX6_countReached_28 : decode cX6_countReached 28 = .ok (.ireturn, 1) := by decide +kernel
theorem dX6_countReached_29 : decode cX6_countReached 29 = .ok (.iconst 0, 1) := by decide +kernel
theorem dX6_countReached_30 : decode cX6_countReached 30 = .ok (.istore 6, 2) := by decide +kernel
theorem dX6_countReached_32 : decode cX6_countReached 32 = .ok (.iconst 0, 1) := by decide +kernel
theorem dX6_countReached_33 : decode cX6_countReached 33 = .ok (.istore 7, 2) := by decide +kernel
theorem dX6_countReached_35 : decode cX6_countReached 35 = .ok (.iload 7, 2) := by decide +kernel
theorem dX6_countReached_37 : decode cX6_countReached 37 = .ok (.aload_n 0, 1) := by decide +kernel
theorem dX6_countReached_38 : decode cX6_countReached 38 = .ok (.getfield 39, 3) := by decide +kernel
theorem dX6_countReached_41 : decode cX6_countReached 41 = .ok (.if_icmp .ge 46, 3) := by decide +kernel
theorem dX6_countReached_44 : decode cX6_countReached 44 = .ok (.lload_n 1, 1) := by decide +kernel
theorem dX6_countReached_45 : decode cX6_countReached 45 = .ok (.aload_n 0, 1) := by decide +kernel
theorem dX6_countReached_46 : decode cX6_countReached 46 = .ok (.iload 4, 2) := by decide +kernel
theorem dX6_countReached_48 : decode cX6_countReached 48 = .ok (.invokevirtual 138, 3) := by decide +kernel
theorem dX6_countReached_51 : decode cX6_countReached 51 = .ok (.ldc2_w 136, 3) := by decide +kernel
theorem dX6_countReached_54 : decode cX6_countReached 54 = .ok (.lxor, 1) := by decide +kernel
theorem dX6_countReached_55 : decode cX6_countReached 55 = .ok (.land, 1) := by decide +kernel
theorem dX6_countReached_56 : decode cX6_countReached 56 = .ok (.lconst 1, 1) := by decide +kernel
theorem dX6_countReached_57 : decode cX6_countReached 57 = .ok (.iload 7, 2) := by decide +kernel
theorem dX6_countReached_59 : decode cX6_countReached 59 = .ok (.lshl, 1) := by decide +kernel
theorem dX6_countReached_60 : decode cX6_countReached 60 = .ok (.land, 1) := by decide +kernel
theorem dX6_countReached_61 : decode cX6_countReached 61 = .ok (.lconst 0, 1) := by decide +kernel
theorem dX6_countReached_62 : decode cX6_countReached 62 = .ok (.lcmp, 1) := by decide +kernel
theorem dX6_countReached_63 : decode cX6_countReached 63 = .ok (.ifCond .eq 18, 3) := by decide +kernel
theorem dX6_countReached_66 : decode cX6_countReached 66 = .ok (.aload_n 0, 1) := by decide +kernel
theorem dX6_countReached_67 : decode cX6_countReached 67 = .ok (.iload_n 3, 1) := by decide +kernel
theorem dX6_countReached_68 : decode cX6_countReached 68 = .ok (.iload 7, 2) := by decide +kernel
theorem dX6_countReached_70 : decode cX6_countReached 70 = .ok (.invokevirtual 132, 3) := by decide +kernel
theorem dX6_countReached_73 : decode cX6_countReached 73 = .ok (.lconst 0, 1) := by decide +kernel
theorem dX6_countReached_74 : decode cX6_countReached 74 = .ok (.lcmp, 1) := by decide +kernel
theorem dX6_countReached_75 : decode cX6_countReached 75 = .ok (.ifCond .ne 6, 3) := by decide +kernel
theorem dX6_countReached_78 : decode cX6_countReached 78 = .ok (.iinc 6 1, 3) := by decide +kernel
theorem dX6_countReached_81 : decode cX6_countReached 81 = .ok (.iinc 7 1, 3) := by decide +kernel
theorem dX6_countReached_84 : decode cX6_countReached 84 = .ok (.goto (-49), 3) := by decide +kernel
theorem dX6_countReached_87 : decode cX6_countReached 87 = .ok (.iload 6, 2) := by decide +kernel
theorem dX6_countReached_89 : decode cX6_countReached 89 = .ok (.ireturn, 1) := by decide +kernel
theorem dX7_init_0 : decode cX7_init 0 = .ok (.aload_n 0, 1) := by decide +kernel
theorem dX7_init_1 : decode cX7_init 1 = .ok (.invokespecial 1, 3) := by decide +kernel
theorem dX7_init_4 : decode cX7_init 4 = .ok (.aload_n 0, 1) := by decide +kernel
theorem dX7_init_5 : decode cX7_init 5 = .ok (.new 7, 3) := by decide +kernel
theorem dX7_init_8 : decode cX7_init 8 = .ok (.dup, 1) := by decide +kernel
theorem dX7_init_9 : decode cX7_init 9 = .ok (.iconst 3, 1) := by decide +kernel
theorem dX7_init_10 : decode cX7_init 10 = .ok (.bipush 9, 2) := by decide +kernel
theorem dX7_init_12 : decode cX7_init 12 = .ok (.iload_n 1, 1) := by decide +kernel
theorem dX7_init_13 : decode cX7_init 13 = .ok (.invokestatic 11, 3) := by decide +kernel
theorem dX7_init_16 : decode cX7_init 16 = .ok (.invokestatic 17, 3) := by decide +kernel
theorem dX7_init_19 : decode cX7_init 19 = .ok (.invokespecial 20, 3) := by decide +kernel
theorem dX7_init_22 : decode cX7_init 22 = .ok (.putfield 23, 3) := by decide +kernel
theorem dX7_init_25 : decode cX7_init 25 = .ok (.aload_n 0, 1) := by decide +kernel
theorem dX7_init_26 : decode cX7_init 26 = .ok (.new 27, 3) := by decide +kernel
theorem dX7_init_29 : decode cX7_init 29 = .ok (.dup, 1) := by decide +kernel
theorem dX7_init_30 : decode cX7_init 30 = .ok (.aload_n 0, 1) := by decide +kernel
theorem dX7_init_31 : decode cX7_init 31 = .ok (.getfield 23, 3) := by decide +kernel
theorem dX7_init_34 : decode cX7_init 34 = .ok (.invokespecial 29, 3) := by decide +kernel
theorem dX7_init_37 : decode cX7_init 37 = .ok (.putfield 32, 3) := by decide +kernel
theorem dX7_init_40 : decode cX7_init 40 = .ok (.aload_n 0, 1) := by decide +kernel
theorem dX7_init_41 : decode cX7_init 41 = .ok (.new 36, 3) := by decide +kernel
theorem dX7_init_44 : decode cX7_init 44 = .ok (.dup, 1) := by decide +kernel
theorem dX7_init_45 : decode cX7_init 45 = .ok (.aload_n 0, 1) := by decide +kernel
theorem dX7_init_46 : decode cX7_init 46 = .ok (.getfield 23, 3) := by decide +kernel
theorem dX7_init_49 : decode cX7_init 49 = .ok (.invokespecial 38, 3) := by decide +kernel
theorem dX7_init_52 : decode cX7_init 52 = .ok (.putfield 39, 3) := by decide +kernel
theorem dX7_init_55 : decode cX7_init 55 = .ok (.aload_n 0, 1) := by decide +kernel
theorem dX7_init_56 : decode cX7_init 56 = .ok (.new 43, 3) := by decide +kernel
theorem dX7_init_59 : decode cX7_init 59 = .ok (.dup, 1) := by decide +kernel
theorem dX7_init_60 : decode cX7_init 60 = .ok (.invokespecial 45, 3) := by decide +kernel
theorem dX7_init_63 : decode cX7_init 63 = .ok (.putfield 46, 3) := by decide +kernel
theorem dX7_init_66 : decode cX7_init 66 = .ok (.aload_n 0, 1) := by decide +kernel
theorem dX7_init_67 : decode cX7_init 67 = .ok (.new 50, 3) := by decide +kernel
theorem dX7_init_70 : decode cX7_init 70 = .ok (.dup, 1) := by decide +kernel
theorem dX7_init_71 : decode cX7_init 71 = .ok (.aload_n 0, 1) := by decide +kernel
theorem dX7_init_72 : decode cX7_init 72 = .ok (.getfield 46, 3) := by decide +kernel
theorem dX7_init_75 : decode cX7_init 75 = .ok (.invokespecial 52, 3) := by decide +kernel
theorem dX7_init_78 : decode cX7_init 78 = .ok (.putfield 55, 3) := by decide +kernel
theorem dX7_init_81 : decode cX7_init 81 = .ok (.aload_n 0, 1) := by decide +kernel
theorem dX7_init_82 : decode cX7_init 82 = .ok (.new 59, 3) := by decide +kernel
theorem dX7_init_85 : decode cX7_init 85 = .ok (.dup, 1) := by decide +kernel
theorem dX7_init_86 : decode cX7_init 86 = .ok (.invokespecial 61, 3) := by decide +kernel
theorem dX7_init_89 : decode cX7_init 89 = .ok (.putfield 62, 3) := by decide +kernel
theorem dX7_init_92 : decode cX7_init 92 = .ok (.aload_n 0, 1) := by decide +kernel
theorem dX7_init_93 : decode cX7_init 93 = .ok (.new 59, 3) := by decide +kernel
theorem dX7_init_96 : decode cX7_init 96 = .ok (.dup, 1) := by decide +kernel
theorem dX7_init_97 : decode cX7_init 97 = .ok (.invokespecial 61, 3) := by decide +kernel
theorem dX7_init_100 : decode cX7_init 100 = .ok (.putfield 66, 3) := by decide +kernel
theorem dX7_init_103 : decode cX7_init 103 = .ok (.aload_n 0, 1) := by decide +kernel
theorem dX7_init_104 : decode cX7_init 104 = .ok (.iconst 0, 1) := by decide +kernel
theorem dX7_init_105 : decode cX7_init 105 = .ok (.putfield 69, 3) := by decide +kernel
theorem dX7_init_108 : decode cX7_init 108 = .ok (.aload_n 0, 1) := by decide +kernel
theorem dX7_init_109 : decode cX7_init 109 = .ok (.iconst 0, 1) := by decide +kernel
theorem dX7_init_110 : decode cX7_init 110 = .ok (.putfield 73, 3) := by decide +kernel
theorem dX7_init_113 : decode cX7_init 113 = .ok (.return_, 1) := by decide +kernel
theorem dX7_robot_0 : decode cX7_robot 0 = .ok (.aload_n 0, 1) := by decide +kernel
theorem dX7_robot_1 : decode cX7_robot 1 = .ok (.iload_n 1, 1) := by decide +kernel
theorem dX7_robot_2 : decode cX7_robot 2 = .ok (.invokevirtual 76, 3) := by decide +kernel
theorem dX7_robot_5 : decode cX7_robot 5 = .ok (.ifCond .eq 6, 3) := by decide +kernel
theorem dX7_robot_8 : decode cX7_robot 8 = .ok (.ldc 80, 2) := by decide +kernel
theorem dX7_robot_10 : decode cX7_robot 10 = .ok (.ireturn, 1) := by decide +kernel
theorem dX7_robot_11 : decode cX7_robot 11 = .ok (.aload_n 0, 1) := by decide +kernel
theorem dX7_robot_12 : decode cX7_robot 12 = .ok (.getfield 23, 3) := by decide +kernel
theorem dX7_robot_15 : decode cX7_robot 15 = .ok (.aload_n 0, 1) := by decide +kernel
theorem dX7_robot_16 : decode cX7_robot 16 = .ok (.getfield 69, 3) := by decide +kernel
theorem dX7_robot_19 : decode cX7_robot 19 = .ok (.invokevirtual 81, 3) := by decide +kernel
theorem dX7_robot_22 : decode cX7_robot 22 = .ok (.istore_n 2, 1) := by decide +kernel
theorem dX7_robot_23 : decode cX7_robot 23 = .ok (.iload_n 2, 1) := by decide +kernel
theorem dX7_robot_24 : decode cX7_robot 24 = .ok (.iconst 4, 1) := by decide +kernel
theorem dX7_robot_25 : decode cX7_robot 25 = .ok (.if_icmp .lt 6, 3) := by decide +kernel
theorem dX7_robot_28 : decode cX7_robot 28 = .ok (.ldc 85, 2) := by decide +kernel
theorem dX7_robot_30 : decode cX7_robot 30 = .ok (.ireturn, 1) := by decide +kernel
theorem dX7_robot_31 : decode cX7_robot 31 = .ok (.aload_n 0, 1) := by decide +kernel
theorem dX7_robot_32 : decode cX7_robot 32 = .ok (.dup, 1) := by decide +kernel
theorem dX7_robot_33 : decode cX7_robot 33 = .ok (.getfield 69, 3) := by decide +kernel
theorem dX7_robot_36 : decode cX7_robot 36 = .ok (.aload_n 0, 1) := by decide +kernel
theorem dX7_robot_37 : decode cX7_robot 37 = .ok (.getfield 23, 3) := by decide +kernel
theorem dX7_robot_40 : decode cX7_robot 40 = .ok (.iload_n 1, 1) := by decide +kernel
theorem dX7_robot_41 : decode cX7_robot 41 = .ok (.invokevirtual 86, 3) := by decide +kernel
theorem dX7_robot_44 : decode cX7_robot 44 = .ok (.iadd, 1) := by decide +kernel
theorem dX7_robot_45 : decode cX7_robot 45 = .ok (.putfield 69, 3) := by decide +kernel
theorem dX7_robot_48 : decode cX7_robot 48 = .ok (.iload_n 2, 1) := by decide +kernel
theorem dX7_robot_49 : decode cX7_robot 49 = .ok (.iconst 1, 1) := by decide +kernel
theorem dX7_robot_50 : decode cX7_robot 50 = .ok (.iadd, 1) := by decide +kernel
theorem dX7_robot_51 : decode cX7_robot 51 = .ok (.ireturn, 1) := by decide +kernel
theorem dX7_wipe_0 : decode cX7_wipe 0 = .ok (.aload_n 0, 1) := by decide +kernel
theorem dX7_wipe_1 : decode cX7_wipe 1 = .ok (.getfield 23, 3) := by decide +kernel
theorem dX7_wipe_4 : decode cX7_wipe 4 = .ok (.aload_n 0, 1) := by decide +kernel
theorem dX7_wipe_5 : decode cX7_wipe 5 = .ok (.getfield 69, 3) := by decide +kernel
theorem dX7_wipe_8 : decode cX7_wipe 8 = .ok (.invokevirtual 81, 3) := by decide +kernel
theorem dX7_wipe_11 : decode cX7_wipe 11 = .ok (.istore_n 1, 1) := by decide +kernel
theorem dX7_wipe_12 : decode cX7_wipe 12 = .ok (.aload_n 0, 1) := by decide +kernel
theorem dX7_wipe_13 : decode cX7_wipe 13 = .ok (.iconst 0, 1) := by decide +kernel
theorem dX7_wipe_14 : decode cX7_wipe 14 = .ok (.putfield 69, 3) := by decide +kernel
theorem dX7_wipe_17 : decode cX7_wipe 17 = .ok (.iload_n 1, 1) := by decide +kernel
theorem dX7_wipe_18 : decode cX7_wipe 18 = .ok (.ireturn, 1) := by decide +kernel
theorem dX7_at_0 : decode cX7_at 0 = .ok (.aload_n 0, 1) := by decide +kernel
theorem dX7_at_1 : decode cX7_at 1 = .ok (.iload_n 1, 1) := by decide +kernel
theorem dX7_at_2 : decode cX7_at 2 = .ok (.invokevirtual 76, 3) := by decide +kernel
theorem dX7_at_5 : decode cX7_at 5 = .ok (.ifCond .eq 8, 3) := by decide +kernel
theorem dX7_at_8 : decode cX7_at 8 = .ok (.ldc 80, 2) := by decide +kernel
theorem dX7_at_10 : decode cX7_at 10 = .ok (.goto 15, 3) := by decide +kernel
theorem dX7_at_13 : decode cX7_at 13 = .ok (.aload_n 0, 1) := by decide +kernel
theorem dX7_at_14 : decode cX7_at 14 = .ok (.getfield 23, 3) := by decide +kernel
theorem dX7_at_17 : decode cX7_at 17 = .ok (.aload_n 0, 1) := by decide +kernel
theorem dX7_at_18 : decode cX7_at 18 = .ok (.getfield 69, 3) := by decide +kernel
theorem dX7_at_21 : decode cX7_at 21 = .ok (.iload_n 1, 1) := by decide +kernel
theorem dX7_at_22 : decode cX7_at 22 = .ok (.invokevirtual 89, 3) := by decide +kernel
theorem dX7_at_25 : decode cX7_at 25 = .ok (.ireturn, 1) := by decide +kernel
theorem dX7_view_0 : decode cX7_view 0 = .ok (.aload_n 0, 1) := by decide +kernel
theorem dX7_view_1 : decode cX7_view 1 = .ok (.iload_n 1, 1) := by decide +kernel
theorem dX7_view_2 : decode cX7_view 2 = .ok (.invokevirtual 76, 3) := by decide +kernel
theorem dX7_view_5 : decode cX7_view 5 = .ok (.ifCond .eq 6, 3) := by decide +kernel
theorem dX7_view_8 : decode cX7_view 8 = .ok (.ldc 80, 2) := by decide +kernel
theorem dX7_view_10 : decode cX7_view 10 = .ok (.ireturn, 1) := by decide +kernel
theorem dX7_view_11 : decode cX7_view 11 = .ok (.aload_n 0, 1) := by decide +kernel
theorem dX7_view_12 : decode cX7_view 12 = .ok (.getfield 23, 3) := by decide +kernel
theorem dX7_view_15 : decode cX7_view 15 = .ok (.aload_n 0, 1) := by decide +kernel
theorem dX7_view_16 : decode cX7_view 16 = .ok (.getfield 69, 3) := by decide +kernel
theorem dX7_view_19 : decode cX7_view 19 = .ok (.iload_n 1, 1) := by decide +kernel
theorem dX7_view_20 : decode cX7_view 20 = .ok (.invokevirtual 89, 3) := by decide +kernel
theorem dX7_view_23 : decode cX7_view 23 = .ok (.ifCond .ne 6, 3) := by decide +kernel
theorem dX7_view_26 : decode cX7_view 26 = .ok (.ldc 92, 2) := by decide +kernel
theorem dX7_view_28 : decode cX7_view 28 = .ok (.ireturn, 1) := by decide +kernel
theorem dX7_view_29 : decode cX7_view 29 = .ok (.aload_n 0, 1) := by decide +kernel
theorem dX7_view_30 : decode cX7_view 30 = .ok (.getfield 23, 3) := by decide +kernel
theorem dX7_view_33 : decode cX7_view 33 = .ok (.aload_n 0, 1) := by decide +kernel
theorem dX7_view_34 : decode cX7_view 34 = .ok (.getfield 69, 3) := by decide +kernel
theorem dX7_view_37 : decode cX7_view 37 = .ok (.iload_n 1, 1) := by decide +kernel
theorem dX7_view_38 : decode cX7_view 38 = .ok (.invokevirtual 93, 3) := by decide +kernel
theorem dX7_view_41 : decode cX7_view 41 = .ok (.iload_n 2, 1) := by decide +kernel
theorem dX7_view_42 : decode cX7_view 42 = .ok (.invokestatic 97, 3) := by decide +kernel
theorem dX7_view_45 : decode cX7_view 45 = .ok (.ireturn, 1) := by decide +kernel
theorem dX7_does_0 : decode cX7_does 0 = .ok (.aload_n 0, 1) := by decide +kernel
theorem dX7_does_1 : decode cX7_does 1 = .ok (.iload_n 1, 1) := by decide +kernel
theorem dX7_does_2 : decode cX7_does 2 = .ok (.invokevirtual 76, 3) := by decide +kernel
theorem dX7_does_5 : decode cX7_does 5 = .ok (.ifCond .eq 6, 3) := by decide +kernel
theorem dX7_does_8 : decode cX7_does 8 = .ok (.ldc 80, 2) := by decide +kernel
theorem dX7_does_10 : decode cX7_does 10 = .ok (.ireturn, 1) := by decide +kernel
theorem dX7_does_11 : decode cX7_does 11 = .ok (.aload_n 0, 1) := by decide +kernel
theorem dX7_does_12 : decode cX7_does 12 = .ok (.getfield 23, 3) := by decide +kernel
theorem dX7_does_15 : decode cX7_does 15 = .ok (.aload_n 0, 1) := by decide +kernel
theorem dX7_does_16 : decode cX7_does 16 = .ok (.getfield 69, 3) := by decide +kernel
theorem dX7_does_19 : decode cX7_does 19 = .ok (.iload_n 1, 1) := by decide +kernel
theorem dX7_does_20 : decode cX7_does 20 = .ok (.invokevirtual 89, 3) := by decide +kernel
theorem dX7_does_23 : decode cX7_does 23 = .ok (.ifCond .ne 8, 3) := by decide +kernel
theorem dX7_does_26 : decode cX7_does 26 = .ok (.ldc 92, 2) := by decide +kernel
theorem dX7_does_28 : decode cX7_does 28 = .ok (.goto 19, 3) := by decide +kernel
theorem dX7_does_31 : decode cX7_does 31 = .ok (.aload_n 0, 1) := by decide +kernel
theorem dX7_does_32 : decode cX7_does 32 = .ok (.getfield 62, 3) := by decide +kernel
theorem dX7_does_35 : decode cX7_does 35 = .ok (.aload_n 0, 1) := by decide +kernel
theorem dX7_does_36 : decode cX7_does 36 = .ok (.getfield 23, 3) := by decide +kernel
theorem dX7_does_39 : decode cX7_does 39 = .ok (.aload_n 0, 1) := by decide +kernel
theorem dX7_does_40 : decode cX7_does 40 = .ok (.getfield 69, 3) := by decide +kernel
theorem dX7_does_43 : decode cX7_does 43 = .ok (.iload_n 1, 1) := by decide +kernel
theorem dX7_does_44 : decode cX7_does 44 = .ok (.invokevirtual 103, 3) := by decide +kernel
theorem dX7_does_47 : decode cX7_does 47 = .ok (.ireturn, 1) := by decide +kernel
theorem dX7_name_0 : decode cX7_name 0 = .ok (.aload_n 0, 1) := by decide +kernel
theorem dX7_name_1 : decode cX7_name 1 = .ok (.iload_n 1, 1) := by decide +kernel
theorem dX7_name_2 : decode cX7_name 2 = .ok (.invokevirtual 76, 3) := by decide +kernel
theorem dX7_name_5 : decode cX7_name 5 = .ok (.ifCond .eq 8, 3) := by decide +kernel
theorem dX7_name_8 : decode cX7_name 8 = .ok (.ldc 80, 2) := by decide +kernel
theorem dX7_name_10 : decode cX7_name 10 = .ok (.goto 22, 3) := by decide +kernel
theorem dX7_name_13 : decode cX7_name 13 = .ok (.aload_n 0, 1) := by decide +kernel
theorem dX7_name_14 : decode cX7_name 14 = .ok (.getfield 23, 3) := by decide +kernel
theorem dX7_name_17 : decode cX7_name 17 = .ok (.aload_n 0, 1) := by decide +kernel
theorem dX7_name_18 : decode cX7_name 18 = .ok (.getfield 23, 3) := by decide +kernel
theorem dX7_name_21 : decode cX7_name 21 = .ok (.aload_n 0, 1) := by decide +kernel
theorem dX7_name_22 : decode cX7_name 22 = .ok (.getfield 69, 3) := by decide +kernel
theorem dX7_name_25 : decode cX7_name 25 = .ok (.invokevirtual 107, 3) := by decide +kernel
theorem dX7_name_28 : decode cX7_name 28 = .ok (.iload_n 1, 1) := by decide +kernel
theorem dX7_name_29 : decode cX7_name 29 = .ok (.invokevirtual 89, 3) := by decide +kernel
theorem dX7_name_32 : decode cX7_name 32 = .ok (.ireturn, 1) := by decide +kernel
theorem dX7_goal_0 : decode cX7_goal 0 = .ok (.iload_n 1, 1) := by decide +kernel
theorem dX7_goal_1 : decode cX7_goal 1 = .ok (.iconst 3, 1) := by decide +kernel
theorem dX7_goal_2 : decode cX7_goal 2 = .ok (.invokestatic 110, 3) := by decide +kernel
theorem dX7_goal_5 : decode cX7_goal 5 = .ok (.ifCond .eq 6, 3) := by decide +kernel
theorem dX7_goal_8 : decode cX7_goal 8 = .ok (.ldc 80, 2) := by decide +kernel
theorem dX7_goal_10 : decode cX7_goal 10 = .ok (.ireturn, 1) := by decide +kernel
theorem dX7_goal_11 : decode cX7_goal 11 = .ok (.aload_n 0, 1) := by decide +kernel
theorem dX7_goal_12 : decode cX7_goal 12 = .ok (.getfield 23, 3) := by decide +kernel
theorem dX7_goal_15 : decode cX7_goal 15 = .ok (.aload_n 0, 1) := by decide +kernel
theorem dX7_goal_16 : decode cX7_goal 16 = .ok (.getfield 69, 3) := by decide +kernel
theorem dX7_goal_19 : decode cX7_goal 19 = .ok (.iload_n 1, 1) := by decide +kernel
theorem dX7_goal_20 : decode cX7_goal 20 = .ok (.invokevirtual 114, 3) := by decide +kernel
theorem dX7_goal_23 : decode cX7_goal 23 = .ok (.ifCond .eq 7, 3) := by decide +kernel
theorem dX7_goal_26 : decode cX7_goal 26 = .ok (.iconst 1, 1) := by decide +kernel
theorem dX7_goal_27 : decode cX7_goal 27 = .ok (.goto 4, 3) := by decide +kernel
theorem dX7_goal_30 : decode cX7_goal 30 = .ok (.iconst 0, 1) := by decide +kernel
theorem dX7_goal_31 : decode cX7_goal 31 = .ok (.ireturn, 1) := by decide +kernel
theorem dX7_step_0 : decode cX7_step 0 = .ok (.aload_n 0, 1) := by decide +kernel
theorem dX7_step_1 : decode cX7_step 1 = .ok (.getfield 69, 3) := by decide +kernel
theorem dX7_step_4 : decode cX7_step 4 = .ok (.ifCond .ne 6, 3) := by decide +kernel
theorem dX7_step_7 : decode cX7_step 7 = .ok (.ldc 117, 2) := by decide +kernel
theorem dX7_step_9 : decode cX7_step 9 = .ok (.ireturn, 1) := by decide +kernel
theorem dX7_step_10 : decode cX7_step 10 = .ok (.aload_n 0, 1) := by decide +kernel
theorem dX7_step_11 : decode cX7_step 11 = .ok (.getfield 69, 3) := by decide +kernel
theorem dX7_step_14 : decode cX7_step 14 = .ok (.istore_n 1, 1) := by decide +kernel
theorem dX7_step_15 : decode cX7_step 15 = .ok (.iconst 0, 1) := by decide +kernel
theorem dX7_step_16 : decode cX7_step 16 = .ok (.istore_n 2, 1) := by decide +kernel
theorem dX7_step_17 : decode cX7_step 17 = .ok (.iconst 0, 1) := by decide +kernel
theorem dX7_step_18 : decode cX7_step 18 = .ok (.istore_n 3, 1) := by decide +kernel
theorem dX7_step_19 : decode cX7_step 19 = .ok (.iload_n 3, 1) := by decide +kernel
theorem dX7_step_20 : decode cX7_step 20 = .ok (.aload_n 0, 1) := by decide +kernel
theorem dX7_step_21 : decode cX7_step 21 = .ok (.getfield 23, 3) := by decide +kernel
theorem dX7_step_24 : decode cX7_step 24 = .ok (.getfield 118, 3) := by decide +kernel
theorem dX7_step_27 : decode cX7_step 27 = .ok (.if_icmp .ge 85, 3) := by decide +kernel
theorem dX7_step_30 : decode cX7_step 30 = .ok (.aload_n 0, 1) := by decide +kernel
theorem dX7_step_31 : decode cX7_step 31 = .ok (.getfield 23, 3) := by decide +kernel
theorem dX7_step_34 : decode cX7_step 34 = .ok (.aload_n 0, 1) := by decide +kernel
theorem dX7_step_35 : decode cX7_step 35 = .ok (.getfield 69, 3) := by decide +kernel
theorem dX7_step_38 : decode cX7_step 38 = .ok (.iload_n 3, 1) := by decide +kernel
theorem dX7_step_39 : decode cX7_step 39 = .ok (.invokevirtual 89, 3) := by decide +kernel
theorem dX7_step_42 : decode cX7_step 42 = .ok (.istore 4, 2) := by decide +kernel
theorem dX7_step_44 : decode cX7_step 44 = .ok (.iload 4, 2) := by decide +kernel
theorem dX7_step_46 : decode cX7_step 46 = .ok (.ifCond .ne 7, 3) := by decide +kernel
theorem dX7_step_49 : decode cX7_step 49 = .ok (.iconst 0, 1) := by decide +kernel
theorem dX7_step_50 : decode cX7_step 50 = .ok (.goto 19, 3) := by decide +kernel
theorem dX7_step_53 : decode cX7_step 53 = .ok (.aload_n 0, 1) := by decide +kernel
theorem dX7_step_54 : decode cX7_step 54 = .ok (.getfield 62, 3) := by decide +kernel
theorem dX7_step_57 : decode cX7_step 57 = .ok (.aload_n 0, 1) := by decide +kernel
theorem dX7_step_58 : decode cX7_step 58 = .ok (.getfield 23, 3) := by decide +kernel
theorem dX7_step_61 : decode cX7_step 61 = .ok (.aload_n 0, 1) := by decide +kernel
theorem dX7_step_62 : decode cX7_step 62 = .ok (.getfield 69, 3) := by decide +kernel
theorem dX7_step_65 : decode cX7_step 65 = .ok (.iload_n 3, 1) := by decide +kernel
theorem dX7_step_66 : decode cX7_step 66 = .ok (.invokevirtual 103, 3) := by decide +kernel
theorem dX7_step_69 : decode cX7_step 69 = .ok (.istore 5, 2) := by decide +kernel
theorem dX7_step_71 : decode cX7_step 71 = .ok (.iload 5, 2) := by decide +kernel
theorem dX7_step_73 : decode cX7_step 73 = .ok (.ifCond .eq 33, 3) := by decide +kernel
theorem dX7_step_76 : decode cX7_step 76 = .ok (.iload_n 1, 1) := by decide +kernel
theorem dX7_step_77 : decode cX7_step 77 = .ok (.iload 4, 2) := by decide +kernel
theorem dX7_step_79 : decode cX7_step 79 = .ok (.aload_n 0, 1) := by decide +kernel
theorem dX7_step_80 : decode cX7_step 80 = .ok (.getfield 23, 3) := by decide +kernel
theorem dX7_step_83 : decode cX7_step 83 = .ok (.iload_n 3, 1) := by decide +kernel
theorem dX7_step_84 : decode cX7_step 84 = .ok (.iload 5, 2) := by decide +kernel
theorem dX7_step_86 : decode cX7_step 86 = .ok (.iconst (-1), 1) := by decide +kernel
theorem dX7_step_87 : decode cX7_step 87 = .ok (.if_icmp .ne 7, 3) := by decide +kernel
theorem dX7_step_90 : decode cX7_step 90 = .ok (.iconst (-1), 1) := by decide +kernel
theorem dX7_step_91 : decode cX7_step 91 = .ok (.goto 4, 3) := by decide +kernel
theorem dX7_step_94 : decode cX7_step 94 = .ok (.iconst 1, 1) := by decide +kernel
theorem dX7_step_95 : decode cX7_step 95 = .ok (.invokevirtual 121, 3) := by decide +kernel
theorem dX7_step_98 : decode cX7_step 98 = .ok (.imul, 1) := by decide +kernel
theorem dX7_step_99 : decode cX7_step 99 = .ok (.iadd, 1) := by decide +kernel
theorem dX7_step_100 : decode cX7_step 100 = .ok (.istore_n 1, 1) := by decide +kernel
theorem dX7_step_101 : decode cX7_step 101 = .ok (.iload_n 2, 1) := by decide +kernel
theorem dX7_step_102 : decode cX7_step 102 = .ok (.iload 4, 2) := by decide +kernel
theorem dX7_step_104 : decode cX7_step 104 = .ok (.iadd, 1) := by decide +kernel
theorem dX7_step_105 : decode cX7_step 105 = .ok (.istore_n 2, 1) := by decide +kernel
theorem dX7_step_106 : decode cX7_step 106 = .ok (.iinc 3 1, 3) := by decide +kernel
theorem dX7_step_109 : decode cX7_step 109 = .ok (.goto (-90), 3) := by decide +kernel
theorem dX7_step_112 : decode cX7_step 112 = .ok (.aload_n 0, 1) := by decide +kernel
theorem dX7_step_113 : decode cX7_step 113 = .ok (.iload_n 1, 1) := by decide +kernel
theorem dX7_step_114 : decode cX7_step 114 = .ok (.putfield 69, 3) := by decide +kernel
theorem dX7_step_117 : decode cX7_step 117 = .ok (.iload_n 2, 1) := by decide +kernel
theorem dX7_step_118 : decode cX7_step 118 = .ok (.ireturn, 1) := by decide +kernel
theorem dX7_go_0 : decode cX7_go 0 = .ok (.aload_n 0, 1) := by decide +kernel
theorem dX7_go_1 : decode cX7_go 1 = .ok (.iload_n 1, 1) := by decide +kernel
theorem dX7_go_2 : decode cX7_go 2 = .ok (.invokevirtual 76, 3) := by decide +kernel
theorem dX7_go_5 : decode cX7_go 5 = .ok (.ifCond .eq 6, 3) := by decide +kernel
theorem dX7_go_8 : decode cX7_go 8 = .ok (.ldc 80, 2) := by decide +kernel
theorem dX7_go_10 : decode cX7_go 10 = .ok (.ireturn, 1) := by decide +kernel
theorem dX7_go_11 : decode cX7_go 11 = .ok (.aload_n 0, 1) := by decide +kernel
theorem dX7_go_12 : decode cX7_go 12 = .ok (.getfield 23, 3) := by decide +kernel
theorem dX7_go_15 : decode cX7_go 15 = .ok (.aload_n 0, 1) := by decide +kernel
theorem dX7_go_16 : decode cX7_go 16 = .ok (.getfield 69, 3) := by decide +kernel
theorem dX7_go_19 : decode cX7_go 19 = .ok (.iload_n 1, 1) := by decide +kernel
theorem dX7_go_20 : decode cX7_go 20 = .ok (.invokevirtual 89, 3) := by decide +kernel
theorem dX7_go_23 : decode cX7_go 23 = .ok (.ifCond .ne 7, 3) := by decide +kernel
theorem dX7_go_26 : decode cX7_go 26 = .ok (.iconst 0, 1) := by decide +kernel
theorem dX7_go_27 : decode cX7_go 27 = .ok (.goto 19, 3) := by decide +kernel
theorem dX7_go_30 : decode cX7_go 30 = .ok (.aload_n 0, 1) := by decide +kernel
theorem dX7_go_31 : decode cX7_go 31 = .ok (.getfield 62, 3) := by decide +kernel
theorem dX7_go_34 : decode cX7_go 34 = .ok (.aload_n 0, 1) := by decide +kernel
theorem dX7_go_35 : decode cX7_go 35 = .ok (.getfield 23, 3) := by decide +kernel
theorem dX7_go_38 : decode cX7_go 38 = .ok (.aload_n 0, 1) := by decide +kernel
theorem dX7_go_39 : decode cX7_go 39 = .ok (.getfield 69, 3) := by decide +kernel
theorem dX7_go_42 : decode cX7_go 42 = .ok (.iload_n 1, 1) := by decide +kernel
theorem dX7_go_43 : decode cX7_go 43 = .ok (.invokevirtual 103, 3) := by decide +kernel
theorem dX7_go_46 : decode cX7_go 46 = .ok (.istore_n 3, 1) := by decide +kernel
theorem dX7_go_47 : decode cX7_go 47 = .ok (.iload_n 3, 1) := by decide +kernel
theorem dX7_go_48 : decode cX7_go 48 = .ok (.ifCond .ne 6, 3) := by decide +kernel
theorem dX7_go_51 : decode cX7_go 51 = .ok (.ldc 117, 2) := by decide +kernel
theorem dX7_go_53 : decode cX7_go 53 = .ok (.ireturn, 1) := by decide +kernel
theorem dX7_go_54 : decode cX7_go 54 = .ok (.iload_n 3, 1) := by decide +kernel
theorem dX7_go_55 : decode cX7_go 55 = .ok (.iconst 2, 1) := by decide +kernel
theorem dX7_go_56 : decode cX7_go 56 = .ok (.if_icmp .ne 14, 3) := by decide +kernel
theorem dX7_go_59 : decode cX7_go 59 = .ok (.iload_n 2, 1) := by decide +kernel
theorem dX7_go_60 : decode cX7_go 60 = .ok (.iconst 1, 1) := by decide +kernel
theorem dX7_go_61 : decode cX7_go 61 = .ok (.if_icmp .ne 7, 3) := by decide +kernel
theorem dX7_go_64 : decode cX7_go 64 = .ok (.iconst 1, 1) := by decide +kernel
theorem dX7_go_65 : decode cX7_go 65 = .ok (.goto 4, 3) := by decide +kernel
theorem dX7_go_68 : decode cX7_go 68 = .ok (.iconst (-1), 1) := by decide +kernel
theorem dX7_go_69 : decode cX7_go 69 = .ok (.istore_n 3, 1) := by decide +kernel
theorem dX7_go_70 : decode cX7_go 70 = .ok (.aload_n 0, 1) := by decide +kernel
theorem dX7_go_71 : decode cX7_go 71 = .ok (.dup, 1) := by decide +kernel
theorem dX7_go_72 : decode cX7_go 72 = .ok (.getfield 69, 3) := by decide +kernel
theorem dX7_go_75 : decode cX7_go 75 = .ok (.aload_n 0, 1) := by decide +kernel
theorem dX7_go_76 : decode cX7_go 76 = .ok (.getfield 23, 3) := by decide +kernel
theorem dX7_go_79 : decode cX7_go 79 = .ok (.iload_n 1, 1) := by decide +kernel
theorem dX7_go_80 : decode cX7_go 80 = .ok (.iload_n 3, 1) := by decide +kernel
theorem dX7_go_81 : decode cX7_go 81 = .ok (.invokevirtual 121, 3) := by decide +kernel
theorem dX7_go_84 : decode cX7_go 84 = .ok (.iadd, 1) := by decide +kernel
theorem dX7_go_85 : decode cX7_go 85 = .ok (.putfield 69, 3) := by decide +kernel
theorem dX7_go_88 : decode cX7_go 88 = .ok (.iconst 1, 1) := by decide +kernel
theorem dX7_go_89 : decode cX7_go 89 = .ok (.ireturn, 1) := by decide +kernel
theorem dX7_feed_0 : decode cX7_feed 0 = .ok (.iload_n 3, 1) := by decide +kernel
theorem dX7_feed_1 : decode cX7_feed 1 = .ok (.iconst 1, 1) := by decide +kernel
theorem dX7_feed_2 : decode cX7_feed 2 = .ok (.if_icmp .lt 9, 3) := by decide +kernel
theorem dX7_feed_5 : decode cX7_feed 5 = .ok (.iload_n 3, 1) := by decide +kernel
theorem dX7_feed_6 : decode cX7_feed 6 = .ok (.bipush 8, 2) := by decide +kernel
theorem dX7_feed_8 : decode cX7_feed 8 = .ok (.if_icmp .le 6, 3) := by decide +kernel
theorem dX7_feed_11 : decode cX7_feed 11 = .ok (.ldc 80, 2) := by decide +kernel
theorem dX7_feed_13 : decode cX7_feed 13 = .ok (.ireturn, 1) := by decide +kernel
theorem dX7_feed_14 : decode cX7_feed 14 = .ok (.aload_n 0, 1) := by decide +kernel
theorem dX7_feed_15 : decode cX7_feed 15 = .ok (.getfield 46, 3) := by decide +kernel
theorem dX7_feed_18 : decode cX7_feed 18 = .ok (.lload_n 1, 1) := by decide +kernel
theorem dX7_feed_19 : decode cX7_feed 19 = .ok (.iload_n 3, 1) := by decide +kernel
theorem dX7_feed_20 : decode cX7_feed 20 = .ok (.invokevirtual 124, 3) := by decide +kernel
theorem dX7_feed_23 : decode cX7_feed 23 = .ok (.ifCond .eq 13, 3) := by decide +kernel
theorem dX7_feed_26 : decode cX7_feed 26 = .ok (.aload_n 0, 1) := by decide +kernel
theorem dX7_feed_27 : decode cX7_feed 27 = .ok (.getfield 46, 3) := by decide +kernel
theorem dX7_feed_30 : decode cX7_feed 30 = .ok (.getfield 128, 3) := by decide +kernel
theorem dX7_feed_33 : decode cX7_feed 33 = .ok (.goto 5, 3) := by decide +kernel
theorem dX7_feed_36 : decode cX7_feed 36 = .ok (.ldc 85, 2) := by decide +kernel
theorem dX7_feed_38 : decode cX7_feed 38 = .ok (.ireturn, 1) := by decide +kernel
theorem dX7_rules_0 : decode cX7_rules 0 = .ok (.aload_n 0, 1) := by decide +kernel
theorem dX7_rules_1 : decode cX7_rules 1 = .ok (.getfield 55, 3) := by decide +kernel
theorem dX7_rules_4 : decode cX7_rules 4 = .ok (.aload_n 0, 1) := by decide +kernel
theorem dX7_rules_5 : decode cX7_rules 5 = .ok (.getfield 66, 3) := by decide +kernel
theorem dX7_rules_8 : decode cX7_rules 8 = .ok (.invokevirtual 131, 3) := by decide +kernel
theorem dX7_rules_11 : decode cX7_rules 11 = .ok (.istore_n 1, 1) := by decide +kernel
theorem dX7_rules_12 : decode cX7_rules 12 = .ok (.aload_n 0, 1) := by decide +kernel
theorem dX7_rules_13 : decode cX7_rules 13 = .ok (.getfield 46, 3) := by decide +kernel
theorem dX7_rules_16 : decode cX7_rules 16 = .ok (.getfield 135, 3) := by decide +kernel
theorem dX7_rules_19 : decode cX7_rules 19 = .ok (.istore_n 2, 1) := by decide +kernel
theorem dX7_rules_20 : decode cX7_rules 20 = .ok (.aload_n 0, 1) := by decide +kernel
theorem dX7_rules_21 : decode cX7_rules 21 = .ok (.getfield 46, 3) := by decide +kernel
theorem dX7_rules_24 : decode cX7_rules 24 = .ok (.invokevirtual 138, 3) := by decide +kernel
theorem dX7_rules_27 : decode cX7_rules 27 = .ok (.iload_n 1, 1) := by decide +kernel
theorem dX7_rules_28 : decode cX7_rules 28 = .ok (.ifCond .eq 13, 3) := by decide +kernel
theorem dX7_rules_31 : decode cX7_rules 31 = .ok (.aload_n 0, 1) := by decide +kernel
theorem dX7_rules_32 : decode cX7_rules 32 = .ok (.iload_n 1, 1) := by decide +kernel
theorem dX7_rules_33 : decode cX7_rules 33 = .ok (.putfield 73, 3) := by decide +kernel
theorem dX7_rules_36 : decode cX7_rules 36 = .ok (.ldc 141, 2) := by decide +kernel
theorem dX7_rules_38 : decode cX7_rules 38 = .ok (.iload_n 2, 1) := by decide +kernel
theorem dX7_rules_39 : decode cX7_rules 39 = .ok (.isub, 1) := by decide +kernel
theorem dX7_rules_40 : decode cX7_rules 40 = .ok (.ireturn, 1) := by decide +kernel
theorem dX7_rules_41 : decode cX7_rules 41 = .ok (.aload_n 0, 1) := by decide +kernel
theorem dX7_rules_42 : decode cX7_rules 42 = .ok (.getfield 62, 3) := by decide +kernel
theorem dX7_rules_45 : decode cX7_rules 45 = .ok (.astore_n 3, 1) := by decide +kernel
theorem dX7_rules_46 : decode cX7_rules 46 = .ok (.aload_n 0, 1) := by decide +kernel
theorem dX7_rules_47 : decode cX7_rules 47 = .ok (.aload_n 0, 1) := by decide +kernel
theorem dX7_rules_48 : decode cX7_rules 48 = .ok (.getfield 66, 3) := by decide +kernel
theorem dX7_rules_51 : decode cX7_rules 51 = .ok (.putfield 62, 3) := by decide +kernel
theorem dX7_rules_54 : decode cX7_rules 54 = .ok (.aload_n 0, 1) := by decide +kernel
theorem dX7_rules_55 : decode cX7_rules 55 = .ok (.aload_n 3, 1) := by decide +kernel
theorem dX7_rules_56 : decode cX7_rules 56 = .ok (.putfield 66, 3) := by decide +kernel
theorem dX7_rules_59 : decode cX7_rules 59 = .ok (.aload_n 0, 1) := by decide +kernel
theorem dX7_rules_60 : decode cX7_rules 60 = .ok (.getfield 32, 3) := by decide +kernel
theorem dX7_rules_63 : decode cX7_rules 63 = .ok (.invokevirtual 142, 3) := by decide +kernel
theorem dX7_rules_66 : decode cX7_rules 66 = .ok (.aload_n 0, 1) := by decide +kernel
theorem dX7_rules_67 : decode cX7_rules 67 = .ok (.getfield 62, 3) := by decide +kernel
theorem dX7_rules_70 : decode cX7_rules 70 = .ok (.getfield 145, 3) := by decide +kernel
theorem dX7_rules_73 : decode cX7_rules 73 = .ok (.ireturn, 1) := by decide +kernel
theorem dX7_fault_0 : decode cX7_fault 0 = .ok (.aload_n 0, 1) := by decide +kernel
theorem dX7_fault_1 : decode cX7_fault 1 = .ok (.getfield 73, 3) := by decide +kernel
theorem dX7_fault_4 : decode cX7_fault 4 = .ok (.ireturn, 1) := by decide +kernel
theorem dX7_proves_0 : decode cX7_proves 0 = .ok (.iload_n 1, 1) := by decide +kernel
theorem dX7_proves_1 : decode cX7_proves 1 = .ok (.iconst 3, 1) := by decide +kernel
theorem dX7_proves_2 : decode cX7_proves 2 = .ok (.invokestatic 110, 3) := by decide +kernel
theorem dX7_proves_5 : decode cX7_proves 5 = .ok (.ifCond .ne 19, 3) := by decide +kernel
theorem dX7_proves_8 : decode cX7_proves 8 = .ok (.iload_n 2, 1) := by decide +kernel
theorem dX7_proves_9 : decode cX7_proves 9 = .ok (.iconst 3, 1) := by decide +kernel
theorem dX7_proves_10 : decode cX7_proves 10 = .ok (.invokestatic 110, 3) := by decide +kernel
theorem dX7_proves_13 : decode cX7_proves 13 = .ok (.ifCond .ne 11, 3) := by decide +kernel
theorem dX7_proves_16 : decode cX7_proves 16 = .ok (.iload_n 3, 1) := by decide +kernel
theorem dX7_proves_17 : decode cX7_proves 17 = .ok (.iconst 5, 1) := by decide +kernel
theorem dX7_proves_18 : decode cX7_proves 18 = .ok (.invokestatic 110, 3) := by decide +kernel
theorem dX7_proves_21 : decode cX7_proves 21 = .ok (.ifCond .eq 6, 3) := by decide +kernel
theorem dX7_proves_24 : decode cX7_proves 24 = .ok (.ldc 80, 2) := by decide +kernel
theorem dX7_proves_26 : decode cX7_proves 26 = .ok (.ireturn, 1) := by decide +kernel
theorem dX7_proves_27 : decode cX7_proves 27 = .ok (.aload_n 0, 1) := by decide +kernel
theorem dX7_proves_28 : decode cX7_proves 28 = .ok (.getfield 69, 3) := by decide +kernel
theorem dX7_proves_31 : decode cX7_proves 31 = .ok (.ifCond .ne 6, 3) := by decide +kernel
theorem dX7_proves_34 : decode cX7_proves 34 = .ok (.ldc 117, 2) := by decide +kernel
theorem dX7_proves_36 : decode cX7_proves 36 = .ok (.ireturn, 1) := by decide +kernel
theorem dX7_proves_37 : decode cX7_proves 37 = .ok (.aload_n 0, 1) := by decide +kernel
theorem dX7_proves_38 : decode cX7_proves 38 = .ok (.getfield 32, 3) := by decide +kernel
theorem dX7_proves_41 : decode cX7_proves 41 = .ok (.aload_n 0, 1) := by decide +kernel
theorem dX7_proves_42 : decode cX7_proves 42 = .ok (.getfield 23, 3) := by decide +kernel
theorem dX7_proves_45 : decode cX7_proves 45 = .ok (.aload_n 0, 1) := by decide +kernel
theorem dX7_proves_46 : decode cX7_proves 46 = .ok (.getfield 69, 3) := by decide +kernel
theorem dX7_proves_49 : decode cX7_proves 49 = .ok (.invokevirtual 81, 3) := by decide +kernel
theorem dX7_proves_52 : decode cX7_proves 52 = .ok (.invokevirtual 148, 3) := by decide +kernel
theorem dX7_proves_55 : decode cX7_proves 55 = .ok (.aload_n 0, 1) := by decide +kernel
theorem dX7_proves_56 : decode cX7_proves 56 = .ok (.getfield 32, 3) := by decide +kernel
theorem dX7_proves_59 : decode cX7_proves 59 = .ok (.aload_n 0, 1) := by decide +kernel
theorem dX7_proves_60 : decode cX7_proves 60 = .ok (.getfield 62, 3) := by decide +kernel
theorem dX7_proves_63 : decode cX7_proves 63 = .ok (.iload_n 1, 1) := by decide +kernel
theorem dX7_proves_64 : decode cX7_proves 64 = .ok (.invokevirtual 151, 3) := by decide +kernel
theorem dX7_proves_67 : decode cX7_proves 67 = .ok (.aload_n 0, 1) := by decide +kernel
theorem dX7_proves_68 : decode cX7_proves 68 = .ok (.getfield 32, 3) := by decide +kernel
theorem dX7_proves_71 : decode cX7_proves 71 = .ok (.aload_n 0, 1) := by decide +kernel
theorem dX7_proves_72 : decode cX7_proves 72 = .ok (.getfield 69, 3) := by decide +kernel
theorem dX7_proves_75 : decode cX7_proves 75 = .ok (.invokevirtual 155, 3) := by decide +kernel
theorem dX7_proves_78 : decode cX7_proves 78 = .ok (.istore 4, 2) := by decide +kernel
theorem dX7_proves_80 : decode cX7_proves 80 = .ok (.iload_n 3, 1) := by decide +kernel
theorem dX7_proves_81 : decode cX7_proves 81 = .ok (.lookupswitch 61 #[(0, 27), (4, 49)], 27) := by decide +kernel
theorem dX7_proves_108 : decode cX7_proves 108 = .ok (.aload_n 0, 1) := by decide +kernel
theorem dX7_proves_109 : decode cX7_proves 109 = .ok (.getfield 32, 3) := by decide +kernel
theorem dX7_proves_112 : decode cX7_proves 112 = .ok (.iload 4, 2) := by decide +kernel
theorem dX7_proves_114 : decode cX7_proves 114 = .ok (.iload_n 1, 1) := by decide +kernel
theorem dX7_proves_115 : decode cX7_proves 115 = .ok (.iload_n 2, 1) := by decide +kernel
theorem dX7_proves_116 : decode cX7_proves 116 = .ok (.invokevirtual 158, 3) := by decide +kernel
theorem dX7_proves_119 : decode cX7_proves 119 = .ok (.ldc 92, 2) := by decide +kernel
theorem dX7_proves_121 : decode cX7_proves 121 = .ok (.if_icmp .ne 7, 3) := by decide +kernel
theorem dX7_proves_124 : decode cX7_proves 124 = .ok (.iconst 0, 1) := by decide +kernel
theorem dX7_proves_125 : decode cX7_proves 125 = .ok (.goto 4, 3) := by decide +kernel
theorem dX7_proves_128 : decode cX7_proves 128 = .ok (.iconst 1, 1) := by decide +kernel
theorem dX7_proves_129 : decode cX7_proves 129 = .ok (.ireturn, 1) := by decide +kernel
theorem dX7_proves_130 : decode cX7_proves 130 = .ok (.aload_n 0, 1) := by decide +kernel
theorem dX7_proves_131 : decode cX7_proves 131 = .ok (.getfield 32, 3) := by decide +kernel
theorem dX7_proves_134 : decode cX7_proves 134 = .ok (.iload 4, 2) := by decide +kernel
theorem dX7_proves_136 : decode cX7_proves 136 = .ok (.iload_n 1, 1) := by decide +kernel
theorem dX7_proves_137 : decode cX7_proves 137 = .ok (.iload_n 2, 1) := by decide +kernel
theorem dX7_proves_138 : decode cX7_proves 138 = .ok (.invokevirtual 158, 3) := by decide +kernel
theorem dX7_proves_141 : decode cX7_proves 141 = .ok (.ireturn, 1) := by decide +kernel
theorem dX7_proves_142 : decode cX7_proves 142 = .ok (.aload_n 0, 1) := by decide +kernel
theorem dX7_proves_143 : decode cX7_proves 143 = .ok (.getfield 32, 3) := by decide +kernel
theorem dX7_proves_146 : decode cX7_proves 146 = .ok (.aload_n 0, 1) := by decide +kernel
theorem dX7_proves_147 : decode cX7_proves 147 = .ok (.getfield 32, 3) := by decide +kernel
theorem dX7_proves_150 : decode cX7_proves 150 = .ok (.iload 4, 2) := by decide +kernel
theorem dX7_proves_152 : decode cX7_proves 152 = .ok (.iload_n 1, 1) := by decide +kernel
theorem dX7_proves_153 : decode cX7_proves 153 = .ok (.iload_n 2, 1) := by decide +kernel
theorem dX7_proves_154 : decode cX7_proves 154 = .ok (.invokevirtual 162, 3) := by decide +kernel
theorem dX7_proves_157 : decode cX7_proves 157 = .ok (.iload_n 1, 1) := by decide +kernel
theorem dX7_proves_158 : decode cX7_proves 158 = .ok (.iload_n 2, 1) := by decide +kernel
theorem dX7_proves_159 : decode cX7_proves 159 = .ok (.iload_n 3, 1) := by decide +kernel
theorem dX7_proves_160 : decode cX7_proves 160 = .ok (.invokevirtual 166, 3) := by decide +kernel
theorem dX7_proves_163 : decode cX7_proves 163 = .ok (.ireturn, 1) := by decide +kernel
theorem dX7_starts_0 : decode cX7_starts 0 = .ok (.iload_n 1, 1) := by decide +kernel
theorem dX7_starts_1 : decode cX7_starts 1 = .ok (.iconst 3, 1) := by decide +kernel
theorem dX7_starts_2 : decode cX7_starts 2 = .ok (.invokestatic 110, 3) := by decide +kernel
theorem dX7_starts_5 : decode cX7_starts 5 = .ok (.ifCond .ne 19, 3) := by decide +kernel
theorem dX7_starts_8 : decode cX7_starts 8 = .ok (.iload_n 2, 1) := by decide +kernel
theorem dX7_starts_9 : decode cX7_starts 9 = .ok (.iconst 3, 1) := by decide +kernel
theorem dX7_starts_10 : decode cX7_starts 10 = .ok (.invokestatic 110, 3) := by decide +kernel
theorem dX7_starts_13 : decode cX7_starts 13 = .ok (.ifCond .ne 11, 3) := by decide +kernel
theorem dX7_starts_16 : decode cX7_starts 16 = .ok (.iload_n 3, 1) := by decide +kernel
theorem dX7_starts_17 : decode cX7_starts 17 = .ok (.iconst 2, 1) := by decide +kernel
theorem dX7_starts_18 : decode cX7_starts 18 = .ok (.invokestatic 110, 3) := by decide +kernel
theorem dX7_starts_21 : decode cX7_starts 21 = .ok (.ifCond .eq 6, 3) := by decide +kernel
theorem dX7_starts_24 : decode cX7_starts 24 = .ok (.ldc 80, 2) := by decide +kernel
theorem dX7_starts_26 : decode cX7_starts 26 = .ok (.ireturn, 1) := by decide +kernel
theorem dX7_starts_27 : decode cX7_starts 27 = .ok (.aload_n 0, 1) := by decide +kernel
theorem dX7_starts_28 : decode cX7_starts 28 = .ok (.getfield 69, 3) := by decide +kernel
theorem dX7_starts_31 : decode cX7_starts 31 = .ok (.ifCond .ne 6, 3) := by decide +kernel
theorem dX7_starts_34 : decode cX7_starts 34 = .ok (.ldc 117, 2) := by decide +kernel
theorem dX7_starts_36 : decode cX7_starts 36 = .ok (.ireturn, 1) := by decide +kernel
theorem dX7_starts_37 : decode cX7_starts 37 = .ok (.aload_n 0, 1) := by decide +kernel
theorem dX7_starts_38 : decode cX7_starts 38 = .ok (.getfield 32, 3) := by decide +kernel
theorem dX7_starts_41 : decode cX7_starts 41 = .ok (.aload_n 0, 1) := by decide +kernel
theorem dX7_starts_42 : decode cX7_starts 42 = .ok (.getfield 23, 3) := by decide +kernel
theorem dX7_starts_45 : decode cX7_starts 45 = .ok (.aload_n 0, 1) := by decide +kernel
theorem dX7_starts_46 : decode cX7_starts 46 = .ok (.getfield 69, 3) := by decide +kernel
theorem dX7_starts_49 : decode cX7_starts 49 = .ok (.invokevirtual 81, 3) := by decide +kernel
theorem dX7_starts_52 : decode cX7_starts 52 = .ok (.invokevirtual 148, 3) := by decide +kernel
theorem dX7_starts_55 : decode cX7_starts 55 = .ok (.iload_n 3, 1) := by decide +kernel
theorem dX7_starts_56 : decode cX7_starts 56 = .ok (.ifCond .ne 11, 3) := by decide +kernel
theorem dX7_starts_59 : decode cX7_starts 59 = .ok (.aload_n 0, 1) := by decide +kernel
theorem dX7_starts_60 : decode cX7_starts 60 = .ok (.getfield 32, 3) := by decide +kernel
theorem dX7_starts_63 : decode cX7_starts 63 = .ok (.getfield 170, 3) := by decide +kernel
theorem dX7_starts_66 : decode cX7_starts 66 = .ok (.ireturn, 1) := by decide +kernel
theorem dX7_starts_67 : decode cX7_starts 67 = .ok (.aload_n 0, 1) := by decide +kernel
theorem dX7_starts_68 : decode cX7_starts 68 = .ok (.getfield 32, 3) := by decide +kernel
theorem dX7_starts_71 : decode cX7_starts 71 = .ok (.aload_n 0, 1) := by decide +kernel
theorem dX7_starts_72 : decode cX7_starts 72 = .ok (.getfield 62, 3) := by decide +kernel
theorem dX7_starts_75 : decode cX7_starts 75 = .ok (.iload_n 1, 1) := by decide +kernel
theorem dX7_starts_76 : decode cX7_starts 76 = .ok (.invokevirtual 151, 3) := by decide +kernel
theorem dX7_starts_79 : decode cX7_starts 79 = .ok (.aload_n 0, 1) := by decide +kernel
theorem dX7_starts_80 : decode cX7_starts 80 = .ok (.getfield 32, 3) := by decide +kernel
theorem dX7_starts_83 : decode cX7_starts 83 = .ok (.iload_n 1, 1) := by decide +kernel
theorem dX7_starts_84 : decode cX7_starts 84 = .ok (.iload_n 2, 1) := by decide +kernel
theorem dX7_starts_85 : decode cX7_starts 85 = .ok (.invokevirtual 171, 3) := by decide +kernel
theorem dX7_starts_88 : decode cX7_starts 88 = .ok (.invokestatic 174, 3) := by decide +kernel
theorem dX7_starts_91 : decode cX7_starts 91 = .ok (.ireturn, 1) := by decide +kernel
theorem dX7_kind_0 : decode cX7_kind 0 = .ok (.aload_n 0, 1) := by decide +kernel
theorem dX7_kind_1 : decode cX7_kind 1 = .ok (.getfield 69, 3) := by decide +kernel
theorem dX7_kind_4 : decode cX7_kind 4 = .ok (.ifCond .ne 8, 3) := by decide +kernel
theorem dX7_kind_7 : decode cX7_kind 7 = .ok (.ldc 117, 2) := by decide +kernel
theorem dX7_kind_9 : decode cX7_kind 9 = .ok (.goto 14, 3) := by decide +kernel
theorem dX7_kind_12 : decode cX7_kind 12 = .ok (.aload_n 0, 1) := by decide +kernel
theorem dX7_kind_13 : decode cX7_kind 13 = .ok (.getfield 23, 3) := by decide +kernel
theorem dX7_kind_16 : decode cX7_kind 16 = .ok (.aload_n 0, 1) := by decide +kernel
theorem dX7_kind_17 : decode cX7_kind 17 = .ok (.getfield 69, 3) := by decide +kernel
theorem dX7_kind_20 : decode cX7_kind 20 = .ok (.invokevirtual 180, 3) := by decide +kernel
theorem dX7_kind_23 : decode cX7_kind 23 = .ok (.ireturn, 1) := by decide +kernel
theorem dX7_as_0 : decode cX7_as 0 = .ok (.iload_n 1, 1) := by decide +kernel
theorem dX7_as_1 : decode cX7_as 1 = .ok (.iconst 4, 1) := by decide +kernel
theorem dX7_as_2 : decode cX7_as 2 = .ok (.invokestatic 110, 3) := by decide +kernel
theorem dX7_as_5 : decode cX7_as 5 = .ok (.ifCond .eq 6, 3) := by decide +kernel
theorem dX7_as_8 : decode cX7_as 8 = .ok (.ldc 80, 2) := by decide +kernel
theorem dX7_as_10 : decode cX7_as 10 = .ok (.ireturn, 1) := by decide +kernel
theorem dX7_as_11 : decode cX7_as 11 = .ok (.aload_n 0, 1) := by decide +kernel
theorem dX7_as_12 : decode cX7_as 12 = .ok (.getfield 69, 3) := by decide +kernel
theorem dX7_as_15 : decode cX7_as 15 = .ok (.ifCond .ne 6, 3) := by decide +kernel
theorem dX7_as_18 : decode cX7_as 18 = .ok (.ldc 117, 2) := by decide +kernel
theorem dX7_as_20 : decode cX7_as 20 = .ok (.ireturn, 1) := by decide +kernel
theorem dX7_as_21 : decode cX7_as 21 = .ok (.iload_n 1, 1) := by decide +kernel
theorem dX7_as_22 : decode cX7_as 22 = .ok (.ifCond .eq 18, 3) := by decide +kernel
theorem dX7_as_25 : decode cX7_as 25 = .ok (.iload_n 1, 1) := by decide +kernel
theorem dX7_as_26 : decode cX7_as 26 = .ok (.aload_n 0, 1) := by decide +kernel
theorem dX7_as_27 : decode cX7_as 27 = .ok (.getfield 23, 3) := by decide +kernel
theorem dX7_as_30 : decode cX7_as 30 = .ok (.aload_n 0, 1) := by decide +kernel
theorem dX7_as_31 : decode cX7_as 31 = .ok (.getfield 69, 3) := by decide +kernel
theorem dX7_as_34 : decode cX7_as 34 = .ok (.invokevirtual 180, 3) := by decide +kernel
theorem dX7_as_37 : decode cX7_as 37 = .ok (.if_icmp .ne 17, 3) := by decide +kernel
theorem dX7_as_40 : decode cX7_as 40 = .ok (.aload_n 0, 1) := by decide +kernel
theorem dX7_as_41 : decode cX7_as 41 = .ok (.getfield 23, 3) := by decide +kernel
theorem dX7_as_44 : decode cX7_as 44 = .ok (.aload_n 0, 1) := by decide +kernel
theorem dX7_as_45 : decode cX7_as 45 = .ok (.getfield 69, 3) := by decide +kernel
theorem dX7_as_48 : decode cX7_as 48 = .ok (.invokevirtual 81, 3) := by decide +kernel
theorem dX7_as_51 : decode cX7_as 51 = .ok (.goto 5, 3) := by decide +kernel
theorem dX7_as_54 : decode cX7_as 54 = .ok (.ldc 183, 2) := by decide +kernel
theorem dX7_as_56 : decode cX7_as 56 = .ok (.ireturn, 1) := by decide +kernel
theorem dX7_ask_0 : decode cX7_ask 0 = .ok (.iload_n 1, 1) := by decide +kernel
theorem dX7_ask_1 : decode cX7_ask 1 = .ok (.iconst 2, 1) := by decide +kernel
theorem dX7_ask_2 : decode cX7_ask 2 = .ok (.invokestatic 110, 3) := by decide +kernel
theorem dX7_ask_5 : decode cX7_ask 5 = .ok (.ifCond .eq 6, 3) := by decide +kernel
theorem dX7_ask_8 : decode cX7_ask 8 = .ok (.ldc 80, 2) := by decide +kernel
theorem dX7_ask_10 : decode cX7_ask 10 = .ok (.ireturn, 1) := by decide +kernel
theorem dX7_ask_11 : decode cX7_ask 11 = .ok (.aload_n 0, 1) := by decide +kernel
theorem dX7_ask_12 : decode cX7_ask 12 = .ok (.getfield 69, 3) := by decide +kernel
theorem dX7_ask_15 : decode cX7_ask 15 = .ok (.ifCond .ne 6, 3) := by decide +kernel
theorem dX7_ask_18 : decode cX7_ask 18 = .ok (.ldc 117, 2) := by decide +kernel
theorem dX7_ask_20 : decode cX7_ask 20 = .ok (.ireturn, 1) := by decide +kernel
theorem dX7_ask_21 : decode cX7_ask 21 = .ok (.aload_n 0, 1) := by decide +kernel
theorem dX7_ask_22 : decode cX7_ask 22 = .ok (.getfield 39, 3) := by decide +kernel
theorem dX7_ask_25 : decode cX7_ask 25 = .ok (.iload_n 1, 1) := by decide +kernel
theorem dX7_ask_26 : decode cX7_ask 26 = .ok (.aload_n 0, 1) := by decide +kernel
theorem dX7_ask_27 : decode cX7_ask 27 = .ok (.getfield 69, 3) := by decide +kernel
theorem dX7_ask_30 : decode cX7_ask 30 = .ok (.invokevirtual 184, 3) := by decide +kernel
theorem dX7_ask_33 : decode cX7_ask 33 = .ok (.ireturn, 1) := by decide +kernel
theorem dX7_trace_0 : decode cX7_trace 0 = .ok (.aload_n 0, 1) := by decide +kernel
theorem dX7_trace_1 : decode cX7_trace 1 = .ok (.getfield 39, 3) := by decide +kernel
theorem dX7_trace_4 : decode cX7_trace 4 = .ok (.iload_n 1, 1) := by decide +kernel
theorem dX7_trace_5 : decode cX7_trace 5 = .ok (.invokevirtual 187, 3) := by decide +kernel
theorem dX7_trace_8 : decode cX7_trace 8 = .ok (.ireturn, 1) := by decide +kernel
theorem dX7_count_0 : decode cX7_count 0 = .ok (.iload_n 1, 1) := by decide +kernel
theorem dX7_count_1 : decode cX7_count 1 = .ok (.bipush 7, 2) := by decide +kernel
theorem dX7_count_3 : decode cX7_count 3 = .ok (.invokestatic 110, 3) := by decide +kernel
theorem dX7_count_6 : decode cX7_count 6 = .ok (.ifCond .eq 6, 3) := by decide +kernel
theorem dX7_count_9 : decode cX7_count 9 = .ok (.ldc 80, 2) := by decide +kernel
theorem dX7_count_11 : decode cX7_count 11 = .ok (.ireturn, 1) := by decide +kernel
theorem dX7_count_12 : decode cX7_count 12 = .ok (.iload_n 1, 1) := by decide +kernel
theorem dX7_count_13 : decode cX7_count 13 = .ok (.tableswitch 103 0 5 #[39, 47, 59, 71, 79, 91], 39) := by decide +kernel
theorem dX7_count_52 : decode cX7_count 52 = .ok (.aload_n 0, 1) := by decide +kernel
theorem dX7_count_53 : decode cX7_count 53 = .ok (.getfield 23, 3) := by decide +kernel
theorem dX7_count_56 : decode cX7_count 56 = .ok (.getfield 118, 3) := by decide +kernel
theorem dX7_count_59 : decode cX7_count 59 = .ok (.ireturn, 1) := by decide +kernel
theorem dX7_count_60 : decode cX7_count 60 = .ok (.aload_n 0, 1) := by decide +kernel
theorem dX7_count_61 : decode cX7_count 61 = .ok (.getfield 23, 3) := by decide +kernel
theorem dX7_count_64 : decode cX7_count 64 = .ok (.aload_n 0, 1) := by decide +kernel
theorem dX7_count_65 : decode cX7_count 65 = .ok (.getfield 69, 3) := by decide +kernel
theorem dX7_count_68 : decode cX7_count 68 = .ok (.invokevirtual 81, 3) := by decide +kernel
theorem dX7_count_71 : decode cX7_count 71 = .ok (.ireturn, 1) := by decide +kernel
theorem dX7_count_72 : decode cX7_count 72 = .ok (.aload_n 0, 1) := by decide +kernel
theorem dX7_count_73 : decode cX7_count 73 = .ok (.getfield 23, 3) := by decide +kernel
theorem dX7_count_76 : decode cX7_count 76 = .ok (.aload_n 0, 1) := by decide +kernel
theorem dX7_count_77 : decode cX7_count 77 = .ok (.getfield 69, 3) := by decide +kernel
theorem dX7_count_80 : decode cX7_count 80 = .ok (.invokevirtual 190, 3) := by decide +kernel
theorem dX7_count_83 : decode cX7_count 83 = .ok (.ireturn, 1) := by decide +kernel
theorem dX7_count_84 : decode cX7_count 84 = .ok (.aload_n 0, 1) := by decide +kernel
theorem dX7_count_85 : decode cX7_count 85 = .ok (.getfield 62, 3) := by decide +kernel
theorem dX7_count_88 : decode cX7_count 88 = .ok (.getfield 145, 3) := by decide +kernel
theorem dX7_count_91 : decode cX7_count 91 = .ok (.ireturn, 1) := by decide +kernel
theorem dX7_count_92 : decode cX7_count 92 = .ok (.aload_n 0, 1) := by decide +kernel
theorem dX7_count_93 : decode cX7_count 93 = .ok (.getfield 23, 3) := by decide +kernel
theorem dX7_count_96 : decode cX7_count 96 = .ok (.aload_n 0, 1) := by decide +kernel
theorem dX7_count_97 : decode cX7_count 97 = .ok (.getfield 69, 3) := by decide +kernel
theorem dX7_count_100 : decode cX7_count 100 = .ok (.invokevirtual 193, 3) := by decide +kernel
theorem dX7_count_103 : decode cX7_count 103 = .ok (.ireturn, 1) := by decide +kernel
theorem dX7_count_104 : decode cX7_count 104 = .ok (.aload_n 0, 1) := by decide +kernel
theorem dX7_count_105 : decode cX7_count 105 = .ok (.getfield 23, 3) := by decide +kernel
theorem dX7_count_108 : decode cX7_count 108 = .ok (.aload_n 0, 1) := by decide +kernel
theorem dX7_count_109 : decode cX7_count 109 = .ok (.getfield 69, 3) := by decide +kernel
theorem dX7_count_112 : decode cX7_count 112 = .ok (.invokevirtual 196, 3) := by decide +kernel
theorem dX7_count_115 : decode cX7_count 115 = .ok (.ireturn, 1) := by decide +kernel
theorem dX7_count_116 : decode cX7_count 116 = .ok (.aload_n 0, 1) := by decide +kernel
theorem dX7_count_117 : decode cX7_count 117 = .ok (.getfield 46, 3) := by decide +kernel
theorem dX7_count_120 : decode cX7_count 120 = .ok (.getfield 128, 3) := by decide +kernel
theorem dX7_count_123 : decode cX7_count 123 = .ok (.ireturn, 1) := by decide +kernel
theorem dX7_noPlace_0 : decode cX7_noPlace 0 = .ok (.iload_n 1, 1) := by decide +kernel
theorem dX7_noPlace_1 : decode cX7_noPlace 1 = .ok (.aload_n 0, 1) := by decide +kernel
theorem dX7_noPlace_2 : decode cX7_noPlace 2 = .ok (.getfield 23, 3) := by decide +kernel
theorem dX7_noPlace_5 : decode cX7_noPlace 5 = .ok (.getfield 118, 3) := by decide +kernel
theorem dX7_noPlace_8 : decode cX7_noPlace 8 = .ok (.invokestatic 110, 3) := by decide +kernel
theorem dX7_noPlace_11 : decode cX7_noPlace 11 = .ok (.ireturn, 1) := by decide +kernel
theorem dX7_outside_0 : decode cX7_outside 0 = .ok (.iload_n 0, 1) := by decide +kernel
theorem dX7_outside_1 : decode cX7_outside 1 = .ok (.ifCond .lt 8, 3) := by decide +kernel
theorem dX7_outside_4 : decode cX7_outside 4 = .ok (.iload_n 0, 1) := by decide +kernel
theorem dX7_outside_5 : decode cX7_outside 5 = .ok (.iload_n 1, 1) := by decide +kernel
theorem dX7_outside_6 : decode cX7_outside 6 = .ok (.if_icmp .lt 7, 3) := by decide +kernel
theorem dX7_outside_9 : decode cX7_outside 9 = .ok (.iconst 1, 1) := by decide +kernel
theorem dX7_outside_10 : decode cX7_outside 10 = .ok (.goto 4, 3) := by decide +kernel
theorem dX7_outside_13 : decode cX7_outside 13 = .ok (.iconst 0, 1) := by decide +kernel
theorem dX7_outside_14 : decode cX7_outside 14 = .ok (.ireturn, 1) := by decide +kernel
theorem dX8_in_0 : decode cX8_in 0 = .ok (.lload_n 0, 1) := by decide +kernel
theorem dX8_in_1 : decode cX8_in 1 = .ok (.lload_n 2, 1) := by decide +kernel
theorem dX8_in_2 : decode cX8_in 2 = .ok (.lcmp, 1) := by decide +kernel
theorem dX8_in_3 : decode cX8_in 3 = .ok (.ifCond .lt 14, 3) := by decide +kernel
theorem dX8_in_6 : decode cX8_in 6 = .ok (.lload_n 0, 1) := by decide +kernel
theorem dX8_in_7 : decode cX8_in 7 = .ok (.lload 4, 2) := by decide +kernel
theorem dX8_in_9 : decode cX8_in 9 = .ok (.lcmp, 1) := by decide +kernel
theorem dX8_in_10 : decode cX8_in 10 = .ok (.ifCond .gt 7, 3) := by decide +kernel
theorem dX8_in_13 : decode cX8_in 13 = .ok (.iconst 1, 1) := by decide +kernel
theorem dX8_in_14 : decode cX8_in 14 = .ok (.goto 4, 3) := by decide +kernel
theorem dX8_in_17 : decode cX8_in 17 = .ok (.iconst 0, 1) := by decide +kernel
theorem dX8_in_18 : decode cX8_in 18 = .ok (.ireturn, 1) := by decide +kernel
theorem dX8_init_0 : decode cX8_init 0 = .ok (.aload_n 0, 1) := by decide +kernel
theorem dX8_init_1 : decode cX8_init 1 = .ok (.invokespecial 7, 3) := by decide +kernel
theorem dX8_init_4 : decode cX8_init 4 = .ok (.aload_n 0, 1) := by decide +kernel
theorem dX8_init_5 : decode cX8_init 5 = .ok (.bipush 9, 2) := by decide +kernel
theorem dX8_init_7 : decode cX8_init 7 = .ok (.newarray .int, 2) := by decide +kernel
theorem dX8_init_9 : decode cX8_init 9 = .ok (.putfield 13, 3) := by decide +kernel
theorem dX8_init_12 : decode cX8_init 12 = .ok (.aload_n 0, 1) := by decide +kernel
theorem dX8_init_13 : decode cX8_init 13 = .ok (.bipush 9, 2) := by decide +kernel
theorem dX8_init_15 : decode cX8_init 15 = .ok (.newarray .int, 2) := by decide +kernel
theorem dX8_init_17 : decode cX8_init 17 = .ok (.putfield 17, 3) := by decide +kernel
theorem dX8_init_20 : decode cX8_init 20 = .ok (.aload_n 0, 1) := by decide +kernel
theorem dX8_init_21 : decode cX8_init 21 = .ok (.bipush 8, 2) := by decide +kernel
theorem dX8_init_23 : decode cX8_init 23 = .ok (.newarray .int, 2) := by decide +kernel
theorem dX8_init_25 : decode cX8_init 25 = .ok (.putfield 20, 3) := by decide +kernel
theorem dX8_init_28 : decode cX8_init 28 = .ok (.aload_n 0, 1) := by decide +kernel
theorem dX8_init_29 : decode cX8_init 29 = .ok (.bipush 8, 2) := by decide +kernel
theorem dX8_init_31 : decode cX8_init 31 = .ok (.newarray .int, 2) := by decide +kernel
theorem dX8_init_33 : decode cX8_init 33 = .ok (.putfield 23, 3) := by decide +kernel
theorem dX8_init_36 : decode cX8_init 36 = .ok (.aload_n 0, 1) := by decide +kernel
theorem dX8_init_37 : decode cX8_init 37 = .ok (.bipush 8, 2) := by decide +kernel
theorem dX8_init_39 : decode cX8_init 39 = .ok (.newarray .int, 2) := by decide +kernel
theorem dX8_init_41 : decode cX8_init 41 = .ok (.putfield 26, 3) := by decide +kernel
theorem dX8_init_44 : decode cX8_init 44 = .ok (.aload_n 0, 1) := by decide +kernel
theorem dX8_init_45 : decode cX8_init 45 = .ok (.bipush 30, 2) := by decide +kernel
theorem dX8_init_47 : decode cX8_init 47 = .ok (.newarray .int, 2) := by decide +kernel
theorem dX8_init_49 : decode cX8_init 49 = .ok (.putfield 29, 3) := by decide +kernel
theorem dX8_init_52 : decode cX8_init 52 = .ok (.aload_n 0, 1) := by decide +kernel
theorem dX8_init_53 : decode cX8_init 53 = .ok (.sipush 240, 3) := by decide +kernel
theorem dX8_init_56 : decode cX8_init 56 = .ok (.newarray .int, 2) := by decide +kernel
theorem dX8_init_58 : decode cX8_init 58 = .ok (.putfield 32, 3) := by decide +kernel
theorem dX8_init_61 : decode cX8_init 61 = .ok (.aload_n 0, 1) := by decide +kernel
theorem dX8_init_62 : decode cX8_init 62 = .ok (.bipush 30, 2) := by decide +kernel
theorem dX8_init_64 : decode cX8_init 64 = .ok (.newarray .int, 2) := by decide +kernel
theorem dX8_init_66 : decode cX8_init 66 = .ok (.putfield 35, 3) := by decide +kernel
theorem dX8_init_69 : decode cX8_init 69 = .ok (.aload_n 0, 1) := by decide +kernel
theorem dX8_init_70 : decode cX8_init 70 = .ok (.bipush 9, 2) := by decide +kernel
theorem dX8_init_72 : decode cX8_init 72 = .ok (.newarray .int, 2) := by decide +kernel
theorem dX8_init_74 : decode cX8_init 74 = .ok (.putfield 38, 3) := by decide +kernel
theorem dX8_init_77 : decode cX8_init 77 = .ok (.aload_n 0, 1) := by decide +kernel
theorem dX8_init_78 : decode cX8_init 78 = .ok (.bipush 9, 2) := by decide +kernel
theorem dX8_init_80 : decode cX8_init 80 = .ok (.newarray .int, 2) := by decide +kernel
theorem dX8_init_82 : decode cX8_init 82 = .ok (.putfield 41, 3) := by decide +kernel
theorem dX8_init_85 : decode cX8_init 85 = .ok (.aload_n 0, 1) := by decide +kernel
theorem dX8_init_86 : decode cX8_init 86 = .ok (.sipush 400, 3) := by decide +kernel
theorem dX8_init_89 : decode cX8_init 89 = .ok (.newarray .int, 2) := by decide +kernel
theorem dX8_init_91 : decode cX8_init 91 = .ok (.putfield 44, 3) := by decide +kernel
theorem dX8_init_94 : decode cX8_init 94 = .ok (.aload_n 0, 1) := by decide +kernel
theorem dX8_init_95 : decode cX8_init 95 = .ok (.bipush 30, 2) := by decide +kernel
theorem dX8_init_97 : decode cX8_init 97 = .ok (.newarray .int, 2) := by decide +kernel
theorem dX8_init_99 : decode cX8_init 99 = .ok (.putfield 47, 3) := by decide +kernel
theorem dX8_init_102 : decode cX8_init 102 = .ok (.aload_n 0, 1) := by decide +kernel
theorem dX8_init_103 : decode cX8_init 103 = .ok (.sipush 240, 3) := by decide +kernel
theorem dX8_init_106 : decode cX8_init 106 = .ok (.newarray .int, 2) := by decide +kernel
theorem dX8_init_108 : decode cX8_init 108 = .ok (.putfield 50, 3) := by decide +kernel
theorem dX8_init_111 : decode cX8_init 111 = .ok (.aload_n 0, 1) := by decide +kernel
theorem dX8_init_112 : decode cX8_init 112 = .ok (.bipush 30, 2) := by decide +kernel
theorem dX8_init_114 : decode cX8_init 114 = .ok (.newarray .int, 2) := by decide +kernel
theorem dX8_init_116 : decode cX8_init 116 = .ok (.putfield 53, 3) := by decide +kernel
theorem dX8_init_119 : decode cX8_init 119 = .ok (.aload_n 0, 1) := by decide +kernel
theorem dX8_init_120 : decode cX8_init 120 = .ok (.bipush 8, 2) := by decide +kernel
theorem dX8_init_122 : decode cX8_init 122 = .ok (.newarray .int, 2) := by decide +kernel
theorem dX8_init_124 : decode cX8_init 124 = .ok (.putfield 56, 3) := by decide +kernel
theorem dX8_init_127 : decode cX8_init 127 = .ok (.aload_n 0, 1) := by decide +kernel
theorem dX8_init_128 : decode cX8_init 128 = .ok (.sipush 1080, 3) := by decide +kernel
theorem dX8_init_131 : decode cX8_init 131 = .ok (.newarray .int, 2) := by decide +kernel
theorem dX8_init_133 : decode cX8_init 133 = .ok (.putfield 59, 3) := by decide +kernel
theorem dX8_init_136 : decode cX8_init 136 = .ok (.aload_n 0, 1) := by decide +kernel
theorem dX8_init_137 : decode cX8_init 137 = .ok (.sipush 14400, 3) := by decide +kernel
theorem dX8_init_140 : decode cX8_init 140 = .ok (.newarray .boolean, 2) := by decide +kernel
theorem dX8_init_142 : decode cX8_init 142 = .ok (.putfield 62, 3) := by decide +kernel
theorem dX8_init_145 : decode cX8_init 145 = .ok (.aload_n 0, 1) := by decide +kernel
theorem dX8_init_146 : decode cX8_init 146 = .ok (.bipush 120, 2) := by decide +kernel
theorem dX8_init_148 : decode cX8_init 148 = .ok (.newarray .boolean, 2) := by decide +kernel
theorem dX8_init_150 : decode cX8_init 150 = .ok (.putfield 66, 3) := by decide +kernel
theorem dX8_init_153 : decode cX8_init 153 = .ok (.aload_n 0, 1) := by decide +kernel
theorem dX8_init_154 : decode cX8_init 154 = .ok (.bipush 120, 2) := by decide +kernel
theorem dX8_init_156 : decode cX8_init 156 = .ok (.newarray .boolean, 2) := by decide +kernel
theorem dX8_init_158 : decode cX8_init 158 = .ok (.putfield 69, 3) := by decide +kernel
theorem dX8_init_161 : decode cX8_init 161 = .ok (.aload_n 0, 1) := by decide +kernel
theorem dX8_init_162 : decode cX8_init 162 = .ok (.bipush 120, 2) := by decide +kernel
theorem dX8_init_164 : decode cX8_init 164 = .ok (.newarray .int, 2) := by decide +kernel
theorem dX8_init_166 : decode cX8_init 166 = .ok (.putfield 72, 3) := by decide +kernel
theorem dX8_init_169 : decode cX8_init 169 = .ok (.aload_n 0, 1) := by decide +kernel
theorem dX8_init_170 : decode cX8_init 170 = .ok (.iconst 4, 1) := by decide +kernel
theorem dX8_init_171 : decode cX8_init 171 = .ok (.newarray .int, 2) := by decide +kernel
theorem dX8_init_173 : decode cX8_init 173 = .ok (.putfield 75, 3) := by decide +kernel
theorem dX8_init_176 : decode cX8_init 176 = .ok (.aload_n 0, 1) := by decide +kernel
theorem dX8_init_177 : decode cX8_init 177 = .ok (.iconst 4, 1) := by decide +kernel
theorem dX8_init_178 : decode cX8_init 178 = .ok (.newarray .int, 2) := by decide +kernel
theorem dX8_init_180 : decode cX8_init 180 = .ok (.putfield 78, 3) := by decide +kernel
theorem dX8_init_183 : decode cX8_init 183 = .ok (.aload_n 0, 1) := by decide +kernel
theorem dX8_init_184 : decode cX8_init 184 = .ok (.bipush 9, 2) := by decide +kernel
theorem dX8_init_186 : decode cX8_init 186 = .ok (.newarray .int, 2) := by decide +kernel
theorem dX8_init_188 : decode cX8_init 188 = .ok (.putfield 81, 3) := by decide +kernel
theorem dX8_init_191 : decode cX8_init 191 = .ok (.aload_n 0, 1) := by decide +kernel
theorem dX8_init_192 : decode cX8_init 192 = .ok (.bipush 16, 2) := by decide +kernel
theorem dX8_init_194 : decode cX8_init 194 = .ok (.newarray .int, 2) := by decide +kernel
theorem dX8_init_196 : decode cX8_init 196 = .ok (.putfield 84, 3) := by decide +kernel
theorem dX8_init_199 : decode cX8_init 199 = .ok (.aload_n 0, 1) := by decide +kernel
theorem dX8_init_200 : decode cX8_init 200 = .ok (.iload_n 1, 1) := by decide +kernel
theorem dX8_init_201 : decode cX8_init 201 = .ok (.iconst 3, 1) := by decide +kernel
theorem dX8_init_202 : decode cX8_init 202 = .ok (.if_icmp .ge 7, 3) := by decide +kernel
theorem dX8_init_205 : decode cX8_init 205 = .ok (.iconst 3, 1) := by decide +kernel
theorem dX8_init_206 : decode cX8_init 206 = .ok (.goto 15, 3) := by decide +kernel
theorem dX8_init_209 : decode cX8_init 209 = .ok (.iload_n 1, 1) := by decide +kernel
theorem dX8_init_210 : decode cX8_init 210 = .ok (.bipush 9, 2) := by decide +kernel
theorem dX8_init_212 : decode cX8_init 212 = .ok (.if_icmp .le 8, 3) := by decide +kernel
theorem dX8_init_215 : decode cX8_init 215 = .ok (.bipush 9, 2) := by decide +kernel
theorem dX8_init_217 : decode cX8_init 217 = .ok (.goto 4, 3) := by decide +kernel
theorem dX8_init_220 : decode cX8_init 220 = .ok (.iload_n 1, 1) := by decide +kernel
theorem dX8_init_221 : decode cX8_init 221 = .ok (.putfield 87, 3) := by decide +kernel
theorem dX8_init_224 : decode cX8_init 224 = .ok (.return_, 1) := by decide +kernel
theorem dX8_isPlace_0 : decode cX8_isPlace 0 = .ok (.iload_n 1, 1) := by decide +kernel
theorem dX8_isPlace_1 : decode cX8_isPlace 1 = .ok (.i2l, 1) := by decide +kernel
theorem dX8_isPlace_2 : decode cX8_isPlace 2 = .ok (.lconst 0, 1) := by decide +kernel
theorem dX8_isPlace_3 : decode cX8_isPlace 3 = .ok (.aload_n 0, 1) := by decide +kernel
theorem dX8_isPlace_4 : decode cX8_isPlace 4 = .ok (.getfield 87, 3) := by decide +kernel
theorem dX8_isPlace_7 : decode cX8_isPlace 7 = .ok (.iconst 1, 1) := by decide +kernel
theorem dX8_isPlace_8 : decode cX8_isPlace 8 = .ok (.isub, 1) := by decide +kernel
theorem dX8_isPlace_9 : decode cX8_isPlace 9 = .ok (.i2l, 1) := by decide +kernel
theorem dX8_isPlace_10 : decode cX8_isPlace 10 = .ok (.invokestatic 90, 3) := by decide +kernel
theorem dX8_isPlace_13 : decode cX8_isPlace 13 = .ok (.ireturn, 1) := by decide +kernel
theorem dX8_robot_0 : decode cX8_robot 0 = .ok (.aload_n 0, 1) := by decide +kernel
theorem dX8_robot_1 : decode cX8_robot 1 = .ok (.iconst 0, 1) := by decide +kernel
theorem dX8_robot_2 : decode cX8_robot 2 = .ok (.putfield 1, 3) := by decide +kernel
theorem dX8_robot_5 : decode cX8_robot 5 = .ok (.aload_n 0, 1) := by decide +kernel
theorem dX8_robot_6 : decode cX8_robot 6 = .ok (.iload_n 1, 1) := by decide +kernel
theorem dX8_robot_7 : decode cX8_robot 7 = .ok (.invokevirtual 94, 3) := by decide +kernel
theorem dX8_robot_10 : decode cX8_robot 10 = .ok (.ifCond .ne 6, 3) := by decide +kernel
theorem dX8_robot_13 : decode cX8_robot 13 = .ok (.ldc 98, 2) := by decide +kernel
theorem dX8_robot_15 : decode cX8_robot 15 = .ok (.ireturn, 1) := by decide +kernel
theorem dX8_robot_16 : decode cX8_robot 16 = .ok (.aload_n 0, 1) := by decide +kernel
theorem dX8_robot_17 : decode cX8_robot 17 = .ok (.getfield 99, 3) := by decide +kernel
theorem dX8_robot_20 : decode cX8_robot 20 = .ok (.iconst 4, 1) := by decide +kernel
theorem dX8_robot_21 : decode cX8_robot 21 = .ok (.if_icmp .ne 6, 3) := by decide +kernel
theorem dX8_robot_24 : decode cX8_robot 24 = .ok (.ldc 102, 2) := by decide +kernel
theorem dX8_robot_26 : decode cX8_robot 26 = .ok (.ireturn, 1) := by decide +kernel
theorem dX8_robot_27 : decode cX8_robot 27 = .ok (.aload_n 0, 1) := by decide +kernel
theorem dX8_robot_28 : decode cX8_robot 28 = .ok (.getfield 13, 3) := by decide +kernel
theorem dX8_robot_31 : decode cX8_robot 31 = .ok (.iload_n 1, 1) := by decide +kernel
theorem dX8_robot_32 : decode cX8_robot 32 = .ok (.dup2, 1) := by decide +kernel
theorem dX8_robot_33 : decode cX8_robot 33 = .ok (.iaload, 1) := by decide +kernel
theorem dX8_robot_34 : decode cX8_robot 34 = .ok (.iconst 1, 1) := by decide +kernel
theorem dX8_robot_35 : decode cX8_robot 35 = .ok (.iadd, 1) := by decide +kernel
theorem dX8_robot_36 : decode cX8_robot 36 = .ok (.iastore, 1) := by decide +kernel
theorem dX8_robot_37 : decode cX8_robot 37 = .ok (.aload_n 0, 1) := by decide +kernel
theorem dX8_robot_38 : decode cX8_robot 38 = .ok (.dup, 1) := by decide +kernel
theorem dX8_robot_39 : decode cX8_robot 39 = .ok (.getfield 99, 3) := by decide +kernel
theorem dX8_robot_42 : decode cX8_robot 42 = .ok (.iconst 1, 1) := by decide +kernel
theorem dX8_robot_43 : decode cX8_robot 43 = .ok (.iadd, 1) := by decide +kernel
theorem dX8_robot_44 : decode cX8_robot 44 = .ok (.putfield 99, 3) := by decide +kernel
theorem dX8_robot_47 : decode cX8_robot 47 = .ok (.aload_n 0, 1) := by decide +kernel
theorem dX8_robot_48 : decode cX8_robot 48 = .ok (.getfield 99, 3) := by decide +kernel
theorem dX8_robot_51 : decode cX8_robot 51 = .ok (.ireturn, 1) := by decide +kernel
theorem dX8_wipe_0 : decode cX8_wipe 0 = .ok (.aload_n 0, 1) := by decide +kernel
theorem dX8_wipe_1 : decode cX8_wipe 1 = .ok (.iconst 0, 1) := by decide +kernel
theorem dX8_wipe_2 : decode cX8_wipe 2 = .ok (.putfield 1, 3) := by decide +kernel
theorem dX8_wipe_5 : decode cX8_wipe 5 = .ok (.aload_n 0, 1) := by decide +kernel
theorem dX8_wipe_6 : decode cX8_wipe 6 = .ok (.getfield 99, 3) := by decide +kernel
theorem dX8_wipe_9 : decode cX8_wipe 9 = .ok (.istore_n 1, 1) := by decide +kernel
theorem dX8_wipe_10 : decode cX8_wipe 10 = .ok (.aload_n 0, 1) := by decide +kernel
theorem dX8_wipe_11 : decode cX8_wipe 11 = .ok (.iconst 0, 1) := by decide +kernel
theorem dX8_wipe_12 : decode cX8_wipe 12 = .ok (.putfield 99, 3) := by decide +kernel
theorem dX8_wipe_15 : decode cX8_wipe 15 = .ok (.iconst 0, 1) := by decide +kernel
theorem dX8_wipe_16 : decode cX8_wipe 16 = .ok (.istore_n 2, 1) := by decide +kernel
theorem dX8_wipe_17 : decode cX8_wipe 17 = .ok (.iload_n 2, 1) := by decide +kernel
theorem dX8_wipe_18 : decode cX8_wipe 18 = .ok (.bipush 9, 2) := by decide +kernel
theorem dX8_wipe_20 : decode cX8_wipe 20 = .ok (.if_icmp .ge 16, 3) := by decide +kernel
theorem dX8_wipe_23 : decode cX8_wipe 23 = .ok (.aload_n 0, 1) := by decide +kernel
theorem dX8_wipe_24 : decode cX8_wipe 24 = .ok (.getfield 13, 3) := by decide +kernel
theorem dX8_wipe_27 : decode cX8_wipe 27 = .ok (.iload_n 2, 1) := by decide +kernel
theorem dX8_wipe_28 : decode cX8_wipe 28 = .ok (.iconst 0, 1) := by decide +kernel
theorem dX8_wipe_29 : decode cX8_wipe 29 = .ok (.iastore, 1) := by decide +kernel
theorem dX8_wipe_30 : decode cX8_wipe 30 = .ok (.iinc 2 1, 3) := by decide +kernel
theorem dX8_wipe_33 : decode cX8_wipe 33 = .ok (.goto (-16), 3) := by decide +kernel
theorem dX8_wipe_36 : decode cX8_wipe 36 = .ok (.iload_n 1, 1) := by decide +kernel
theorem dX8_wipe_37 : decode cX8_wipe 37 = .ok (.ireturn, 1) := by decide +kernel
theorem dX8_at_0 : decode cX8_at 0 = .ok (.aload_n 0, 1) := by decide +kernel
theorem dX8_at_1 : decode cX8_at 1 = .ok (.iconst 0, 1) := by decide +kernel
theorem dX8_at_2 : decode cX8_at 2 = .ok (.putfield 1, 3) := by decide +kernel
theorem dX8_at_5 : decode cX8_at 5 = .ok (.aload_n 0, 1) := by decide +kernel
theorem dX8_at_6 : decode cX8_at 6 = .ok (.iload_n 1, 1) := by decide +kernel
theorem dX8_at_7 : decode cX8_at 7 = .ok (.invokevirtual 94, 3) := by decide +kernel
theorem dX8_at_10 : decode cX8_at 10 = .ok (.ifCond .eq 12, 3) := by decide +kernel
theorem dX8_at_13 : decode cX8_at 13 = .ok (.aload_n 0, 1) := by decide +kernel
theorem dX8_at_14 : decode cX8_at 14 = .ok (.getfield 13, 3) := by decide +kernel
theorem dX8_at_17 : decode cX8_at 17 = .ok (.iload_n 1, 1) := by decide +kernel
theorem dX8_at_18 : decode cX8_at 18 = .ok (.iaload, 1) := by decide +kernel
theorem dX8_at_19 : decode cX8_at 19 = .ok (.goto 5, 3) := by decide +kernel
theorem dX8_at_22 : decode cX8_at 22 = .ok (.ldc 98, 2) := by decide +kernel
theorem dX8_at_24 : decode cX8_at 24 = .ok (.ireturn, 1) := by decide +kernel
theorem dX8_take_0 : decode cX8_take 0 = .ok (.iconst 0, 1) := by decide +kernel
theorem dX8_take_1 : decode cX8_take 1 = .ok (.istore_n 1, 1) := by decide +kernel
theorem dX8_take_2 : decode cX8_take 2 = .ok (.iload_n 1, 1) := by decide +kernel
theorem dX8_take_3 : decode cX8_take 3 = .ok (.bipush 9, 2) := by decide +kernel
theorem dX8_take_5 : decode cX8_take 5 = .ok (.if_icmp .ge 21, 3) := by decide +kernel
theorem dX8_take_8 : decode cX8_take 8 = .ok (.aload_n 0, 1) := by decide +kernel
theorem dX8_take_9 : decode cX8_take 9 = .ok (.getfield 17, 3) := by decide +kernel
theorem dX8_take_12 : decode cX8_take 12 = .ok (.iload_n 1, 1) := by decide +kernel
theorem dX8_take_13 : decode cX8_take 13 = .ok (.aload_n 0, 1) := by decide +kernel
theorem dX8_take_14 : decode cX8_take 14 = .ok (.getfield 13, 3) := by decide +kernel
theorem dX8_take_17 : decode cX8_take 17 = .ok (.iload_n 1, 1) := by decide +kernel
theorem dX8_take_18 : decode cX8_take 18 = .ok (.iaload, 1) := by decide +kernel
theorem dX8_take_19 : decode cX8_take 19 = .ok (.iastore, 1) := by decide +kernel
theorem dX8_take_20 : decode cX8_take 20 = .ok (.iinc 1 1, 3) := by decide +kernel
theorem dX8_take_23 : decode cX8_take 23 = .ok (.goto (-21), 3) := by decide +kernel
theorem dX8_take_26 : decode cX8_take 26 = .ok (.return_, 1) := by decide +kernel
theorem dX8_rowFrom_0 : decode cX8_rowFrom 0 = .ok (.iconst 0, 1) := by decide +kernel
theorem dX8_rowFrom_1 : decode cX8_rowFrom 1 = .ok (.istore 4, 2) := by decide +kernel
theorem dX8_rowFrom_3 : decode cX8_rowFrom 3 = .ok (.iconst 0, 1) := by decide +kernel
theorem dX8_rowFrom_4 : decode cX8_rowFrom 4 = .ok (.istore 5, 2) := by decide +kernel
theorem dX8_rowFrom_6 : decode cX8_rowFrom 6 = .ok (.iconst 1, 1) := by decide +kernel
theorem dX8_rowFrom_7 : decode cX8_rowFrom 7 = .ok (.istore 6, 2) := by decide +kernel
theorem dX8_rowFrom_9 : decode cX8_rowFrom 9 = .ok (.iload 6, 2) := by decide +kernel
theorem dX8_rowFrom_11 : decode cX8_rowFrom 11 = .ok (.aload_n 0, 1) := by decide +kernel
theorem dX8_rowFrom_12 : decode cX8_rowFrom 12 = .ok (.getfield 87, 3) := by decide +kernel
theorem dX8_rowFrom_15 : decode cX8_rowFrom 15 = .ok (.if_icmp .gt 72, 3) := by decide +kernel
theorem dX8_rowFrom_18 : decode cX8_rowFrom 18 = .ok (.iinc 5 1, 3) := by decide +kernel
theorem dX8_rowFrom_21 : decode cX8_rowFrom 21 = .ok (.iload_n 1, 1) := by decide +kernel
theorem dX8_rowFrom_22 : decode cX8_rowFrom 22 = .ok (.iload_n 2, 1) := by decide +kernel
theorem dX8_rowFrom_23 : decode cX8_rowFrom 23 = .ok (.iload 6, 2) := by decide +kernel
theorem dX8_rowFrom_25 : decode cX8_rowFrom 25 = .ok (.imul, 1) := by decide +kernel
theorem dX8_rowFrom_26 : decode cX8_rowFrom 26 = .ok (.iadd, 1) := by decide +kernel
theorem dX8_rowFrom_27 : decode cX8_rowFrom 27 = .ok (.aload_n 0, 1) := by decide +kernel
theorem dX8_rowFrom_28 : decode cX8_rowFrom 28 = .ok (.getfield 87, 3) := by decide +kernel
theorem dX8_rowFrom_31 : decode cX8_rowFrom 31 = .ok (.iload 6, 2) := by decide +kernel
theorem dX8_rowFrom_33 : decode cX8_rowFrom 33 = .ok (.imul, 1) := by decide +kernel
theorem dX8_rowFrom_34 : decode cX8_rowFrom 34 = .ok (.iadd, 1) := by decide +kernel
theorem dX8_rowFrom_35 : decode cX8_rowFrom 35 = .ok (.aload_n 0, 1) := by decide +kernel
theorem dX8_rowFrom_36 : decode cX8_rowFrom 36 = .ok (.getfield 87, 3) := by decide +kernel
theorem dX8_rowFrom_39 : decode cX8_rowFrom 39 = .ok (.irem, 1) := by decide +kernel
theorem dX8_rowFrom_40 : decode cX8_rowFrom 40 = .ok (.istore 7, 2) := by decide +kernel
theorem dX8_rowFrom_42 : decode cX8_rowFrom 42 = .ok (.aload_n 0, 1) := by decide +kernel
theorem dX8_rowFrom_43 : decode cX8_rowFrom 43 = .ok (.getfield 17, 3) := by decide +kernel
theorem dX8_rowFrom_46 : decode cX8_rowFrom 46 = .ok (.iload 7, 2) := by decide +kernel
theorem dX8_rowFrom_48 : decode cX8_rowFrom 48 = .ok (.iaload, 1) := by decide +kernel
theorem dX8_rowFrom_49 : decode cX8_rowFrom 49 = .ok (.ifCond .le 32, 3) := by decide +kernel
theorem dX8_rowFrom_52 : decode cX8_rowFrom 52 = .ok (.aload_n 3, 1) := by decide +kernel
theorem dX8_rowFrom_53 : decode cX8_rowFrom 53 = .ok (.iconst 2, 1) := by decide +kernel
theorem dX8_rowFrom_54 : decode cX8_rowFrom 54 = .ok (.iload 4, 2) := by decide +kernel
theorem dX8_rowFrom_56 : decode cX8_rowFrom 56 = .ok (.imul, 1) := by decide +kernel
theorem dX8_rowFrom_57 : decode cX8_rowFrom 57 = .ok (.iload 5, 2) := by decide +kernel
theorem dX8_rowFrom_59 : decode cX8_rowFrom 59 = .ok (.iastore, 1) := by decide +kernel
theorem dX8_rowFrom_60 : decode cX8_rowFrom 60 = .ok (.aload_n 3, 1) := by decide +kernel
theorem dX8_rowFrom_61 : decode cX8_rowFrom 61 = .ok (.iconst 2, 1) := by decide +kernel
theorem dX8_rowFrom_62 : decode cX8_rowFrom 62 = .ok (.iload 4, 2) := by decide +kernel
theorem dX8_rowFrom_64 : decode cX8_rowFrom 64 = .ok (.imul, 1) := by decide +kernel
theorem dX8_rowFrom_65 : decode cX8_rowFrom 65 = .ok (.iconst 1, 1) := by decide +kernel
theorem dX8_rowFrom_66 : decode cX8_rowFrom 66 = .ok (.iadd, 1) := by decide +kernel
theorem dX8_rowFrom_67 : decode cX8_rowFrom 67 = .ok (.aload_n 0, 1) := by decide +kernel
theorem dX8_rowFrom_68 : decode cX8_rowFrom 68 = .ok (.getfield 17, 3) := by decide +kernel
theorem dX8_rowFrom_71 : decode cX8_rowFrom 71 = .ok (.iload 7, 2) := by decide +kernel
theorem dX8_rowFrom_73 : decode cX8_rowFrom 73 = .ok (.iaload, 1) := by decide +kernel
theorem dX8_rowFrom_74 : decode cX8_rowFrom 74 = .ok (.iastore, 1) := by decide +kernel
theorem dX8_rowFrom_75 : decode cX8_rowFrom 75 = .ok (.iinc 4 1, 3) := by decide +kernel
theorem dX8_rowFrom_78 : decode cX8_rowFrom 78 = .ok (.iconst 0, 1) := by decide +kernel
theorem dX8_rowFrom_79 : decode cX8_rowFrom 79 = .ok (.istore 5, 2) := by decide +kernel
theorem dX8_rowFrom_81 : decode cX8_rowFrom 81 = .ok (.iinc 6 1, 3) := by decide +kernel
theorem dX8_rowFrom_84 : decode cX8_rowFrom 84 = .ok (.goto (-75), 3) := by decide +kernel
theorem dX8_rowFrom_87 : decode cX8_rowFrom 87 = .ok (.iload 4, 2) := by decide +kernel
theorem dX8_rowFrom_89 : decode cX8_rowFrom 89 = .ok (.ireturn, 1) := by decide +kernel
theorem dX8_look_0 : decode cX8_look 0 = .ok (.aload_n 0, 1) := by decide +kernel
theorem dX8_look_1 : decode cX8_look 1 = .ok (.iconst 2, 1) := by decide +kernel
theorem dX8_look_2 : decode cX8_look 2 = .ok (.aload_n 0, 1) := by decide +kernel
theorem dX8_look_3 : decode cX8_look 3 = .ok (.iload_n 1, 1) := by decide +kernel
theorem dX8_look_4 : decode cX8_look 4 = .ok (.iconst 1, 1) := by decide +kernel
theorem dX8_look_5 : decode cX8_look 5 = .ok (.aload_n 0, 1) := by decide +kernel
theorem dX8_look_6 : decode cX8_look 6 = .ok (.getfield 23, 3) := by decide +kernel
theorem dX8_look_9 : decode cX8_look 9 = .ok (.invokevirtual 103, 3) := by decide +kernel
theorem dX8_look_12 : decode cX8_look 12 = .ok (.imul, 1) := by decide +kernel
theorem dX8_look_13 : decode cX8_look 13 = .ok (.putfield 107, 3) := by decide +kernel
theorem dX8_look_16 : decode cX8_look 16 = .ok (.aload_n 0, 1) := by decide +kernel
theorem dX8_look_17 : decode cX8_look 17 = .ok (.iload_n 1, 1) := by decide +kernel
theorem dX8_look_18 : decode cX8_look 18 = .ok (.iconst (-1), 1) := by decide +kernel
theorem dX8_look_19 : decode cX8_look 19 = .ok (.aload_n 0, 1) := by decide +kernel
theorem dX8_look_20 : decode cX8_look 20 = .ok (.getfield 26, 3) := by decide +kernel
theorem dX8_look_23 : decode cX8_look 23 = .ok (.invokevirtual 103, 3) := by decide +kernel
theorem dX8_look_26 : decode cX8_look 26 = .ok (.istore_n 2, 1) := by decide +kernel
theorem dX8_look_27 : decode cX8_look 27 = .ok (.iconst 0, 1) := by decide +kernel
theorem dX8_look_28 : decode cX8_look 28 = .ok (.istore_n 3, 1) := by decide +kernel
theorem dX8_look_29 : decode cX8_look 29 = .ok (.iconst 0, 1) := by decide +kernel
theorem dX8_look_30 : decode cX8_look 30 = .ok (.istore 4, 2) := by decide +kernel
theorem dX8_look_32 : decode cX8_look 32 = .ok (.iload 4, 2) := by decide +kernel
theorem dX8_look_34 : decode cX8_look 34 = .ok (.aload_n 0, 1) := by decide +kernel
theorem dX8_look_35 : decode cX8_look 35 = .ok (.getfield 107, 3) := by decide +kernel
theorem dX8_look_38 : decode cX8_look 38 = .ok (.if_icmp .ge 57, 3) := by decide +kernel
theorem dX8_look_41 : decode cX8_look 41 = .ok (.iload_n 3, 1) := by decide +kernel
theorem dX8_look_42 : decode cX8_look 42 = .ok (.ifCond .ne 53, 3) := by decide +kernel
theorem dX8_look_45 : decode cX8_look 45 = .ok (.aload_n 0, 1) := by decide +kernel
theorem dX8_look_46 : decode cX8_look 46 = .ok (.getfield 23, 3) := by decide +kernel
theorem dX8_look_49 : decode cX8_look 49 = .ok (.iload 4, 2) := by decide +kernel
theorem dX8_look_51 : decode cX8_look 51 = .ok (.iaload, 1) := by decide +kernel
theorem dX8_look_52 : decode cX8_look 52 = .ok (.aload_n 0, 1) := by decide +kernel
theorem dX8_look_53 : decode cX8_look 53 = .ok (.getfield 26, 3) := by decide +kernel
theorem dX8_look_56 : decode cX8_look 56 = .ok (.iload 4, 2) := by decide +kernel
theorem dX8_look_58 : decode cX8_look 58 = .ok (.iaload, 1) := by decide +kernel
theorem dX8_look_59 : decode cX8_look 59 = .ok (.if_icmp .ge 7, 3) := by decide +kernel
theorem dX8_look_62 : decode cX8_look 62 = .ok (.iconst 1, 1) := by decide +kernel
theorem dX8_look_63 : decode cX8_look 63 = .ok (.goto 25, 3) := by decide +kernel
theorem dX8_look_66 : decode cX8_look 66 = .ok (.aload_n 0, 1) := by decide +kernel
theorem dX8_look_67 : decode cX8_look 67 = .ok (.getfield 23, 3) := by decide +kernel
theorem dX8_look_70 : decode cX8_look 70 = .ok (.iload 4, 2) := by decide +kernel
theorem dX8_look_72 : decode cX8_look 72 = .ok (.iaload, 1) := by decide +kernel
theorem dX8_look_73 : decode cX8_look 73 = .ok (.aload_n 0, 1) := by decide +kernel
theorem dX8_look_74 : decode cX8_look 74 = .ok (.getfield 26, 3) := by decide +kernel
theorem dX8_look_77 : decode cX8_look 77 = .ok (.iload 4, 2) := by decide +kernel
theorem dX8_look_79 : decode cX8_look 79 = .ok (.iaload, 1) := by decide +kernel
theorem dX8_look_80 : decode cX8_look 80 = .ok (.if_icmp .le 7, 3) := by decide +kernel
theorem dX8_look_83 : decode cX8_look 83 = .ok (.iconst (-1), 1) := by decide +kernel
theorem dX8_look_84 : decode cX8_look 84 = .ok (.goto 4, 3) := by decide +kernel
theorem dX8_look_87 : decode cX8_look 87 = .ok (.iconst 0, 1) := by decide +kernel
theorem dX8_look_88 : decode cX8_look 88 = .ok (.istore_n 3, 1) := by decide +kernel
theorem dX8_look_89 : decode cX8_look 89 = .ok (.iinc 4 1, 3) := by decide +kernel
theorem dX8_look_92 : decode cX8_look 92 = .ok (.goto (-60), 3) := by decide +kernel
theorem dX8_look_95 : decode cX8_look 95 = .ok (.iconst 0, 1) := by decide +kernel
theorem dX8_look_96 : decode cX8_look 96 = .ok (.istore 4, 2) := by decide +kernel
theorem dX8_look_98 : decode cX8_look 98 = .ok (.iload 4, 2) := by decide +kernel
theorem dX8_look_100 : decode cX8_look 100 = .ok (.aload_n 0, 1) := by decide +kernel
theorem dX8_look_101 : decode cX8_look 101 = .ok (.getfield 107, 3) := by decide +kernel
theorem dX8_look_104 : decode cX8_look 104 = .ok (.if_icmp .ge 37, 3) := by decide +kernel
theorem dX8_look_107 : decode cX8_look 107 = .ok (.aload_n 0, 1) := by decide +kernel
theorem dX8_look_108 : decode cX8_look 108 = .ok (.getfield 20, 3) := by decide +kernel
theorem dX8_look_111 : decode cX8_look 111 = .ok (.iload 4, 2) := by decide +kernel
theorem dX8_look_113 : decode cX8_look 113 = .ok (.iload_n 3, 1) := by decide +kernel
theorem dX8_look_114 : decode cX8_look 114 = .ok (.ifCond .ge 13, 3) := by decide +kernel
theorem dX8_look_117 : decode cX8_look 117 = .ok (.aload_n 0, 1) := by decide +kernel
theorem dX8_look_118 : decode cX8_look 118 = .ok (.getfield 26, 3) := by decide +kernel
theorem dX8_look_121 : decode cX8_look 121 = .ok (.iload 4, 2) := by decide +kernel
theorem dX8_look_123 : decode cX8_look 123 = .ok (.iaload, 1) := by decide +kernel
theorem dX8_look_124 : decode cX8_look 124 = .ok (.goto 10, 3) := by decide +kernel
theorem dX8_look_127 : decode cX8_look 127 = .ok (.aload_n 0, 1) := by decide +kernel
theorem dX8_look_128 : decode cX8_look 128 = .ok (.getfield 23, 3) := by decide +kernel
theorem dX8_look_131 : decode cX8_look 131 = .ok (.iload 4, 2) := by decide +kernel
theorem dX8_look_133 : decode cX8_look 133 = .ok (.iaload, 1) := by decide +kernel
theorem dX8_look_134 : decode cX8_look 134 = .ok (.iastore, 1) := by decide +kernel
theorem dX8_look_135 : decode cX8_look 135 = .ok (.iinc 4 1, 3) := by decide +kernel
theorem dX8_look_138 : decode cX8_look 138 = .ok (.goto (-40), 3) := by decide +kernel
theorem dX8_look_141 : decode cX8_look 141 = .ok (.iload_n 3, 1) := by decide +kernel
theorem dX8_look_142 : decode cX8_look 142 = .ok (.ireturn, 1) := by decide +kernel
theorem dX8_view_0 : decode cX8_view 0 = .ok (.aload_n 0, 1) := by decide +kernel
theorem dX8_view_1 : decode cX8_view 1 = .ok (.iconst 0, 1) := by decide +kernel
theorem dX8_view_2 : decode cX8_view 2 = .ok (.putfield 1, 3) := by decide +kernel
theorem dX8_view_5 : decode cX8_view 5 = .ok (.aload_n 0, 1) := by decide +kernel
theorem dX8_view_6 : decode cX8_view 6 = .ok (.iload_n 1, 1) := by decide +kernel
theorem dX8_view_7 : decode cX8_view 7 = .ok (.invokevirtual 94, 3) := by decide +kernel
theorem dX8_view_10 : decode cX8_view 10 = .ok (.ifCond .ne 6, 3) := by decide +kernel
theorem dX8_view_13 : decode cX8_view 13 = .ok (.ldc 98, 2) := by decide +kernel
theorem dX8_view_15 : decode cX8_view 15 = .ok (.ireturn, 1) := by decide +kernel
theorem dX8_view_16 : decode cX8_view 16 = .ok (.aload_n 0, 1) := by decide +kernel
theorem dX8_view_17 : decode cX8_view 17 = .ok (.getfield 13, 3) := by decide +kernel
theorem dX8_view_20 : decode cX8_view 20 = .ok (.iload_n 1, 1) := by decide +kernel
theorem dX8_view_21 : decode cX8_view 21 = .ok (.iaload, 1) := by decide +kernel
theorem dX8_view_22 : decode cX8_view 22 = .ok (.ifCond .ne 6, 3) := by decide +kernel
theorem dX8_view_25 : decode cX8_view 25 = .ok (.ldc 110, 2) := by decide +kernel
theorem dX8_view_27 : decode cX8_view 27 = .ok (.ireturn, 1) := by decide +kernel
theorem dX8_view_28 : decode cX8_view 28 = .ok (.aload_n 0, 1) := by decide +kernel
theorem dX8_view_29 : decode cX8_view 29 = .ok (.invokevirtual 111, 3) := by decide +kernel
theorem dX8_view_32 : decode cX8_view 32 = .ok (.aload_n 0, 1) := by decide +kernel
theorem dX8_view_33 : decode cX8_view 33 = .ok (.iload_n 1, 1) := by decide +kernel
theorem dX8_view_34 : decode cX8_view 34 = .ok (.invokevirtual 114, 3) := by decide +kernel
theorem dX8_view_37 : decode cX8_view 37 = .ok (.istore_n 3, 1) := by decide +kernel
theorem dX8_view_38 : decode cX8_view 38 = .ok (.iload_n 2, 1) := by decide +kernel
theorem dX8_view_39 : decode cX8_view 39 = .ok (.i2l, 1) := by decide +kernel
theorem dX8_view_40 : decode cX8_view 40 = .ok (.lconst 0, 1) := by decide +kernel
theorem dX8_view_41 : decode cX8_view 41 = .ok (.aload_n 0, 1) := by decide +kernel
theorem dX8_view_42 : decode cX8_view 42 = .ok (.getfield 107, 3) := by decide +kernel
theorem dX8_view_45 : decode cX8_view 45 = .ok (.iconst 1, 1) := by decide +kernel
theorem dX8_view_46 : decode cX8_view 46 = .ok (.isub, 1) := by decide +kernel
theorem dX8_view_47 : decode cX8_view 47 = .ok (.i2l, 1) := by decide +kernel
theorem dX8_view_48 : decode cX8_view 48 = .ok (.invokestatic 90, 3) := by decide +kernel
theorem dX8_view_51 : decode cX8_view 51 = .ok (.ifCond .eq 12, 3) := by decide +kernel
theorem dX8_view_54 : decode cX8_view 54 = .ok (.aload_n 0, 1) := by decide +kernel
theorem dX8_view_55 : decode cX8_view 55 = .ok (.getfield 20, 3) := by decide +kernel
theorem dX8_view_58 : decode cX8_view 58 = .ok (.iload_n 2, 1) := by decide +kernel
theorem dX8_view_59 : decode cX8_view 59 = .ok (.iaload, 1) := by decide +kernel
theorem dX8_view_60 : decode cX8_view 60 = .ok (.goto 5, 3) := by decide +kernel
theorem dX8_view_63 : decode cX8_view 63 = .ok (.ldc 110, 2) := by decide +kernel
theorem dX8_view_65 : decode cX8_view 65 = .ok (.ireturn, 1) := by decide +kernel
theorem dX8_doing_0 : decode cX8_doing 0 = .ok (.aload_n 0, 1) := by decide +kernel
theorem dX8_doing_1 : decode cX8_doing 1 = .ok (.iload_n 1, 1) := by decide +kernel
theorem dX8_doing_2 : decode cX8_doing 2 = .ok (.invokevirtual 114, 3) := by decide +kernel
theorem dX8_doing_5 : decode cX8_doing 5 = .ok (.istore_n 2, 1) := by decide +kernel
theorem dX8_doing_6 : decode cX8_doing 6 = .ok (.ldc 110, 2) := by decide +kernel
theorem dX8_doing_8 : decode cX8_doing 8 = .ok (.istore_n 3, 1) := by decide +kernel
theorem dX8_doing_9 : decode cX8_doing 9 = .ok (.iconst 0, 1) := by decide +kernel
theorem dX8_doing_10 : decode cX8_doing 10 = .ok (.istore 4, 2) := by decide +kernel
theorem dX8_doing_12 : decode cX8_doing 12 = .ok (.iload 4, 2) := by decide +kernel
theorem dX8_doing_14 : decode cX8_doing 14 = .ok (.aload_n 0, 1) := by decide +kernel
theorem dX8_doing_15 : decode cX8_doing 15 = .ok (.getfield 118, 3) := by decide +kernel
theorem dX8_doing_18 : decode cX8_doing 18 = .ok (.if_icmp .ge 95, 3) := by decide +kernel
theorem dX8_doing_21 : decode cX8_doing 21 = .ok (.aload_n 0, 1) := by decide +kernel
theorem dX8_doing_22 : decode cX8_doing 22 = .ok (.getfield 29, 3) := by decide +kernel
theorem dX8_doing_25 : decode cX8_doing 25 = .ok (.iload 4, 2) := by decide +kernel
theorem dX8_doing_27 : decode cX8_doing 27 = .ok (.iaload, 1) := by decide +kernel
theorem dX8_doing_28 : decode cX8_doing 28 = .ok (.aload_n 0, 1) := by decide +kernel
theorem dX8_doing_29 : decode cX8_doing 29 = .ok (.getfield 107, 3) := by decide +kernel
theorem dX8_doing_32 : decode cX8_doing 32 = .ok (.if_icmp .ne 7, 3) := by decide +kernel
theorem dX8_doing_35 : decode cX8_doing 35 = .ok (.iconst 1, 1) := by decide +kernel
theorem dX8_doing_36 : decode cX8_doing 36 = .ok (.goto 4, 3) := by decide +kernel
theorem dX8_doing_39 : decode cX8_doing 39 = .ok (.iconst 0, 1) := by decide +kernel
theorem dX8_doing_40 : decode cX8_doing 40 = .ok (.istore 5, 2) := by decide +kernel
theorem dX8_doing_42 : decode cX8_doing 42 = .ok (.iconst 0, 1) := by decide +kernel
theorem dX8_doing_43 : decode cX8_doing 43 = .ok (.istore 6, 2) := by decide +kernel
theorem dX8_doing_45 : decode cX8_doing 45 = .ok (.iload 6, 2) := by decide +kernel
theorem dX8_doing_47 : decode cX8_doing 47 = .ok (.aload_n 0, 1) := by decide +kernel
theorem dX8_doing_48 : decode cX8_doing 48 = .ok (.getfield 107, 3) := by decide +kernel
theorem dX8_doing_51 : decode cX8_doing 51 = .ok (.if_icmp .ge 44, 3) := by decide +kernel
theorem dX8_doing_54 : decode cX8_doing 54 = .ok (.iload 5, 2) := by decide +kernel
theorem dX8_doing_56 : decode cX8_doing 56 = .ok (.ifCond .eq 30, 3) := by decide +kernel
theorem dX8_doing_59 : decode cX8_doing 59 = .ok (.aload_n 0, 1) := by decide +kernel
theorem dX8_doing_60 : decode cX8_doing 60 = .ok (.getfield 32, 3) := by decide +kernel
theorem dX8_doing_63 : decode cX8_doing 63 = .ok (.bipush 8, 2) := by decide +kernel
theorem dX8_doing_65 : decode cX8_doing 65 = .ok (.iload 4, 2) := by decide +kernel
theorem dX8_doing_67 : decode cX8_doing 67 = .ok (.imul, 1) := by decide +kernel
theorem dX8_doing_68 : decode cX8_doing 68 = .ok (.iload 6, 2) := by decide +kernel
theorem dX8_doing_70 : decode cX8_doing 70 = .ok (.iadd, 1) := by decide +kernel
theorem dX8_doing_71 : decode cX8_doing 71 = .ok (.iaload, 1) := by decide +kernel
theorem dX8_doing_72 : decode cX8_doing 72 = .ok (.aload_n 0, 1) := by decide +kernel
theorem dX8_doing_73 : decode cX8_doing 73 = .ok (.getfield 20, 3) := by decide +kernel
theorem dX8_doing_76 : decode cX8_doing 76 = .ok (.iload 6, 2) := by decide +kernel
theorem dX8_doing_78 : decode cX8_doing 78 = .ok (.iaload, 1) := by decide +kernel
theorem dX8_doing_79 : decode cX8_doing 79 = .ok (.if_icmp .ne 7, 3) := by decide +kernel
theorem dX8_doing_82 : decode cX8_doing 82 = .ok (.iconst 1, 1) := by decide +kernel
theorem dX8_doing_83 : decode cX8_doing 83 = .ok (.goto 4, 3) := by decide +kernel
theorem dX8_doing_86 : decode cX8_doing 86 = .ok (.iconst 0, 1) := by decide +kernel
theorem dX8_doing_87 : decode cX8_doing 87 = .ok (.istore 5, 2) := by decide +kernel
theorem dX8_doing_89 : decode cX8_doing 89 = .ok (.iinc 6 1, 3) := by decide +kernel
theorem dX8_doing_92 : decode cX8_doing 92 = .ok (.goto (-47), 3) := by decide +kernel
theorem dX8_doing_95 : decode cX8_doing 95 = .ok (.iload 5, 2) := by decide +kernel
theorem dX8_doing_97 : decode cX8_doing 97 = .ok (.ifCond .eq 8, 3) := by decide +kernel
theorem dX8_doing_100 : decode cX8_doing 100 = .ok (.iload 4, 2) := by decide +kernel
theorem dX8_doing_102 : decode cX8_doing 102 = .ok (.goto 4, 3) := by decide +kernel
theorem dX8_doing_105 : decode cX8_doing 105 = .ok (.iload_n 3, 1) := by decide +kernel
theorem dX8_doing_106 : decode cX8_doing 106 = .ok (.istore_n 3, 1) := by decide +kernel
theorem dX8_doing_107 : decode cX8_doing 107 = .ok (.iinc 4 1, 3) := by decide +kernel
theorem dX8_doing_110 : decode cX8_doing 110 = .ok (.goto (-98), 3) := by decide +kernel
theorem dX8_doing_113 : decode cX8_doing 113 = .ok (.iload_n 3, 1) := by decide +kernel
theorem dX8_doing_114 : decode cX8_doing 114 = .ok (.ldc 110, 2) := by decide +kernel
theorem dX8_doing_116 : decode cX8_doing 116 = .ok (.if_icmp .eq 12, 3) := by decide +kernel
theorem dX8_doing_119 : decode cX8_doing 119 = .ok (.aload_n 0, 1) := by decide +kernel
theorem dX8_doing_120 : decode cX8_doing 120 = .ok (.getfield 35, 3) := by decide +kernel
theorem dX8_doing_123 : decode cX8_doing 123 = .ok (.iload_n 3, 1) := by decide +kernel
theorem dX8_doing_124 : decode cX8_doing 124 = .ok (.iaload, 1) := by decide +kernel
theorem dX8_doing_125 : decode cX8_doing 125 = .ok (.ifCond .ne 5, 3) := by decide +kernel
theorem dX8_doing_128 : decode cX8_doing 128 = .ok (.iconst 0, 1) := by decide +kernel
theorem dX8_doing_129 : decode cX8_doing 129 = .ok (.ireturn, 1) := by decide +kernel
theorem dX8_doing_130 : decode cX8_doing 130 = .ok (.iload_n 2, 1) := by decide +kernel
theorem dX8_doing_131 : decode cX8_doing 131 = .ok (.ifCond .ne 7, 3) := by decide +kernel
theorem dX8_doing_134 : decode cX8_doing 134 = .ok (.iconst 2, 1) := by decide +kernel
theorem dX8_doing_135 : decode cX8_doing 135 = .ok (.goto 19, 3) := by decide +kernel
theorem dX8_doing_138 : decode cX8_doing 138 = .ok (.aload_n 0, 1) := by decide +kernel
theorem dX8_doing_139 : decode cX8_doing 139 = .ok (.getfield 35, 3) := by decide +kernel
theorem dX8_doing_142 : decode cX8_doing 142 = .ok (.iload_n 3, 1) := by decide +kernel
theorem dX8_doing_143 : decode cX8_doing 143 = .ok (.iaload, 1) := by decide +kernel
theorem dX8_doing_144 : decode cX8_doing 144 = .ok (.iconst 1, 1) := by decide +kernel
theorem dX8_doing_145 : decode cX8_doing 145 = .ok (.if_icmp .ne 7, 3) := by decide +kernel
theorem dX8_doing_148 : decode cX8_doing 148 = .ok (.iload_n 2, 1) := by decide +kernel
theorem dX8_doing_149 : decode cX8_doing 149 = .ok (.goto 5, 3) := by decide +kernel
theorem dX8_doing_152 : decode cX8_doing 152 = .ok (.iload_n 2, 1) := by decide +kernel
theorem dX8_doing_153 : decode cX8_doing 153 = .ok (.ineg, 1) := by decide +kernel
theorem dX8_doing_154 : decode cX8_doing 154 = .ok (.ireturn, 1) := by decide +kernel
theorem dX8_does_0 : decode cX8_does 0 = .ok (.aload_n 0, 1) := by decide +kernel
theorem dX8_does_1 : decode cX8_does 1 = .ok (.iconst 0, 1) := by decide +kernel
theorem dX8_does_2 : decode cX8_does 2 = .ok (.putfield 1, 3) := by decide +kernel
theorem dX8_does_5 : decode cX8_does 5 = .ok (.aload_n 0, 1) := by decide +kernel
theorem dX8_does_6 : decode cX8_does 6 = .ok (.iload_n 1, 1) := by decide +kernel
theorem dX8_does_7 : decode cX8_does 7 = .ok (.invokevirtual 94, 3) := by decide +kernel
theorem dX8_does_10 : decode cX8_does 10 = .ok (.ifCond .ne 6, 3) := by decide +kernel
theorem dX8_does_13 : decode cX8_does 13 = .ok (.ldc 98, 2) := by decide +kernel
theorem dX8_does_15 : decode cX8_does 15 = .ok (.ireturn, 1) := by decide +kernel
theorem dX8_does_16 : decode cX8_does 16 = .ok (.aload_n 0, 1) := by decide +kernel
theorem dX8_does_17 : decode cX8_does 17 = .ok (.invokevirtual 111, 3) := by decide +kernel
theorem dX8_does_20 : decode cX8_does 20 = .ok (.aload_n 0, 1) := by decide +kernel
theorem dX8_does_21 : decode cX8_does 21 = .ok (.getfield 13, 3) := by decide +kernel
theorem dX8_does_24 : decode cX8_does 24 = .ok (.iload_n 1, 1) := by decide +kernel
theorem dX8_does_25 : decode cX8_does 25 = .ok (.iaload, 1) := by decide +kernel
theorem dX8_does_26 : decode cX8_does 26 = .ok (.ifCond .ne 8, 3) := by decide +kernel
theorem dX8_does_29 : decode cX8_does 29 = .ok (.ldc 110, 2) := by decide +kernel
theorem dX8_does_31 : decode cX8_does 31 = .ok (.goto 8, 3) := by decide +kernel
theorem dX8_does_34 : decode cX8_does 34 = .ok (.aload_n 0, 1) := by decide +kernel
theorem dX8_does_35 : decode cX8_does 35 = .ok (.iload_n 1, 1) := by decide +kernel
theorem dX8_does_36 : decode cX8_does 36 = .ok (.invokevirtual 121, 3) := by decide +kernel
theorem dX8_does_39 : decode cX8_does 39 = .ok (.ireturn, 1) := by decide +kernel
theorem dX8_seen_0 : decode cX8_seen 0 = .ok (.aload_n 0, 1) := by decide +kernel
theorem dX8_seen_1 : decode cX8_seen 1 = .ok (.getfield 17, 3) := by decide +kernel
theorem dX8_seen_4 : decode cX8_seen 4 = .ok (.iload_n 1, 1) := by decide +kernel
theorem dX8_seen_5 : decode cX8_seen 5 = .ok (.ifCond .ne 14, 3) := by decide +kernel
theorem dX8_seen_8 : decode cX8_seen 8 = .ok (.iload_n 3, 1) := by decide +kernel
theorem dX8_seen_9 : decode cX8_seen 9 = .ok (.iload_n 2, 1) := by decide +kernel
theorem dX8_seen_10 : decode cX8_seen 10 = .ok (.iadd, 1) := by decide +kernel
theorem dX8_seen_11 : decode cX8_seen 11 = .ok (.aload_n 0, 1) := by decide +kernel
theorem dX8_seen_12 : decode cX8_seen 12 = .ok (.getfield 87, 3) := by decide +kernel
theorem dX8_seen_15 : decode cX8_seen 15 = .ok (.irem, 1) := by decide +kernel
theorem dX8_seen_16 : decode cX8_seen 16 = .ok (.goto 16, 3) := by decide +kernel
theorem dX8_seen_19 : decode cX8_seen 19 = .ok (.iload_n 2, 1) := by decide +kernel
theorem dX8_seen_20 : decode cX8_seen 20 = .ok (.iload_n 3, 1) := by decide +kernel
theorem dX8_seen_21 : decode cX8_seen 21 = .ok (.isub, 1) := by decide +kernel
theorem dX8_seen_22 : decode cX8_seen 22 = .ok (.aload_n 0, 1) := by decide +kernel
theorem dX8_seen_23 : decode cX8_seen 23 = .ok (.getfield 87, 3) := by decide +kernel
theorem dX8_seen_26 : decode cX8_seen 26 = .ok (.iadd, 1) := by decide +kernel
theorem dX8_seen_27 : decode cX8_seen 27 = .ok (.aload_n 0, 1) := by decide +kernel
theorem dX8_seen_28 : decode cX8_seen 28 = .ok (.getfield 87, 3) := by decide +kernel
theorem dX8_seen_31 : decode cX8_seen 31 = .ok (.irem, 1) := by decide +kernel
theorem dX8_seen_32 : decode cX8_seen 32 = .ok (.iaload, 1) := by decide +kernel
theorem dX8_seen_33 : decode cX8_seen 33 = .ok (.ireturn, 1) := by decide +kernel
theorem dX8_findName_0 : decode cX8_findName 0 = .ok (.iconst 0, 1) := by decide +kernel
theorem dX8_findName_1 : decode cX8_findName 1 = .ok (.istore_n 1, 1) := by decide +kernel
theorem dX8_findName_2 : decode cX8_findName 2 = .ok (.iload_n 1, 1) := by decide +kernel
theorem dX8_findName_3 : decode cX8_findName 3 = .ok (.bipush 9, 2) := by decide +kernel
theorem dX8_findName_5 : decode cX8_findName 5 = .ok (.if_icmp .ge 33, 3) := by decide +kernel
theorem dX8_findName_8 : decode cX8_findName 8 = .ok (.aload_n 0, 1) := by decide +kernel
theorem dX8_findName_9 : decode cX8_findName 9 = .ok (.getfield 38, 3) := by decide +kernel
theorem dX8_findName_12 : decode cX8_findName 12 = .ok (.iload_n 1, 1) := by decide +kernel
theorem dX8_findName_13 : decode cX8_findName 13 = .ok (.iload_n 1, 1) := by decide +kernel
theorem dX8_findName_14 : decode cX8_findName 14 = .ok (.aload_n 0, 1) := by decide +kernel
theorem dX8_findName_15 : decode cX8_findName 15 = .ok (.getfield 87, 3) := by decide +kernel
theorem dX8_findName_18 : decode cX8_findName 18 = .ok (.if_icmp .ge 12, 3) := by decide +kernel
theorem dX8_findName_21 : decode cX8_findName 21 = .ok (.aload_n 0, 1) := by decide +kernel
theorem dX8_findName_22 : decode cX8_findName 22 = .ok (.getfield 17, 3) := by decide +kernel
theorem dX8_findName_25 : decode cX8_findName 25 = .ok (.iload_n 1, 1) := by decide +kernel
theorem dX8_findName_26 : decode cX8_findName 26 = .ok (.iaload, 1) := by decide +kernel
theorem dX8_findName_27 : decode cX8_findName 27 = .ok (.goto 4, 3) := by decide +kernel
theorem dX8_findName_30 : decode cX8_findName 30 = .ok (.iconst 0, 1) := by decide +kernel
theorem dX8_findName_31 : decode cX8_findName 31 = .ok (.iastore, 1) := by decide +kernel
theorem dX8_findName_32 : decode cX8_findName 32 = .ok (.iinc 1 1, 3) := by decide +kernel
theorem dX8_findName_35 : decode cX8_findName 35 = .ok (.goto (-33), 3) := by decide +kernel
theorem dX8_findName_38 : decode cX8_findName 38 = .ok (.iconst 0, 1) := by decide +kernel
theorem dX8_findName_39 : decode cX8_findName 39 = .ok (.istore_n 1, 1) := by decide +kernel
theorem dX8_findName_40 : decode cX8_findName 40 = .ok (.iload_n 1, 1) := by decide +kernel
theorem dX8_findName_41 : decode cX8_findName 41 = .ok (.iconst 2, 1) := by decide +kernel
theorem dX8_findName_42 : decode cX8_findName 42 = .ok (.if_icmp .ge 103, 3) := by decide +kernel
theorem dX8_findName_45 : decode cX8_findName 45 = .ok (.iconst 0, 1) := by decide +kernel
theorem dX8_findName_46 : decode cX8_findName 46 = .ok (.istore_n 2, 1) := by decide +kernel
theorem dX8_findName_47 : decode cX8_findName 47 = .ok (.iload_n 2, 1) := by decide +kernel
theorem dX8_findName_48 : decode cX8_findName 48 = .ok (.aload_n 0, 1) := by decide +kernel
theorem dX8_findName_49 : decode cX8_findName 49 = .ok (.getfield 87, 3) := by decide +kernel
theorem dX8_findName_52 : decode cX8_findName 52 = .ok (.if_icmp .ge 87, 3) := by decide +kernel
theorem dX8_findName_55 : decode cX8_findName 55 = .ok (.iconst 0, 1) := by decide +kernel
theorem dX8_findName_56 : decode cX8_findName 56 = .ok (.istore_n 3, 1) := by decide +kernel
theorem dX8_findName_57 : decode cX8_findName 57 = .ok (.iconst 0, 1) := by decide +kernel
theorem dX8_findName_58 : decode cX8_findName 58 = .ok (.istore 4, 2) := by decide +kernel
theorem dX8_findName_60 : decode cX8_findName 60 = .ok (.iload 4, 2) := by decide +kernel
theorem dX8_findName_62 : decode cX8_findName 62 = .ok (.aload_n 0, 1) := by decide +kernel
theorem dX8_findName_63 : decode cX8_findName 63 = .ok (.getfield 87, 3) := by decide +kernel
theorem dX8_findName_66 : decode cX8_findName 66 = .ok (.if_icmp .ge 30, 3) := by decide +kernel
theorem dX8_findName_69 : decode cX8_findName 69 = .ok (.iload_n 3, 1) := by decide +kernel
theorem dX8_findName_70 : decode cX8_findName 70 = .ok (.ifCond .ne 26, 3) := by decide +kernel
theorem dX8_findName_73 : decode cX8_findName 73 = .ok (.aload_n 0, 1) := by decide +kernel
theorem dX8_findName_74 : decode cX8_findName 74 = .ok (.iload_n 1, 1) := by decide +kernel
theorem dX8_findName_75 : decode cX8_findName 75 = .ok (.iload_n 2, 1) := by decide +kernel
theorem dX8_findName_76 : decode cX8_findName 76 = .ok (.iload 4, 2) := by decide +kernel
theorem dX8_findName_78 : decode cX8_findName 78 = .ok (.invokevirtual 124, 3) := by decide +kernel
theorem dX8_findName_81 : decode cX8_findName 81 = .ok (.aload_n 0, 1) := by decide +kernel
theorem dX8_findName_82 : decode cX8_findName 82 = .ok (.getfield 38, 3) := by decide +kernel
theorem dX8_findName_85 : decode cX8_findName 85 = .ok (.iload 4, 2) := by decide +kernel
theorem dX8_findName_87 : decode cX8_findName 87 = .ok (.iaload, 1) := by decide +kernel
theorem dX8_findName_88 : decode cX8_findName 88 = .ok (.isub, 1) := by decide +kernel
theorem dX8_findName_89 : decode cX8_findName 89 = .ok (.istore_n 3, 1) := by decide +kernel
theorem dX8_findName_90 : decode cX8_findName 90 = .ok (.iinc 4 1, 3) := by decide +kernel
theorem dX8_findName_93 : decode cX8_findName 93 = .ok (.goto (-33), 3) := by decide +kernel
theorem dX8_findName_96 : decode cX8_findName 96 = .ok (.iconst 0, 1) := by decide +kernel
theorem dX8_findName_97 : decode cX8_findName 97 = .ok (.istore 4, 2) := by decide +kernel
theorem dX8_findName_99 : decode cX8_findName 99 = .ok (.iload 4, 2) := by decide +kernel
theorem dX8_findName_101 : decode cX8_findName 101 = .ok (.aload_n 0, 1) := by decide +kernel
theorem dX8_findName_102 : decode cX8_findName 102 = .ok (.getfield 87, 3) := by decide +kernel
theorem dX8_findName_105 : decode cX8_findName 105 = .ok (.if_icmp .ge 28, 3) := by decide +kernel
theorem dX8_findName_108 : decode cX8_findName 108 = .ok (.iload_n 3, 1) := by decide +kernel
theorem dX8_findName_109 : decode cX8_findName 109 = .ok (.ifCond .le 24, 3) := by decide +kernel
theorem dX8_findName_112 : decode cX8_findName 112 = .ok (.aload_n 0, 1) := by decide +kernel
theorem dX8_findName_113 : decode cX8_findName 113 = .ok (.getfield 38, 3) := by decide +kernel
theorem dX8_findName_116 : decode cX8_findName 116 = .ok (.iload 4, 2) := by decide +kernel
theorem dX8_findName_118 : decode cX8_findName 118 = .ok (.aload_n 0, 1) := by decide +kernel
theorem dX8_findName_119 : decode cX8_findName 119 = .ok (.iload_n 1, 1) := by decide +kernel
theorem dX8_findName_120 : decode cX8_findName 120 = .ok (.iload_n 2, 1) := by decide +kernel
theorem dX8_findName_121 : decode cX8_findName 121 = .ok (.iload 4, 2) := by decide +kernel
theorem dX8_findName_123 : decode cX8_findName 123 = .ok (.invokevirtual 124, 3) := by decide +kernel
theorem dX8_findName_126 : decode cX8_findName 126 = .ok (.iastore, 1) := by decide +kernel
theorem dX8_findName_127 : decode cX8_findName 127 = .ok (.iinc 4 1, 3) := by decide +kernel
theorem dX8_findName_130 : decode cX8_findName 130 = .ok (.goto (-31), 3) := by decide +kernel
theorem dX8_findName_133 : decode cX8_findName 133 = .ok (.iinc 2 1, 3) := by decide +kernel
theorem dX8_findName_136 : decode cX8_findName 136 = .ok (.goto (-89), 3) := by decide +kernel
theorem dX8_findName_139 : decode cX8_findName 139 = .ok (.iinc 1 1, 3) := by decide +kernel
theorem dX8_findName_142 : decode cX8_findName 142 = .ok (.goto (-102), 3) := by decide +kernel
theorem dX8_findName_145 : decode cX8_findName 145 = .ok (.return_, 1) := by decide +kernel
theorem dX8_same_0 : decode cX8_same 0 = .ok (.iconst 0, 1) := by decide +kernel
theorem dX8_same_1 : decode cX8_same 1 = .ok (.istore_n 2, 1) := by decide +kernel
theorem dX8_same_2 : decode cX8_same 2 = .ok (.iconst 0, 1) := by decide +kernel
theorem dX8_same_3 : decode cX8_same 3 = .ok (.istore_n 3, 1) := by decide +kernel
theorem dX8_same_4 : decode cX8_same 4 = .ok (.iload_n 3, 1) := by decide +kernel
theorem dX8_same_5 : decode cX8_same 5 = .ok (.aload_n 0, 1) := by decide +kernel
theorem dX8_same_6 : decode cX8_same 6 = .ok (.getfield 87, 3) := by decide +kernel
theorem dX8_same_9 : decode cX8_same 9 = .ok (.if_icmp .ge 73, 3) := by decide +kernel
theorem dX8_same_12 : decode cX8_same 12 = .ok (.iconst 1, 1) := by decide +kernel
theorem dX8_same_13 : decode cX8_same 13 = .ok (.istore 4, 2) := by decide +kernel
theorem dX8_same_15 : decode cX8_same 15 = .ok (.iconst 0, 1) := by decide +kernel
theorem dX8_same_16 : decode cX8_same 16 = .ok (.istore 5, 2) := by decide +kernel
theorem dX8_same_18 : decode cX8_same 18 = .ok (.iload 5, 2) := by decide +kernel
theorem dX8_same_20 : decode cX8_same 20 = .ok (.aload_n 0, 1) := by decide +kernel
theorem dX8_same_21 : decode cX8_same 21 = .ok (.getfield 87, 3) := by decide +kernel
theorem dX8_same_24 : decode cX8_same 24 = .ok (.if_icmp .ge 39, 3) := by decide +kernel
theorem dX8_same_27 : decode cX8_same 27 = .ok (.iload 4, 2) := by decide +kernel
theorem dX8_same_29 : decode cX8_same 29 = .ok (.ifCond .eq 25, 3) := by decide +kernel
theorem dX8_same_32 : decode cX8_same 32 = .ok (.aload_n 0, 1) := by decide +kernel
theorem dX8_same_33 : decode cX8_same 33 = .ok (.iload_n 1, 1) := by decide +kernel
theorem dX8_same_34 : decode cX8_same 34 = .ok (.iload_n 3, 1) := by decide +kernel
theorem dX8_same_35 : decode cX8_same 35 = .ok (.iload 5, 2) := by decide +kernel
theorem dX8_same_37 : decode cX8_same 37 = .ok (.invokevirtual 124, 3) := by decide +kernel
theorem dX8_same_40 : decode cX8_same 40 = .ok (.aload_n 0, 1) := by decide +kernel
theorem dX8_same_41 : decode cX8_same 41 = .ok (.getfield 17, 3) := by decide +kernel
theorem dX8_same_44 : decode cX8_same 44 = .ok (.iload 5, 2) := by decide +kernel
theorem dX8_same_46 : decode cX8_same 46 = .ok (.iaload, 1) := by decide +kernel
theorem dX8_same_47 : decode cX8_same 47 = .ok (.if_icmp .ne 7, 3) := by decide +kernel
theorem dX8_same_50 : decode cX8_same 50 = .ok (.iconst 1, 1) := by decide +kernel
theorem dX8_same_51 : decode cX8_same 51 = .ok (.goto 4, 3) := by decide +kernel
theorem dX8_same_54 : decode cX8_same 54 = .ok (.iconst 0, 1) := by decide +kernel
theorem dX8_same_55 : decode cX8_same 55 = .ok (.istore 4, 2) := by decide +kernel
theorem dX8_same_57 : decode cX8_same 57 = .ok (.iinc 5 1, 3) := by decide +kernel
theorem dX8_same_60 : decode cX8_same 60 = .ok (.goto (-42), 3) := by decide +kernel
theorem dX8_same_63 : decode cX8_same 63 = .ok (.iload_n 2, 1) := by decide +kernel
theorem dX8_same_64 : decode cX8_same 64 = .ok (.iload 4, 2) := by decide +kernel
theorem dX8_same_66 : decode cX8_same 66 = .ok (.ifCond .eq 7, 3) := by decide +kernel
theorem dX8_same_69 : decode cX8_same 69 = .ok (.iconst 1, 1) := by decide +kernel
theorem dX8_same_70 : decode cX8_same 70 = .ok (.goto 4, 3) := by decide +kernel
theorem dX8_same_73 : decode cX8_same 73 = .ok (.iconst 0, 1) := by decide +kernel
theorem dX8_same_74 : decode cX8_same 74 = .ok (.iadd, 1) := by decide +kernel
theorem dX8_same_75 : decode cX8_same 75 = .ok (.istore_n 2, 1) := by decide +kernel
theorem dX8_same_76 : decode cX8_same 76 = .ok (.iinc 3 1, 3) := by decide +kernel
theorem dX8_same_79 : decode cX8_same 79 = .ok (.goto (-75), 3) := by decide +kernel
theorem dX8_same_82 : decode cX8_same 82 = .ok (.iload_n 2, 1) := by decide +kernel
theorem dX8_same_83 : decode cX8_same 83 = .ok (.ireturn, 1) := by decide +kernel
theorem dX8_name_0 : decode cX8_name 0 = .ok (.aload_n 0, 1) := by decide +kernel
theorem dX8_name_1 : decode cX8_name 1 = .ok (.iconst 0, 1) := by decide +kernel
theorem dX8_name_2 : decode cX8_name 2 = .ok (.putfield 1, 3) := by decide +kernel
theorem dX8_name_5 : decode cX8_name 5 = .ok (.aload_n 0, 1) := by decide +kernel
theorem dX8_name_6 : decode cX8_name 6 = .ok (.iload_n 1, 1) := by decide +kernel
theorem dX8_name_7 : decode cX8_name 7 = .ok (.invokevirtual 94, 3) := by decide +kernel
theorem dX8_name_10 : decode cX8_name 10 = .ok (.ifCond .ne 6, 3) := by decide +kernel
theorem dX8_name_13 : decode cX8_name 13 = .ok (.ldc 98, 2) := by decide +kernel
theorem dX8_name_15 : decode cX8_name 15 = .ok (.ireturn, 1) := by decide +kernel
theorem dX8_name_16 : decode cX8_name 16 = .ok (.aload_n 0, 1) := by decide +kernel
theorem dX8_name_17 : decode cX8_name 17 = .ok (.invokevirtual 111, 3) := by decide +kernel
theorem dX8_name_20 : decode cX8_name 20 = .ok (.aload_n 0, 1) := by decide +kernel
theorem dX8_name_21 : decode cX8_name 21 = .ok (.invokevirtual 128, 3) := by decide +kernel
theorem dX8_name_24 : decode cX8_name 24 = .ok (.aload_n 0, 1) := by decide +kernel
theorem dX8_name_25 : decode cX8_name 25 = .ok (.getfield 38, 3) := by decide +kernel
theorem dX8_name_28 : decode cX8_name 28 = .ok (.iload_n 1, 1) := by decide +kernel
theorem dX8_name_29 : decode cX8_name 29 = .ok (.iaload, 1) := by decide +kernel
theorem dX8_name_30 : decode cX8_name 30 = .ok (.ireturn, 1) := by decide +kernel
theorem dX8_isGoal_0 : decode cX8_isGoal 0 = .ok (.iconst 0, 1) := by decide +kernel
theorem dX8_isGoal_1 : decode cX8_isGoal 1 = .ok (.istore_n 3, 1) := by decide +kernel
theorem dX8_isGoal_2 : decode cX8_isGoal 2 = .ok (.aload_n 0, 1) := by decide +kernel
theorem dX8_isGoal_3 : decode cX8_isGoal 3 = .ok (.getfield 87, 3) := by decide +kernel
theorem dX8_isGoal_6 : decode cX8_isGoal 6 = .ok (.iconst 1, 1) := by decide +kernel
theorem dX8_isGoal_7 : decode cX8_isGoal 7 = .ok (.iadd, 1) := by decide +kernel
theorem dX8_isGoal_8 : decode cX8_isGoal 8 = .ok (.istore 4, 2) := by decide +kernel
theorem dX8_isGoal_10 : decode cX8_isGoal 10 = .ok (.iconst 0, 1) := by decide +kernel
theorem dX8_isGoal_11 : decode cX8_isGoal 11 = .ok (.istore 5, 2) := by decide +kernel
theorem dX8_isGoal_13 : decode cX8_isGoal 13 = .ok (.iconst 1, 1) := by decide +kernel
theorem dX8_isGoal_14 : decode cX8_isGoal 14 = .ok (.istore 6, 2) := by decide +kernel
theorem dX8_isGoal_16 : decode cX8_isGoal 16 = .ok (.iconst 0, 1) := by decide +kernel
theorem dX8_isGoal_17 : decode cX8_isGoal 17 = .ok (.istore 7, 2) := by decide +kernel
theorem dX8_isGoal_19 : decode cX8_isGoal 19 = .ok (.iconst 0, 1) := by decide +kernel
theorem dX8_isGoal_20 : decode cX8_isGoal 20 = .ok (.istore 8, 2) := by decide +kernel
theorem dX8_isGoal_22 : decode cX8_isGoal 22 = .ok (.iload 8, 2) := by decide +kernel
theorem dX8_isGoal_24 : decode cX8_isGoal 24 = .ok (.aload_n 0, 1) := by decide +kernel
theorem dX8_isGoal_25 : decode cX8_isGoal 25 = .ok (.getfield 87, 3) := by decide +kernel
theorem dX8_isGoal_28 : decode cX8_isGoal 28 = .ok (.if_icmp .ge 120, 3) := by decide +kernel
theorem dX8_isGoal_31 : decode cX8_isGoal 31 = .ok (.aload_n 0, 1) := by decide +kernel
theorem dX8_isGoal_32 : decode cX8_isGoal 32 = .ok (.getfield 17, 3) := by decide +kernel
theorem dX8_isGoal_35 : decode cX8_isGoal 35 = .ok (.iload 8, 2) := by decide +kernel
theorem dX8_isGoal_37 : decode cX8_isGoal 37 = .ok (.iaload, 1) := by decide +kernel
theorem dX8_isGoal_38 : decode cX8_isGoal 38 = .ok (.ifCond .le 104, 3) := by decide +kernel
theorem dX8_isGoal_41 : decode cX8_isGoal 41 = .ok (.iinc 3 1, 3) := by decide +kernel
theorem dX8_isGoal_44 : decode cX8_isGoal 44 = .ok (.iload 6, 2) := by decide +kernel
theorem dX8_isGoal_46 : decode cX8_isGoal 46 = .ok (.ifCond .eq 18, 3) := by decide +kernel
theorem dX8_isGoal_49 : decode cX8_isGoal 49 = .ok (.aload_n 0, 1) := by decide +kernel
theorem dX8_isGoal_50 : decode cX8_isGoal 50 = .ok (.getfield 17, 3) := by decide +kernel
theorem dX8_isGoal_53 : decode cX8_isGoal 53 = .ok (.iload 8, 2) := by decide +kernel
theorem dX8_isGoal_55 : decode cX8_isGoal 55 = .ok (.iaload, 1) := by decide +kernel
theorem dX8_isGoal_56 : decode cX8_isGoal 56 = .ok (.iconst 1, 1) := by decide +kernel
theorem dX8_isGoal_57 : decode cX8_isGoal 57 = .ok (.if_icmp .ne 7, 3) := by decide +kernel
theorem dX8_isGoal_60 : decode cX8_isGoal 60 = .ok (.iconst 1, 1) := by decide +kernel
theorem dX8_isGoal_61 : decode cX8_isGoal 61 = .ok (.goto 4, 3) := by decide +kernel
theorem dX8_isGoal_64 : decode cX8_isGoal 64 = .ok (.iconst 0, 1) := by decide +kernel
theorem dX8_isGoal_65 : decode cX8_isGoal 65 = .ok (.istore 6, 2) := by decide +kernel
theorem dX8_isGoal_67 : decode cX8_isGoal 67 = .ok (.iconst 1, 1) := by decide +kernel
theorem dX8_isGoal_68 : decode cX8_isGoal 68 = .ok (.istore 9, 2) := by decide +kernel
theorem dX8_isGoal_70 : decode cX8_isGoal 70 = .ok (.aload_n 0, 1) := by decide +kernel
theorem dX8_isGoal_71 : decode cX8_isGoal 71 = .ok (.getfield 17, 3) := by decide +kernel
theorem dX8_isGoal_74 : decode cX8_isGoal 74 = .ok (.iload 8, 2) := by decide +kernel
theorem dX8_isGoal_76 : decode cX8_isGoal 76 = .ok (.iload 9, 2) := by decide +kernel
theorem dX8_isGoal_78 : decode cX8_isGoal 78 = .ok (.iadd, 1) := by decide +kernel
theorem dX8_isGoal_79 : decode cX8_isGoal 79 = .ok (.aload_n 0, 1) := by decide +kernel
theorem dX8_isGoal_80 : decode cX8_isGoal 80 = .ok (.getfield 87, 3) := by decide +kernel
theorem dX8_isGoal_83 : decode cX8_isGoal 83 = .ok (.irem, 1) := by decide +kernel
theorem dX8_isGoal_84 : decode cX8_isGoal 84 = .ok (.iaload, 1) := by decide +kernel
theorem dX8_isGoal_85 : decode cX8_isGoal 85 = .ok (.ifCond .ne 9, 3) := by decide +kernel
theorem dX8_isGoal_88 : decode cX8_isGoal 88 = .ok (.iinc 9 1, 3) := by decide +kernel
theorem dX8_isGoal_91 : decode cX8_isGoal 91 = .ok (.goto (-21), 3) := by decide +kernel
theorem dX8_isGoal_94 : decode cX8_isGoal 94 = .ok (.iload 9, 2) := by decide +kernel
theorem dX8_isGoal_96 : decode cX8_isGoal 96 = .ok (.iload 4, 2) := by decide +kernel
theorem dX8_isGoal_98 : decode cX8_isGoal 98 = .ok (.if_icmp .ge 8, 3) := by decide +kernel
theorem dX8_isGoal_101 : decode cX8_isGoal 101 = .ok (.iload 9, 2) := by decide +kernel
theorem dX8_isGoal_103 : decode cX8_isGoal 103 = .ok (.goto 5, 3) := by decide +kernel
theorem dX8_isGoal_106 : decode cX8_isGoal 106 = .ok (.iload 4, 2) := by decide +kernel
theorem dX8_isGoal_108 : decode cX8_isGoal 108 = .ok (.istore 4, 2) := by decide +kernel
theorem dX8_isGoal_110 : decode cX8_isGoal 110 = .ok (.iload 9, 2) := by decide +kernel
theorem dX8_isGoal_112 : decode cX8_isGoal 112 = .ok (.iload 5, 2) := by decide +kernel
theorem dX8_isGoal_114 : decode cX8_isGoal 114 = .ok (.if_icmp .le 8, 3) := by decide +kernel
theorem dX8_isGoal_117 : decode cX8_isGoal 117 = .ok (.iload 9, 2) := by decide +kernel
theorem dX8_isGoal_119 : decode cX8_isGoal 119 = .ok (.goto 5, 3) := by decide +kernel
theorem dX8_isGoal_122 : decode cX8_isGoal 122 = .ok (.iload 5, 2) := by decide +kernel
theorem dX8_isGoal_124 : decode cX8_isGoal 124 = .ok (.istore 5, 2) := by decide +kernel
theorem dX8_isGoal_126 : decode cX8_isGoal 126 = .ok (.iload 7, 2) := by decide +kernel
theorem dX8_isGoal_128 : decode cX8_isGoal 128 = .ok (.iload 9, 2) := by decide +kernel
theorem dX8_isGoal_130 : decode cX8_isGoal 130 = .ok (.iconst 1, 1) := by decide +kernel
theorem dX8_isGoal_131 : decode cX8_isGoal 131 = .ok (.if_icmp .le 7, 3) := by decide +kernel
theorem dX8_isGoal_134 : decode cX8_isGoal 134 = .ok (.iconst 1, 1) := by decide +kernel
theorem dX8_isGoal_135 : decode cX8_isGoal 135 = .ok (.goto 4, 3) := by decide +kernel
theorem dX8_isGoal_138 : decode cX8_isGoal 138 = .ok (.iconst 0, 1) := by decide +kernel
theorem dX8_isGoal_139 : decode cX8_isGoal 139 = .ok (.iadd, 1) := by decide +kernel
theorem dX8_isGoal_140 : decode cX8_isGoal 140 = .ok (.istore 7, 2) := by decide +kernel
theorem dX8_isGoal_142 : decode cX8_isGoal 142 = .ok (.iinc 8 1, 3) := by decide +kernel
theorem dX8_isGoal_145 : decode cX8_isGoal 145 = .ok (.goto (-123), 3) := by decide +kernel
theorem dX8_isGoal_148 : decode cX8_isGoal 148 = .ok (.iload_n 1, 1) := by decide +kernel
theorem dX8_isGoal_149 : decode cX8_isGoal 149 = .ok (.ifCond .ne 14, 3) := by decide +kernel
theorem dX8_isGoal_152 : decode cX8_isGoal 152 = .ok (.iload_n 3, 1) := by decide +kernel
theorem dX8_isGoal_153 : decode cX8_isGoal 153 = .ok (.iconst 1, 1) := by decide +kernel
theorem dX8_isGoal_154 : decode cX8_isGoal 154 = .ok (.if_icmp .ne 7, 3) := by decide +kernel
theorem dX8_isGoal_157 : decode cX8_isGoal 157 = .ok (.iconst 1, 1) := by decide +kernel
theorem dX8_isGoal_158 : decode cX8_isGoal 158 = .ok (.goto 4, 3) := by decide +kernel
theorem dX8_isGoal_161 : decode cX8_isGoal 161 = .ok (.iconst 0, 1) := by decide +kernel
theorem dX8_isGoal_162 : decode cX8_isGoal 162 = .ok (.ireturn, 1) := by decide +kernel
theorem dX8_isGoal_163 : decode cX8_isGoal 163 = .ok (.iload 6, 2) := by decide +kernel
theorem dX8_isGoal_165 : decode cX8_isGoal 165 = .ok (.ifCond .eq 45, 3) := by decide +kernel
theorem dX8_isGoal_168 : decode cX8_isGoal 168 = .ok (.iload_n 1, 1) := by decide +kernel
theorem dX8_isGoal_169 : decode cX8_isGoal 169 = .ok (.iconst 1, 1) := by decide +kernel
theorem dX8_isGoal_170 : decode cX8_isGoal 170 = .ok (.if_icmp .ne 30, 3) := by decide +kernel
theorem dX8_isGoal_173 : decode cX8_isGoal 173 = .ok (.iload 4, 2) := by decide +kernel
theorem dX8_isGoal_175 : decode cX8_isGoal 175 = .ok (.aload_n 0, 1) := by decide +kernel
theorem dX8_isGoal_176 : decode cX8_isGoal 176 = .ok (.getfield 87, 3) := by decide +kernel
theorem dX8_isGoal_179 : decode cX8_isGoal 179 = .ok (.iload_n 2, 1) := by decide +kernel
theorem dX8_isGoal_180 : decode cX8_isGoal 180 = .ok (.idiv, 1) := by decide +kernel
theorem dX8_isGoal_181 : decode cX8_isGoal 181 = .ok (.if_icmp .lt 29, 3) := by decide +kernel
theorem dX8_isGoal_184 : decode cX8_isGoal 184 = .ok (.iload 5, 2) := by decide +kernel
theorem dX8_isGoal_186 : decode cX8_isGoal 186 = .ok (.aload_n 0, 1) := by decide +kernel
theorem dX8_isGoal_187 : decode cX8_isGoal 187 = .ok (.getfield 87, 3) := by decide +kernel
theorem dX8_isGoal_190 : decode cX8_isGoal 190 = .ok (.iload_n 2, 1) := by decide +kernel
theorem dX8_isGoal_191 : decode cX8_isGoal 191 = .ok (.idiv, 1) := by decide +kernel
theorem dX8_isGoal_192 : decode cX8_isGoal 192 = .ok (.iconst 1, 1) := by decide +kernel
theorem dX8_isGoal_193 : decode cX8_isGoal 193 = .ok (.iadd, 1) := by decide +kernel
theorem dX8_isGoal_194 : decode cX8_isGoal 194 = .ok (.if_icmp .gt 16, 3) := by decide +kernel
theorem dX8_isGoal_197 : decode cX8_isGoal 197 = .ok (.goto 9, 3) := by decide +kernel
theorem dX8_isGoal_200 : decode cX8_isGoal 200 = .ok (.iload 7, 2) := by decide +kernel
theorem dX8_isGoal_202 : decode cX8_isGoal 202 = .ok (.iconst 2, 1) := by decide +kernel
theorem dX8_isGoal_203 : decode cX8_isGoal 203 = .ok (.if_icmp .ge 7, 3) := by decide +kernel
theorem dX8_isGoal_206 : decode cX8_isGoal 206 = .ok (.iconst 1, 1) := by decide +kernel
theorem dX8_isGoal_207 : decode cX8_isGoal 207 = .ok (.goto 4, 3) := by decide +kernel
theorem dX8_isGoal_210 : decode cX8_isGoal 210 = .ok (.iconst 0, 1) := by decide +kernel
theorem dX8_isGoal_211 : decode cX8_isGoal 211 = .ok (.ireturn, 1) := by decide +kernel
theorem dX8_goal_0 : decode cX8_goal 0 = .ok (.aload_n 0, 1) := by decide +kernel
theorem dX8_goal_1 : decode cX8_goal 1 = .ok (.iconst 0, 1) := by decide +kernel
theorem dX8_goal_2 : decode cX8_goal 2 = .ok (.putfield 1, 3) := by decide +kernel
theorem dX8_goal_5 : decode cX8_goal 5 = .ok (.iload_n 1, 1) := by decide +kernel
theorem dX8_goal_6 : decode cX8_goal 6 = .ok (.i2l, 1) := by decide +kernel
theorem dX8_goal_7 : decode cX8_goal 7 = .ok (.lconst 0, 1) := by decide +kernel
theorem dX8_goal_8 : decode cX8_goal 8 = .ok (.ldc2_w 131, 3) := by decide +kernel
theorem dX8_goal_11 : decode cX8_goal 11 = .ok (.invokestatic 90, 3) := by decide +kernel
theorem dX8_goal_14 : decode cX8_goal 14 = .ok (.ifCond .ne 6, 3) := by decide +kernel
theorem dX8_goal_17 : decode cX8_goal 17 = .ok (.ldc 98, 2) := by decide +kernel
theorem dX8_goal_19 : decode cX8_goal 19 = .ok (.ireturn, 1) := by decide +kernel
theorem dX8_goal_20 : decode cX8_goal 20 = .ok (.aload_n 0, 1) := by decide +kernel
theorem dX8_goal_21 : decode cX8_goal 21 = .ok (.invokevirtual 111, 3) := by decide +kernel
theorem dX8_goal_24 : decode cX8_goal 24 = .ok (.aload_n 0, 1) := by decide +kernel
theorem dX8_goal_25 : decode cX8_goal 25 = .ok (.getfield 99, 3) := by decide +kernel
theorem dX8_goal_28 : decode cX8_goal 28 = .ok (.ifCond .le 19, 3) := by decide +kernel
theorem dX8_goal_31 : decode cX8_goal 31 = .ok (.aload_n 0, 1) := by decide +kernel
theorem dX8_goal_32 : decode cX8_goal 32 = .ok (.iload_n 1, 1) := by decide +kernel
theorem dX8_goal_33 : decode cX8_goal 33 = .ok (.aload_n 0, 1) := by decide +kernel
theorem dX8_goal_34 : decode cX8_goal 34 = .ok (.getfield 99, 3) := by decide +kernel
theorem dX8_goal_37 : decode cX8_goal 37 = .ok (.invokevirtual 133, 3) := by decide +kernel
theorem dX8_goal_40 : decode cX8_goal 40 = .ok (.ifCond .eq 7, 3) := by decide +kernel
theorem dX8_goal_43 : decode cX8_goal 43 = .ok (.iconst 1, 1) := by decide +kernel
theorem dX8_goal_44 : decode cX8_goal 44 = .ok (.goto 4, 3) := by decide +kernel
theorem dX8_goal_47 : decode cX8_goal 47 = .ok (.iconst 0, 1) := by decide +kernel
theorem dX8_goal_48 : decode cX8_goal 48 = .ok (.ireturn, 1) := by decide +kernel
theorem dX8_step_0 : decode cX8_step 0 = .ok (.aload_n 0, 1) := by decide +kernel
theorem dX8_step_1 : decode cX8_step 1 = .ok (.iconst 0, 1) := by decide +kernel
theorem dX8_step_2 : decode cX8_step 2 = .ok (.putfield 1, 3) := by decide +kernel
theorem dX8_step_5 : decode cX8_step 5 = .ok (.aload_n 0, 1) := by decide +kernel
theorem dX8_step_6 : decode cX8_step 6 = .ok (.getfield 99, 3) := by decide +kernel
theorem dX8_step_9 : decode cX8_step 9 = .ok (.ifCond .ne 6, 3) := by decide +kernel
theorem dX8_step_12 : decode cX8_step 12 = .ok (.ldc 137, 2) := by decide +kernel
theorem dX8_step_14 : decode cX8_step 14 = .ok (.ireturn, 1) := by decide +kernel
theorem dX8_step_15 : decode cX8_step 15 = .ok (.aload_n 0, 1) := by decide +kernel
theorem dX8_step_16 : decode cX8_step 16 = .ok (.invokevirtual 111, 3) := by decide +kernel
theorem dX8_step_19 : decode cX8_step 19 = .ok (.iconst 0, 1) := by decide +kernel
theorem dX8_step_20 : decode cX8_step 20 = .ok (.istore_n 1, 1) := by decide +kernel
theorem dX8_step_21 : decode cX8_step 21 = .ok (.iload_n 1, 1) := by decide +kernel
theorem dX8_step_22 : decode cX8_step 22 = .ok (.aload_n 0, 1) := by decide +kernel
theorem dX8_step_23 : decode cX8_step 23 = .ok (.getfield 87, 3) := by decide +kernel
theorem dX8_step_26 : decode cX8_step 26 = .ok (.if_icmp .ge 33, 3) := by decide +kernel
theorem dX8_step_29 : decode cX8_step 29 = .ok (.aload_n 0, 1) := by decide +kernel
theorem dX8_step_30 : decode cX8_step 30 = .ok (.getfield 41, 3) := by decide +kernel
theorem dX8_step_33 : decode cX8_step 33 = .ok (.iload_n 1, 1) := by decide +kernel
theorem dX8_step_34 : decode cX8_step 34 = .ok (.aload_n 0, 1) := by decide +kernel
theorem dX8_step_35 : decode cX8_step 35 = .ok (.getfield 17, 3) := by decide +kernel
theorem dX8_step_38 : decode cX8_step 38 = .ok (.iload_n 1, 1) := by decide +kernel
theorem dX8_step_39 : decode cX8_step 39 = .ok (.iaload, 1) := by decide +kernel
theorem dX8_step_40 : decode cX8_step 40 = .ok (.ifCond .ne 7, 3) := by decide +kernel
theorem dX8_step_43 : decode cX8_step 43 = .ok (.iconst 0, 1) := by decide +kernel
theorem dX8_step_44 : decode cX8_step 44 = .ok (.goto 8, 3) := by decide +kernel
theorem dX8_step_47 : decode cX8_step 47 = .ok (.aload_n 0, 1) := by decide +kernel
theorem dX8_step_48 : decode cX8_step 48 = .ok (.iload_n 1, 1) := by decide +kernel
theorem dX8_step_49 : decode cX8_step 49 = .ok (.invokevirtual 121, 3) := by decide +kernel
theorem dX8_step_52 : decode cX8_step 52 = .ok (.iastore, 1) := by decide +kernel
theorem dX8_step_53 : decode cX8_step 53 = .ok (.iinc 1 1, 3) := by decide +kernel
theorem dX8_step_56 : decode cX8_step 56 = .ok (.goto (-35), 3) := by decide +kernel
theorem dX8_step_59 : decode cX8_step 59 = .ok (.iconst 0, 1) := by decide +kernel
theorem dX8_step_60 : decode cX8_step 60 = .ok (.istore_n 1, 1) := by decide +kernel
theorem dX8_step_61 : decode cX8_step 61 = .ok (.iconst 0, 1) := by decide +kernel
theorem dX8_step_62 : decode cX8_step 62 = .ok (.istore_n 2, 1) := by decide +kernel
theorem dX8_step_63 : decode cX8_step 63 = .ok (.iload_n 2, 1) := by decide +kernel
theorem dX8_step_64 : decode cX8_step 64 = .ok (.aload_n 0, 1) := by decide +kernel
theorem dX8_step_65 : decode cX8_step 65 = .ok (.getfield 87, 3) := by decide +kernel
theorem dX8_step_68 : decode cX8_step 68 = .ok (.if_icmp .ge 84, 3) := by decide +kernel
theorem dX8_step_71 : decode cX8_step 71 = .ok (.aload_n 0, 1) := by decide +kernel
theorem dX8_step_72 : decode cX8_step 72 = .ok (.getfield 41, 3) := by decide +kernel
theorem dX8_step_75 : decode cX8_step 75 = .ok (.iload_n 2, 1) := by decide +kernel
theorem dX8_step_76 : decode cX8_step 76 = .ok (.iaload, 1) := by decide +kernel
theorem dX8_step_77 : decode cX8_step 77 = .ok (.ifCond .eq 69, 3) := by decide +kernel
theorem dX8_step_80 : decode cX8_step 80 = .ok (.iload_n 1, 1) := by decide +kernel
theorem dX8_step_81 : decode cX8_step 81 = .ok (.aload_n 0, 1) := by decide +kernel
theorem dX8_step_82 : decode cX8_step 82 = .ok (.getfield 17, 3) := by decide +kernel
theorem dX8_step_85 : decode cX8_step 85 = .ok (.iload_n 2, 1) := by decide +kernel
theorem dX8_step_86 : decode cX8_step 86 = .ok (.iaload, 1) := by decide +kernel
theorem dX8_step_87 : decode cX8_step 87 = .ok (.iadd, 1) := by decide +kernel
theorem dX8_step_88 : decode cX8_step 88 = .ok (.istore_n 1, 1) := by decide +kernel
theorem dX8_step_89 : decode cX8_step 89 = .ok (.aload_n 0, 1) := by decide +kernel
theorem dX8_step_90 : decode cX8_step 90 = .ok (.getfield 13, 3) := by decide +kernel
theorem dX8_step_93 : decode cX8_step 93 = .ok (.iload_n 2, 1) := by decide +kernel
theorem dX8_step_94 : decode cX8_step 94 = .ok (.dup2, 1) := by decide +kernel
theorem dX8_step_95 : decode cX8_step 95 = .ok (.iaload, 1) := by decide +kernel
theorem dX8_step_96 : decode cX8_step 96 = .ok (.aload_n 0, 1) := by decide +kernel
theorem dX8_step_97 : decode cX8_step 97 = .ok (.getfield 17, 3) := by decide +kernel
theorem dX8_step_100 : decode cX8_step 100 = .ok (.iload_n 2, 1) := by decide +kernel
theorem dX8_step_101 : decode cX8_step 101 = .ok (.iaload, 1) := by decide +kernel
theorem dX8_step_102 : decode cX8_step 102 = .ok (.isub, 1) := by decide +kernel
theorem dX8_step_103 : decode cX8_step 103 = .ok (.iastore, 1) := by decide +kernel
theorem dX8_step_104 : decode cX8_step 104 = .ok (.iload_n 2, 1) := by decide +kernel
theorem dX8_step_105 : decode cX8_step 105 = .ok (.aload_n 0, 1) := by decide +kernel
theorem dX8_step_106 : decode cX8_step 106 = .ok (.getfield 41, 3) := by decide +kernel
theorem dX8_step_109 : decode cX8_step 109 = .ok (.iload_n 2, 1) := by decide +kernel
theorem dX8_step_110 : decode cX8_step 110 = .ok (.iaload, 1) := by decide +kernel
theorem dX8_step_111 : decode cX8_step 111 = .ok (.ifCond .ge 12, 3) := by decide +kernel
theorem dX8_step_114 : decode cX8_step 114 = .ok (.aload_n 0, 1) := by decide +kernel
theorem dX8_step_115 : decode cX8_step 115 = .ok (.getfield 87, 3) := by decide +kernel
theorem dX8_step_118 : decode cX8_step 118 = .ok (.iconst 1, 1) := by decide +kernel
theorem dX8_step_119 : decode cX8_step 119 = .ok (.isub, 1) := by decide +kernel
theorem dX8_step_120 : decode cX8_step 120 = .ok (.goto 4, 3) := by decide +kernel
theorem dX8_step_123 : decode cX8_step 123 = .ok (.iconst 1, 1) := by decide +kernel
theorem dX8_step_124 : decode cX8_step 124 = .ok (.iadd, 1) := by decide +kernel
theorem dX8_step_125 : decode cX8_step 125 = .ok (.aload_n 0, 1) := by decide +kernel
theorem dX8_step_126 : decode cX8_step 126 = .ok (.getfield 87, 3) := by decide +kernel
theorem dX8_step_129 : decode cX8_step 129 = .ok (.irem, 1) := by decide +kernel
theorem dX8_step_130 : decode cX8_step 130 = .ok (.istore_n 3, 1) := by decide +kernel
theorem dX8_step_131 : decode cX8_step 131 = .ok (.aload_n 0, 1) := by decide +kernel
theorem dX8_step_132 : decode cX8_step 132 = .ok (.getfield 13, 3) := by decide +kernel
theorem dX8_step_135 : decode cX8_step 135 = .ok (.iload_n 3, 1) := by decide +kernel
theorem dX8_step_136 : decode cX8_step 136 = .ok (.dup2, 1) := by decide +kernel
theorem dX8_step_137 : decode cX8_step 137 = .ok (.iaload, 1) := by decide +kernel
theorem dX8_step_138 : decode cX8_step 138 = .ok (.aload_n 0, 1) := by decide +kernel
theorem dX8_step_139 : decode cX8_step 139 = .ok (.getfield 17, 3) := by decide +kernel
theorem dX8_step_142 : decode cX8_step 142 = .ok (.iload_n 2, 1) := by decide +kernel
theorem dX8_step_143 : decode cX8_step 143 = .ok (.iaload, 1) := by decide +kernel
theorem dX8_step_144 : decode cX8_step 144 = .ok (.iadd, 1) := by decide +kernel
theorem dX8_step_145 : decode cX8_step 145 = .ok (.iastore, 1) := by decide +kernel
theorem dX8_step_146 : decode cX8_step 146 = .ok (.iinc 2 1, 3) := by decide +kernel
theorem dX8_step_149 : decode cX8_step 149 = .ok (.goto (-86), 3) := by decide +kernel
theorem dX8_step_152 : decode cX8_step 152 = .ok (.iload_n 1, 1) := by decide +kernel
theorem dX8_step_153 : decode cX8_step 153 = .ok (.ireturn, 1) := by decide +kernel
theorem dX8_go_0 : decode cX8_go 0 = .ok (.aload_n 0, 1) := by decide +kernel
theorem dX8_go_1 : decode cX8_go 1 = .ok (.iconst 0, 1) := by decide +kernel
theorem dX8_go_2 : decode cX8_go 2 = .ok (.putfield 1, 3) := by decide +kernel
theorem dX8_go_5 : decode cX8_go 5 = .ok (.aload_n 0, 1) := by decide +kernel
theorem dX8_go_6 : decode cX8_go 6 = .ok (.iload_n 1, 1) := by decide +kernel
theorem dX8_go_7 : decode cX8_go 7 = .ok (.invokevirtual 94, 3) := by decide +kernel
theorem dX8_go_10 : decode cX8_go 10 = .ok (.ifCond .ne 6, 3) := by decide +kernel
theorem dX8_go_13 : decode cX8_go 13 = .ok (.ldc 98, 2) := by decide +kernel
theorem dX8_go_15 : decode cX8_go 15 = .ok (.ireturn, 1) := by decide +kernel
theorem dX8_go_16 : decode cX8_go 16 = .ok (.aload_n 0, 1) := by decide +kernel
theorem dX8_go_17 : decode cX8_go 17 = .ok (.invokevirtual 111, 3) := by decide +kernel
theorem dX8_go_20 : decode cX8_go 20 = .ok (.aload_n 0, 1) := by decide +kernel
theorem dX8_go_21 : decode cX8_go 21 = .ok (.getfield 13, 3) := by decide +kernel
theorem dX8_go_24 : decode cX8_go 24 = .ok (.iload_n 1, 1) := by decide +kernel
theorem dX8_go_25 : decode cX8_go 25 = .ok (.iaload, 1) := by decide +kernel
theorem dX8_go_26 : decode cX8_go 26 = .ok (.ifCond .ne 7, 3) := by decide +kernel
theorem dX8_go_29 : decode cX8_go 29 = .ok (.iconst 0, 1) := by decide +kernel
theorem dX8_go_30 : decode cX8_go 30 = .ok (.goto 8, 3) := by decide +kernel
theorem dX8_go_33 : decode cX8_go 33 = .ok (.aload_n 0, 1) := by decide +kernel
theorem dX8_go_34 : decode cX8_go 34 = .ok (.iload_n 1, 1) := by decide +kernel
theorem dX8_go_35 : decode cX8_go 35 = .ok (.invokevirtual 121, 3) := by decide +kernel
theorem dX8_go_38 : decode cX8_go 38 = .ok (.istore_n 3, 1) := by decide +kernel
theorem dX8_go_39 : decode cX8_go 39 = .ok (.iload_n 3, 1) := by decide +kernel
theorem dX8_go_40 : decode cX8_go 40 = .ok (.ifCond .ne 6, 3) := by decide +kernel
theorem dX8_go_43 : decode cX8_go 43 = .ok (.ldc 137, 2) := by decide +kernel
theorem dX8_go_45 : decode cX8_go 45 = .ok (.ireturn, 1) := by decide +kernel
theorem dX8_go_46 : decode cX8_go 46 = .ok (.iload_n 3, 1) := by decide +kernel
theorem dX8_go_47 : decode cX8_go 47 = .ok (.iconst 2, 1) := by decide +kernel
theorem dX8_go_48 : decode cX8_go 48 = .ok (.if_icmp .ne 16, 3) := by decide +kernel
theorem dX8_go_51 : decode cX8_go 51 = .ok (.iload_n 2, 1) := by decide +kernel
theorem dX8_go_52 : decode cX8_go 52 = .ok (.iconst 1, 1) := by decide +kernel
theorem dX8_go_53 : decode cX8_go 53 = .ok (.if_icmp .ne 7, 3) := by decide +kernel
theorem dX8_go_56 : decode cX8_go 56 = .ok (.iconst 1, 1) := by decide +kernel
theorem dX8_go_57 : decode cX8_go 57 = .ok (.goto 8, 3) := by decide +kernel
theorem dX8_go_60 : decode cX8_go 60 = .ok (.iconst (-1), 1) := by decide +kernel
theorem dX8_go_61 : decode cX8_go 61 = .ok (.goto 4, 3) := by decide +kernel
theorem dX8_go_64 : decode cX8_go 64 = .ok (.iload_n 3, 1) := by decide +kernel
theorem dX8_go_65 : decode cX8_go 65 = .ok (.istore 4, 2) := by decide +kernel
theorem dX8_go_67 : decode cX8_go 67 = .ok (.aload_n 0, 1) := by decide +kernel
theorem dX8_go_68 : decode cX8_go 68 = .ok (.getfield 13, 3) := by decide +kernel
theorem dX8_go_71 : decode cX8_go 71 = .ok (.iload_n 1, 1) := by decide +kernel
theorem dX8_go_72 : decode cX8_go 72 = .ok (.dup2, 1) := by decide +kernel
theorem dX8_go_73 : decode cX8_go 73 = .ok (.iaload, 1) := by decide +kernel
theorem dX8_go_74 : decode cX8_go 74 = .ok (.iconst 1, 1) := by decide +kernel
theorem dX8_go_75 : decode cX8_go 75 = .ok (.isub, 1) := by decide +kernel
theorem dX8_go_76 : decode cX8_go 76 = .ok (.iastore, 1) := by decide +kernel
theorem dX8_go_77 : decode cX8_go 77 = .ok (.aload_n 0, 1) := by decide +kernel
theorem dX8_go_78 : decode cX8_go 78 = .ok (.getfield 13, 3) := by decide +kernel
theorem dX8_go_81 : decode cX8_go 81 = .ok (.iload_n 1, 1) := by decide +kernel
theorem dX8_go_82 : decode cX8_go 82 = .ok (.iload 4, 2) := by decide +kernel
theorem dX8_go_84 : decode cX8_go 84 = .ok (.iadd, 1) := by decide +kernel
theorem dX8_go_85 : decode cX8_go 85 = .ok (.aload_n 0, 1) := by decide +kernel
theorem dX8_go_86 : decode cX8_go 86 = .ok (.getfield 87, 3) := by decide +kernel
theorem dX8_go_89 : decode cX8_go 89 = .ok (.iadd, 1) := by decide +kernel
theorem dX8_go_90 : decode cX8_go 90 = .ok (.aload_n 0, 1) := by decide +kernel
theorem dX8_go_91 : decode cX8_go 91 = .ok (.getfield 87, 3) := by decide +kernel
theorem dX8_go_94 : decode cX8_go 94 = .ok (.irem, 1) := by decide +kernel
theorem dX8_go_95 : decode cX8_go 95 = .ok (.dup2, 1) := by decide +kernel
theorem dX8_go_96 : decode cX8_go 96 = .ok (.iaload, 1) := by decide +kernel
theorem dX8_go_97 : decode cX8_go 97 = .ok (.iconst 1, 1) := by decide +kernel
theorem dX8_go_98 : decode cX8_go 98 = .ok (.iadd, 1) := by decide +kernel
theorem dX8_go_99 : decode cX8_go 99 = .ok (.iastore, 1) := by decide +kernel
theorem dX8_go_100 : decode cX8_go 100 = .ok (.iconst 1, 1) := by decide +kernel
theorem dX8_go_101 : decode cX8_go 101 = .ok (.ireturn, 1) := by decide +kernel
theorem dX8_feed_0 : decode cX8_feed 0 = .ok (.aload_n 0, 1) := by decide +kernel
theorem dX8_feed_1 : decode cX8_feed 1 = .ok (.iconst 0, 1) := by decide +kernel
theorem dX8_feed_2 : decode cX8_feed 2 = .ok (.putfield 1, 3) := by decide +kernel
theorem dX8_feed_5 : decode cX8_feed 5 = .ok (.iload_n 3, 1) := by decide +kernel
theorem dX8_feed_6 : decode cX8_feed 6 = .ok (.i2l, 1) := by decide +kernel
theorem dX8_feed_7 : decode cX8_feed 7 = .ok (.lconst 1, 1) := by decide +kernel
theorem dX8_feed_8 : decode cX8_feed 8 = .ok (.ldc2_w 138, 3) := by decide +kernel
theorem dX8_feed_11 : decode cX8_feed 11 = .ok (.invokestatic 90, 3) := by decide +kernel
theorem dX8_feed_14 : decode cX8_feed 14 = .ok (.ifCond .ne 6, 3) := by decide +kernel
theorem dX8_feed_17 : decode cX8_feed 17 = .ok (.ldc 98, 2) := by decide +kernel
theorem dX8_feed_19 : decode cX8_feed 19 = .ok (.ireturn, 1) := by decide +kernel
theorem dX8_feed_20 : decode cX8_feed 20 = .ok (.aload_n 0, 1) := by decide +kernel
theorem dX8_feed_21 : decode cX8_feed 21 = .ok (.getfield 140, 3) := by decide +kernel
theorem dX8_feed_24 : decode cX8_feed 24 = .ok (.iload_n 3, 1) := by decide +kernel
theorem dX8_feed_25 : decode cX8_feed 25 = .ok (.iadd, 1) := by decide +kernel
theorem dX8_feed_26 : decode cX8_feed 26 = .ok (.sipush 400, 3) := by decide +kernel
theorem dX8_feed_29 : decode cX8_feed 29 = .ok (.if_icmp .le 6, 3) := by decide +kernel
theorem dX8_feed_32 : decode cX8_feed 32 = .ok (.ldc 102, 2) := by decide +kernel
theorem dX8_feed_34 : decode cX8_feed 34 = .ok (.ireturn, 1) := by decide +kernel
theorem dX8_feed_35 : decode cX8_feed 35 = .ok (.iload_n 3, 1) := by decide +kernel
theorem dX8_feed_36 : decode cX8_feed 36 = .ok (.iconst 1, 1) := by decide +kernel
theorem dX8_feed_37 : decode cX8_feed 37 = .ok (.isub, 1) := by decide +kernel
theorem dX8_feed_38 : decode cX8_feed 38 = .ok (.istore 4, 2) := by decide +kernel
theorem dX8_feed_40 : decode cX8_feed 40 = .ok (.iload 4, 2) := by decide +kernel
theorem dX8_feed_42 : decode cX8_feed 42 = .ok (.ifCond .lt 40, 3) := by decide +kernel
theorem dX8_feed_45 : decode cX8_feed 45 = .ok (.aload_n 0, 1) := by decide +kernel
theorem dX8_feed_46 : decode cX8_feed 46 = .ok (.getfield 44, 3) := by decide +kernel
theorem dX8_feed_49 : decode cX8_feed 49 = .ok (.aload_n 0, 1) := by decide +kernel
theorem dX8_feed_50 : decode cX8_feed 50 = .ok (.getfield 140, 3) := by decide +kernel
theorem dX8_feed_53 : decode cX8_feed 53 = .ok (.lload_n 1, 1) := by decide +kernel
theorem dX8_feed_54 : decode cX8_feed 54 = .ok (.bipush 8, 2) := by decide +kernel
theorem dX8_feed_56 : decode cX8_feed 56 = .ok (.iload 4, 2) := by decide +kernel
theorem dX8_feed_58 : decode cX8_feed 58 = .ok (.imul, 1) := by decide +kernel
theorem dX8_feed_59 : decode cX8_feed 59 = .ok (.lshr, 1) := by decide +kernel
theorem dX8_feed_60 : decode cX8_feed 60 = .ok (.ldc2_w 143, 3) := by decide +kernel
theorem dX8_feed_63 : decode cX8_feed 63 = .ok (.land, 1) := by decide +kernel
theorem dX8_feed_64 : decode cX8_feed 64 = .ok (.l2i, 1) := by decide +kernel
theorem dX8_feed_65 : decode cX8_feed 65 = .ok (.iastore, 1) := by decide +kernel
theorem dX8_feed_66 : decode cX8_feed 66 = .ok (.aload_n 0, 1) := by decide +kernel
theorem dX8_feed_67 : decode cX8_feed 67 = .ok (.dup, 1) := by decide +kernel
theorem dX8_feed_68 : decode cX8_feed 68 = .ok (.getfield 140, 3) := by decide +kernel
theorem dX8_feed_71 : decode cX8_feed 71 = .ok (.iconst 1, 1) := by decide +kernel
theorem dX8_feed_72 : decode cX8_feed 72 = .ok (.iadd, 1) := by decide +kernel
theorem dX8_feed_73 : decode cX8_feed 73 = .ok (.putfield 140, 3) := by decide +kernel
theorem dX8_feed_76 : decode cX8_feed 76 = .ok (.iinc 4 (-1), 3) := by decide +kernel
theorem dX8_feed_79 : decode cX8_feed 79 = .ok (.goto (-39), 3) := by decide +kernel
theorem dX8_feed_82 : decode cX8_feed 82 = .ok (.aload_n 0, 1) := by decide +kernel
theorem dX8_feed_83 : decode cX8_feed 83 = .ok (.getfield 140, 3) := by decide +kernel
theorem dX8_feed_86 : decode cX8_feed 86 = .ok (.ireturn, 1) := by decide +kernel
theorem dX8_byteAt_0 : decode cX8_byteAt 0 = .ok (.iload_n 1, 1) := by decide +kernel
theorem dX8_byteAt_1 : decode cX8_byteAt 1 = .ok (.aload_n 0, 1) := by decide +kernel
theorem dX8_byteAt_2 : decode cX8_byteAt 2 = .ok (.getfield 145, 3) := by decide +kernel
theorem dX8_byteAt_5 : decode cX8_byteAt 5 = .ok (.if_icmp .ge 12, 3) := by decide +kernel
theorem dX8_byteAt_8 : decode cX8_byteAt 8 = .ok (.aload_n 0, 1) := by decide +kernel
theorem dX8_byteAt_9 : decode cX8_byteAt 9 = .ok (.getfield 44, 3) := by decide +kernel
theorem dX8_byteAt_12 : decode cX8_byteAt 12 = .ok (.iload_n 1, 1) := by decide +kernel
theorem dX8_byteAt_13 : decode cX8_byteAt 13 = .ok (.iaload, 1) := by decide +kernel
theorem dX8_byteAt_14 : decode cX8_byteAt 14 = .ok (.goto 5, 3) := by decide +kernel
theorem dX8_byteAt_17 : decode cX8_byteAt 17 = .ok (.ldc 110, 2) := by decide +kernel
theorem dX8_byteAt_19 : decode cX8_byteAt 19 = .ok (.ireturn, 1) := by decide +kernel
theorem dX8_isLetter_0 : decode cX8_isLetter 0 = .ok (.iload_n 0, 1) := by decide +kernel
theorem dX8_isLetter_1 : decode cX8_isLetter 1 = .ok (.bipush 97, 2) := by decide +kernel
theorem dX8_isLetter_3 : decode cX8_isLetter 3 = .ok (.if_icmp .lt 13, 3) := by decide +kernel
theorem dX8_isLetter_6 : decode cX8_isLetter 6 = .ok (.iload_n 0, 1) := by decide +kernel
theorem dX8_isLetter_7 : decode cX8_isLetter 7 = .ok (.bipush 122, 2) := by decide +kernel
theorem dX8_isLetter_9 : decode cX8_isLetter 9 = .ok (.if_icmp .gt 7, 3) := by decide +kernel
theorem dX8_isLetter_12 : decode cX8_isLetter 12 = .ok (.iconst 1, 1) := by decide +kernel
theorem dX8_isLetter_13 : decode cX8_isLetter 13 = .ok (.goto 4, 3) := by decide +kernel
theorem dX8_isLetter_16 : decode cX8_isLetter 16 = .ok (.iconst 0, 1) := by decide +kernel
theorem dX8_isLetter_17 : decode cX8_isLetter 17 = .ok (.ireturn, 1) := by decide +kernel
theorem dX8_isFigure_0 : decode cX8_isFigure 0 = .ok (.iload_n 0, 1) := by decide +kernel
theorem dX8_isFigure_1 : decode cX8_isFigure 1 = .ok (.bipush 48, 2) := by decide +kernel
theorem dX8_isFigure_3 : decode cX8_isFigure 3 = .ok (.if_icmp .lt 13, 3) := by decide +kernel
theorem dX8_isFigure_6 : decode cX8_isFigure 6 = .ok (.iload_n 0, 1) := by decide +kernel
theorem dX8_isFigure_7 : decode cX8_isFigure 7 = .ok (.bipush 57, 2) := by decide +kernel
theorem dX8_isFigure_9 : decode cX8_isFigure 9 = .ok (.if_icmp .gt 7, 3) := by decide +kernel
theorem dX8_isFigure_12 : decode cX8_isFigure 12 = .ok (.iconst 1, 1) := by decide +kernel
theorem dX8_isFigure_13 : decode cX8_isFigure 13 = .ok (.goto 4, 3) := by decide +kernel
theorem dX8_isFigure_16 : decode cX8_isFigure 16 = .ok (.iconst 0, 1) := by decide +kernel
theorem dX8_isFigure_17 : decode cX8_isFigure 17 = .ok (.ireturn, 1) := by decide +kernel
theorem dX8_next_0 : decode cX8_next 0 = .ok (.aload_n 0, 1) := by decide +kernel
theorem dX8_next_1 : decode cX8_next 1 = .ok (.aload_n 0, 1) := by decide +kernel
theorem dX8_next_2 : decode cX8_next 2 = .ok (.getfield 148, 3) := by decide +kernel
theorem dX8_next_5 : decode cX8_next 5 = .ok (.invokevirtual 151, 3) := by decide +kernel
theorem dX8_next_8 : decode cX8_next 8 = .ok (.bipush 32, 2) := by decide +kernel
theorem dX8_next_10 : decode cX8_next 10 = .ok (.if_icmp .eq 16, 3) := by decide +kernel
theorem dX8_next_13 : decode cX8_next 13 = .ok (.aload_n 0, 1) := by decide +kernel
theorem dX8_next_14 : decode cX8_next 14 = .ok (.aload_n 0, 1) := by decide +kernel
theorem dX8_next_15 : decode cX8_next 15 = .ok (.getfield 148, 3) := by decide +kernel
theorem dX8_next_18 : decode cX8_next 18 = .ok (.invokevirtual 151, 3) := by decide +kernel
theorem dX8_next_21 : decode cX8_next 21 = .ok (.bipush 10, 2) := by decide +kernel
theorem dX8_next_23 : decode cX8_next 23 = .ok (.if_icmp .ne 16, 3) := by decide +kernel
theorem dX8_next_26 : decode cX8_next 26 = .ok (.aload_n 0, 1) := by decide +kernel
theorem dX8_next_27 : decode cX8_next 27 = .ok (.dup, 1) := by decide +kernel
theorem dX8_next_28 : decode cX8_next 28 = .ok (.getfield 148, 3) := by decide +kernel
theorem dX8_next_31 : decode cX8_next 31 = .ok (.iconst 1, 1) := by decide +kernel
theorem dX8_next_32 : decode cX8_next 32 = .ok (.iadd, 1) := by decide +kernel
theorem dX8_next_33 : decode cX8_next 33 = .ok (.putfield 148, 3) := by decide +kernel
theorem dX8_next_36 : decode cX8_next 36 = .ok (.goto (-36), 3) := by decide +kernel
theorem dX8_next_39 : decode cX8_next 39 = .ok (.aload_n 0, 1) := by decide +kernel
theorem dX8_next_40 : decode cX8_next 40 = .ok (.aload_n 0, 1) := by decide +kernel
theorem dX8_next_41 : decode cX8_next 41 = .ok (.getfield 148, 3) := by decide +kernel
theorem dX8_next_44 : decode cX8_next 44 = .ok (.putfield 154, 3) := by decide +kernel
theorem dX8_next_47 : decode cX8_next 47 = .ok (.aload_n 0, 1) := by decide +kernel
theorem dX8_next_48 : decode cX8_next 48 = .ok (.aload_n 0, 1) := by decide +kernel
theorem dX8_next_49 : decode cX8_next 49 = .ok (.getfield 148, 3) := by decide +kernel
theorem dX8_next_52 : decode cX8_next 52 = .ok (.invokevirtual 151, 3) := by decide +kernel
theorem dX8_next_55 : decode cX8_next 55 = .ok (.istore_n 1, 1) := by decide +kernel
theorem dX8_next_56 : decode cX8_next 56 = .ok (.iload_n 1, 1) := by decide +kernel
theorem dX8_next_57 : decode cX8_next 57 = .ok (.ldc 110, 2) := by decide +kernel
theorem dX8_next_59 : decode cX8_next 59 = .ok (.if_icmp .ne 11, 3) := by decide +kernel
theorem dX8_next_62 : decode cX8_next 62 = .ok (.aload_n 0, 1) := by decide +kernel
theorem dX8_next_63 : decode cX8_next 63 = .ok (.iconst 1, 1) := by decide +kernel
theorem dX8_next_64 : decode cX8_next 64 = .ok (.putfield 157, 3) := by decide +kernel
theorem dX8_next_67 : decode cX8_next 67 = .ok (.goto 153, 3) := by decide +kernel
theorem dX8_next_70 : decode cX8_next 70 = .ok (.iload_n 1, 1) := by decide +kernel
theorem dX8_next_71 : decode cX8_next 71 = .ok (.invokestatic 160, 3) := by decide +kernel
theorem dX8_next_74 : decode cX8_next 74 = .ok (.ifCond .eq 56, 3) := by decide +kernel
theorem dX8_next_77 : decode cX8_next 77 = .ok (.aload_n 0, 1) := by decide +kernel
theorem dX8_next_78 : decode cX8_next 78 = .ok (.aload_n 0, 1) := by decide +kernel
theorem dX8_next_79 : decode cX8_next 79 = .ok (.getfield 148, 3) := by decide +kernel
theorem dX8_next_82 : decode cX8_next 82 = .ok (.invokevirtual 151, 3) := by decide +kernel
theorem dX8_next_85 : decode cX8_next 85 = .ok (.invokestatic 160, 3) := by decide +kernel
theorem dX8_next_88 : decode cX8_next 88 = .ok (.ifCond .eq 16, 3) := by decide +kernel
theorem dX8_next_91 : decode cX8_next 91 = .ok (.aload_n 0, 1) := by decide +kernel
theorem dX8_next_92 : decode cX8_next 92 = .ok (.dup, 1) := by decide +kernel
theorem dX8_next_93 : decode cX8_next 93 = .ok (.getfield 148, 3) := by decide +kernel
theorem dX8_next_96 : decode cX8_next 96 = .ok (.iconst 1, 1) := by decide +kernel
theorem dX8_next_97 : decode cX8_next 97 = .ok (.iadd, 1) := by decide +kernel
theorem dX8_next_98 : decode cX8_next 98 = .ok (.putfield 148, 3) := by decide +kernel
theorem dX8_next_101 : decode cX8_next 101 = .ok (.goto (-24), 3) := by decide +kernel
theorem dX8_next_104 : decode cX8_next 104 = .ok (.aload_n 0, 1) := by decide +kernel
theorem dX8_next_105 : decode cX8_next 105 = .ok (.aload_n 0, 1) := by decide +kernel
theorem dX8_next_106 : decode cX8_next 106 = .ok (.getfield 148, 3) := by decide +kernel
theorem dX8_next_109 : decode cX8_next 109 = .ok (.aload_n 0, 1) := by decide +kernel
theorem dX8_next_110 : decode cX8_next 110 = .ok (.getfield 154, 3) := by decide +kernel
theorem dX8_next_113 : decode cX8_next 113 = .ok (.isub, 1) := by decide +kernel
theorem dX8_next_114 : decode cX8_next 114 = .ok (.bipush 6, 2) := by decide +kernel
theorem dX8_next_116 : decode cX8_next 116 = .ok (.if_icmp .le 7, 3) := by decide +kernel
theorem dX8_next_119 : decode cX8_next 119 = .ok (.iconst 0, 1) := by decide +kernel
theorem dX8_next_120 : decode cX8_next 120 = .ok (.goto 4, 3) := by decide +kernel
theorem dX8_next_123 : decode cX8_next 123 = .ok (.iconst 2, 1) := by decide +kernel
theorem dX8_next_124 : decode cX8_next 124 = .ok (.putfield 157, 3) := by decide +kernel
theorem dX8_next_127 : decode cX8_next 127 = .ok (.goto 93, 3) := by decide +kernel
theorem dX8_next_130 : decode cX8_next 130 = .ok (.iload_n 1, 1) := by decide +kernel
theorem dX8_next_131 : decode cX8_next 131 = .ok (.invokestatic 163, 3) := by decide +kernel
theorem dX8_next_134 : decode cX8_next 134 = .ok (.ifCond .eq 55, 3) := by decide +kernel
theorem dX8_next_137 : decode cX8_next 137 = .ok (.aload_n 0, 1) := by decide +kernel
theorem dX8_next_138 : decode cX8_next 138 = .ok (.aload_n 0, 1) := by decide +kernel
theorem dX8_next_139 : decode cX8_next 139 = .ok (.getfield 148, 3) := by decide +kernel
theorem dX8_next_142 : decode cX8_next 142 = .ok (.invokevirtual 151, 3) := by decide +kernel
theorem dX8_next_145 : decode cX8_next 145 = .ok (.invokestatic 163, 3) := by decide +kernel
theorem dX8_next_148 : decode cX8_next 148 = .ok (.ifCond .eq 16, 3) := by decide +kernel
theorem dX8_next_151 : decode cX8_next 151 = .ok (.aload_n 0, 1) := by decide +kernel
theorem dX8_next_152 : decode cX8_next 152 = .ok (.dup, 1) := by decide +kernel
theorem dX8_next_153 : decode cX8_next 153 = .ok (.getfield 148, 3) := by decide +kernel
theorem dX8_next_156 : decode cX8_next 156 = .ok (.iconst 1, 1) := by decide +kernel
theorem dX8_next_157 : decode cX8_next 157 = .ok (.iadd, 1) := by decide +kernel
theorem dX8_next_158 : decode cX8_next 158 = .ok (.putfield 148, 3) := by decide +kernel
theorem dX8_next_161 : decode cX8_next 161 = .ok (.goto (-24), 3) := by decide +kernel
theorem dX8_next_164 : decode cX8_next 164 = .ok (.aload_n 0, 1) := by decide +kernel
theorem dX8_next_165 : decode cX8_next 165 = .ok (.aload_n 0, 1) := by decide +kernel
theorem dX8_next_166 : decode cX8_next 166 = .ok (.getfield 148, 3) := by decide +kernel
theorem dX8_next_169 : decode cX8_next 169 = .ok (.aload_n 0, 1) := by decide +kernel
theorem dX8_next_170 : decode cX8_next 170 = .ok (.getfield 154, 3) := by decide +kernel
theorem dX8_next_173 : decode cX8_next 173 = .ok (.isub, 1) := by decide +kernel
theorem dX8_next_174 : decode cX8_next 174 = .ok (.iconst 2, 1) := by decide +kernel
theorem dX8_next_175 : decode cX8_next 175 = .ok (.if_icmp .le 7, 3) := by decide +kernel
theorem dX8_next_178 : decode cX8_next 178 = .ok (.iconst 0, 1) := by decide +kernel
theorem dX8_next_179 : decode cX8_next 179 = .ok (.goto 4, 3) := by decide +kernel
theorem dX8_next_182 : decode cX8_next 182 = .ok (.iconst 3, 1) := by decide +kernel
theorem dX8_next_183 : decode cX8_next 183 = .ok (.putfield 157, 3) := by decide +kernel
theorem dX8_next_186 : decode cX8_next 186 = .ok (.goto 34, 3) := by decide +kernel
theorem dX8_next_189 : decode cX8_next 189 = .ok (.aload_n 0, 1) := by decide +kernel
theorem dX8_next_190 : decode cX8_next 190 = .ok (.dup, 1) := by decide +kernel
theorem dX8_next_191 : decode cX8_next 191 = .ok (.getfield 148, 3) := by decide +kernel
theorem dX8_next_194 : decode cX8_next 194 = .ok (.iconst 1, 1) := by decide +kernel
theorem dX8_next_195 : decode cX8_next 195 = .ok (.iadd, 1) := by decide +kernel
theorem dX8_next_196 : decode cX8_next 196 = .ok (.putfield 148, 3) := by decide +kernel
theorem dX8_next_199 : decode cX8_next 199 = .ok (.aload_n 0, 1) := by decide +kernel
theorem dX8_next_200 : decode cX8_next 200 = .ok (.iload_n 1, 1) := by decide +kernel
theorem dX8_next_201 : decode cX8_next 201 = .ok (.bipush 59, 2) := by decide +kernel
theorem dX8_next_203 : decode cX8_next 203 = .ok (.if_icmp .eq 9, 3) := by decide +kernel
theorem dX8_next_206 : decode cX8_next 206 = .ok (.iload_n 1, 1) := by decide +kernel
theorem dX8_next_207 : decode cX8_next 207 = .ok (.bipush 44, 2) := by decide +kernel
theorem dX8_next_209 : decode cX8_next 209 = .ok (.if_icmp .ne 7, 3) := by decide +kernel
theorem dX8_next_212 : decode cX8_next 212 = .ok (.iconst 4, 1) := by decide +kernel
theorem dX8_next_213 : decode cX8_next 213 = .ok (.goto 4, 3) := by decide +kernel
theorem dX8_next_216 : decode cX8_next 216 = .ok (.iconst 0, 1) := by decide +kernel
theorem dX8_next_217 : decode cX8_next 217 = .ok (.putfield 157, 3) := by decide +kernel
theorem dX8_next_220 : decode cX8_next 220 = .ok (.aload_n 0, 1) := by decide +kernel
theorem dX8_next_221 : decode cX8_next 221 = .ok (.aload_n 0, 1) := by decide +kernel
theorem dX8_next_222 : decode cX8_next 222 = .ok (.getfield 148, 3) := by decide +kernel
theorem dX8_next_225 : decode cX8_next 225 = .ok (.putfield 166, 3) := by decide +kernel
theorem dX8_next_228 : decode cX8_next 228 = .ok (.return_, 1) := by decide +kernel
theorem dX8_bad_0 : decode cX8_bad 0 = .ok (.aload_n 0, 1) := by decide +kernel
theorem dX8_bad_1 : decode cX8_bad 1 = .ok (.getfield 169, 3) := by decide +kernel
theorem dX8_bad_4 : decode cX8_bad 4 = .ok (.ifCond .ne 16, 3) := by decide +kernel
theorem dX8_bad_7 : decode cX8_bad 7 = .ok (.aload_n 0, 1) := by decide +kernel
theorem dX8_bad_8 : decode cX8_bad 8 = .ok (.iload_n 1, 1) := by decide +kernel
theorem dX8_bad_9 : decode cX8_bad 9 = .ok (.putfield 169, 3) := by decide +kernel
theorem dX8_bad_12 : decode cX8_bad 12 = .ok (.aload_n 0, 1) := by decide +kernel
theorem dX8_bad_13 : decode cX8_bad 13 = .ok (.aload_n 0, 1) := by decide +kernel
theorem dX8_bad_14 : decode cX8_bad 14 = .ok (.getfield 154, 3) := by decide +kernel
theorem dX8_bad_17 : decode cX8_bad 17 = .ok (.putfield 172, 3) := by decide +kernel
theorem dX8_bad_20 : decode cX8_bad 20 = .ok (.return_, 1) := by decide +kernel
theorem dX8_need_0 : decode cX8_need 0 = .ok (.iload_n 1, 1) := by decide +kernel
theorem dX8_need_1 : decode cX8_need 1 = .ok (.ifCond .ne 8, 3) := by decide +kernel
theorem dX8_need_4 : decode cX8_need 4 = .ok (.aload_n 0, 1) := by decide +kernel
theorem dX8_need_5 : decode cX8_need 5 = .ok (.iconst 1, 1) := by decide +kernel
theorem dX8_need_6 : decode cX8_need 6 = .ok (.invokevirtual 175, 3) := by decide +kernel
theorem dX8_need_9 : decode cX8_need 9 = .ok (.aload_n 0, 1) := by decide +kernel
theorem dX8_need_10 : decode cX8_need 10 = .ok (.getfield 169, 3) := by decide +kernel
theorem dX8_need_13 : decode cX8_need 13 = .ok (.ifCond .ne 7, 3) := by decide +kernel
theorem dX8_need_16 : decode cX8_need 16 = .ok (.aload_n 0, 1) := by decide +kernel
theorem dX8_need_17 : decode cX8_need 17 = .ok (.invokevirtual 179, 3) := by decide +kernel
theorem dX8_need_20 : decode cX8_need 20 = .ok (.return_, 1) := by decide +kernel
theorem dX8_is_0 : decode cX8_is 0 = .ok (.aload_n 0, 1) := by decide +kernel
theorem dX8_is_1 : decode cX8_is 1 = .ok (.getfield 157, 3) := by decide +kernel
theorem dX8_is_4 : decode cX8_is 4 = .ok (.iconst 4, 1) := by decide +kernel
theorem dX8_is_5 : decode cX8_is 5 = .ok (.if_icmp .ne 20, 3) := by decide +kernel
theorem dX8_is_8 : decode cX8_is 8 = .ok (.aload_n 0, 1) := by decide +kernel
theorem dX8_is_9 : decode cX8_is 9 = .ok (.getfield 44, 3) := by decide +kernel
theorem dX8_is_12 : decode cX8_is 12 = .ok (.aload_n 0, 1) := by decide +kernel
theorem dX8_is_13 : decode cX8_is 13 = .ok (.getfield 154, 3) := by decide +kernel
theorem dX8_is_16 : decode cX8_is 16 = .ok (.iaload, 1) := by decide +kernel
theorem dX8_is_17 : decode cX8_is 17 = .ok (.iload_n 1, 1) := by decide +kernel
theorem dX8_is_18 : decode cX8_is 18 = .ok (.if_icmp .ne 7, 3) := by decide +kernel
theorem dX8_is_21 : decode cX8_is 21 = .ok (.iconst 1, 1) := by decide +kernel
theorem dX8_is_22 : decode cX8_is 22 = .ok (.goto 4, 3) := by decide +kernel
theorem dX8_is_25 : decode cX8_is 25 = .ok (.iconst 0, 1) := by decide +kernel
theorem dX8_is_26 : decode cX8_is 26 = .ok (.ireturn, 1) := by decide +kernel
theorem dX8_word_0 : decode cX8_word 0 = .ok (.lconst 0, 1) := by decide +kernel
theorem dX8_word_1 : decode cX8_word 1 = .ok (.lstore_n 1, 1) := by decide +kernel
theorem dX8_word_2 : decode cX8_word 2 = .ok (.aload_n 0, 1) := by decide +kernel
theorem dX8_word_3 : decode cX8_word 3 = .ok (.getfield 154, 3) := by decide +kernel
theorem dX8_word_6 : decode cX8_word 6 = .ok (.istore_n 3, 1) := by decide +kernel
theorem dX8_word_7 : decode cX8_word 7 = .ok (.iload_n 3, 1) := by decide +kernel
theorem dX8_word_8 : decode cX8_word 8 = .ok (.aload_n 0, 1) := by decide +kernel
theorem dX8_word_9 : decode cX8_word 9 = .ok (.getfield 166, 3) := by decide +kernel
theorem dX8_word_12 : decode cX8_word 12 = .ok (.if_icmp .ge 30, 3) := by decide +kernel
theorem dX8_word_15 : decode cX8_word 15 = .ok (.aload_n 0, 1) := by decide +kernel
theorem dX8_word_16 : decode cX8_word 16 = .ok (.getfield 157, 3) := by decide +kernel
theorem dX8_word_19 : decode cX8_word 19 = .ok (.iconst 2, 1) := by decide +kernel
theorem dX8_word_20 : decode cX8_word 20 = .ok (.if_icmp .ne 22, 3) := by decide +kernel
theorem dX8_word_23 : decode cX8_word 23 = .ok (.lload_n 1, 1) := by decide +kernel
theorem dX8_word_24 : decode cX8_word 24 = .ok (.bipush 8, 2) := by decide +kernel
theorem dX8_word_26 : decode cX8_word 26 = .ok (.lshl, 1) := by decide +kernel
theorem dX8_word_27 : decode cX8_word 27 = .ok (.aload_n 0, 1) := by decide +kernel
theorem dX8_word_28 : decode cX8_word 28 = .ok (.getfield 44, 3) := by decide +kernel
theorem dX8_word_31 : decode cX8_word 31 = .ok (.iload_n 3, 1) := by decide +kernel
theorem dX8_word_32 : decode cX8_word 32 = .ok (.iaload, 1) := by decide +kernel
theorem dX8_word_33 : decode cX8_word 33 = .ok (.i2l, 1) := by decide +kernel
theorem dX8_word_34 : decode cX8_word 34 = .ok (.lor, 1) := by decide +kernel
theorem dX8_word_35 : decode cX8_word 35 = .ok (.lstore_n 1, 1) := by decide +kernel
theorem dX8_word_36 : decode cX8_word 36 = .ok (.iinc 3 1, 3) := by decide +kernel
theorem dX8_word_39 : decode cX8_word 39 = .ok (.goto (-32), 3) := by decide +kernel
theorem dX8_word_42 : decode cX8_word 42 = .ok (.lload_n 1, 1) := by decide +kernel
theorem dX8_word_43 : decode cX8_word 43 = .ok (.lreturn, 1) := by decide +kernel
theorem dX8_aNumber_0 : decode cX8_aNumber 0 = .ok (.iconst 0, 1) := by decide +kernel
theorem dX8_aNumber_1 : decode cX8_aNumber 1 = .ok (.istore_n 1, 1) := by decide +kernel
theorem dX8_aNumber_2 : decode cX8_aNumber 2 = .ok (.aload_n 0, 1) := by decide +kernel
theorem dX8_aNumber_3 : decode cX8_aNumber 3 = .ok (.getfield 154, 3) := by decide +kernel
theorem dX8_aNumber_6 : decode cX8_aNumber 6 = .ok (.istore_n 2, 1) := by decide +kernel
theorem dX8_aNumber_7 : decode cX8_aNumber 7 = .ok (.iload_n 2, 1) := by decide +kernel
theorem dX8_aNumber_8 : decode cX8_aNumber 8 = .ok (.aload_n 0, 1) := by decide +kernel
theorem dX8_aNumber_9 : decode cX8_aNumber 9 = .ok (.getfield 166, 3) := by decide +kernel
theorem dX8_aNumber_12 : decode cX8_aNumber 12 = .ok (.if_icmp .ge 32, 3) := by decide +kernel
theorem dX8_aNumber_15 : decode cX8_aNumber 15 = .ok (.aload_n 0, 1) := by decide +kernel
theorem dX8_aNumber_16 : decode cX8_aNumber 16 = .ok (.getfield 157, 3) := by decide +kernel
theorem dX8_aNumber_19 : decode cX8_aNumber 19 = .ok (.iconst 3, 1) := by decide +kernel
theorem dX8_aNumber_20 : decode cX8_aNumber 20 = .ok (.if_icmp .ne 24, 3) := by decide +kernel
theorem dX8_aNumber_23 : decode cX8_aNumber 23 = .ok (.bipush 10, 2) := by decide +kernel
theorem dX8_aNumber_25 : decode cX8_aNumber 25 = .ok (.iload_n 1, 1) := by decide +kernel
theorem dX8_aNumber_26 : decode cX8_aNumber 26 = .ok (.imul, 1) := by decide +kernel
theorem dX8_aNumber_27 : decode cX8_aNumber 27 = .ok (.aload_n 0, 1) := by decide +kernel
theorem dX8_aNumber_28 : decode cX8_aNumber 28 = .ok (.getfield 44, 3) := by decide +kernel
theorem dX8_aNumber_31 : decode cX8_aNumber 31 = .ok (.iload_n 2, 1) := by decide +kernel
theorem dX8_aNumber_32 : decode cX8_aNumber 32 = .ok (.iaload, 1) := by decide +kernel
theorem dX8_aNumber_33 : decode cX8_aNumber 33 = .ok (.iadd, 1) := by decide +kernel
theorem dX8_aNumber_34 : decode cX8_aNumber 34 = .ok (.bipush 48, 2) := by decide +kernel
theorem dX8_aNumber_36 : decode cX8_aNumber 36 = .ok (.isub, 1) := by decide +kernel
theorem dX8_aNumber_37 : decode cX8_aNumber 37 = .ok (.istore_n 1, 1) := by decide +kernel
theorem dX8_aNumber_38 : decode cX8_aNumber 38 = .ok (.iinc 2 1, 3) := by decide +kernel
theorem dX8_aNumber_41 : decode cX8_aNumber 41 = .ok (.goto (-34), 3) := by decide +kernel
theorem dX8_aNumber_44 : decode cX8_aNumber 44 = .ok (.aload_n 0, 1) := by decide +kernel
theorem dX8_aNumber_45 : decode cX8_aNumber 45 = .ok (.getfield 157, 3) := by decide +kernel
theorem dX8_aNumber_48 : decode cX8_aNumber 48 = .ok (.iconst 3, 1) := by decide +kernel
theorem dX8_aNumber_49 : decode cX8_aNumber 49 = .ok (.if_icmp .ne 12, 3) := by decide +kernel
theorem dX8_aNumber_52 : decode cX8_aNumber 52 = .ok (.iload_n 1, 1) := by decide +kernel
theorem dX8_aNumber_53 : decode cX8_aNumber 53 = .ok (.ifCond .ne 8, 3) := by decide +kernel
theorem dX8_aNumber_56 : decode cX8_aNumber 56 = .ok (.aload_n 0, 1) := by decide +kernel
theorem dX8_aNumber_57 : decode cX8_aNumber 57 = .ok (.iconst 2, 1) := by decide +kernel
theorem dX8_aNumber_58 : decode cX8_aNumber 58 = .ok (.invokevirtual 175, 3) := by decide +kernel
theorem dX8_aNumber_61 : decode cX8_aNumber 61 = .ok (.aload_n 0, 1) := by decide +kernel
theorem dX8_aNumber_62 : decode cX8_aNumber 62 = .ok (.aload_n 0, 1) := by decide +kernel
theorem dX8_aNumber_63 : decode cX8_aNumber 63 = .ok (.getfield 157, 3) := by decide +kernel
theorem dX8_aNumber_66 : decode cX8_aNumber 66 = .ok (.iconst 3, 1) := by decide +kernel
theorem dX8_aNumber_67 : decode cX8_aNumber 67 = .ok (.if_icmp .ne 7, 3) := by decide +kernel
theorem dX8_aNumber_70 : decode cX8_aNumber 70 = .ok (.iconst 1, 1) := by decide +kernel
theorem dX8_aNumber_71 : decode cX8_aNumber 71 = .ok (.goto 4, 3) := by decide +kernel
theorem dX8_aNumber_74 : decode cX8_aNumber 74 = .ok (.iconst 0, 1) := by decide +kernel
theorem dX8_aNumber_75 : decode cX8_aNumber 75 = .ok (.invokevirtual 182, 3) := by decide +kernel
theorem dX8_aNumber_78 : decode cX8_aNumber 78 = .ok (.iload_n 1, 1) := by decide +kernel
theorem dX8_aNumber_79 : decode cX8_aNumber 79 = .ok (.ireturn, 1) := by decide +kernel
theorem dX8_readPair_0 : decode cX8_readPair 0 = .ok (.aload_n 0, 1) := by decide +kernel
theorem dX8_readPair_1 : decode cX8_readPair 1 = .ok (.invokevirtual 186, 3) := by decide +kernel
theorem dX8_readPair_4 : decode cX8_readPair 4 = .ok (.istore_n 2, 1) := by decide +kernel
theorem dX8_readPair_5 : decode cX8_readPair 5 = .ok (.aload_n 0, 1) := by decide +kernel
theorem dX8_readPair_6 : decode cX8_readPair 6 = .ok (.invokevirtual 186, 3) := by decide +kernel
theorem dX8_readPair_9 : decode cX8_readPair 9 = .ok (.istore_n 3, 1) := by decide +kernel
theorem dX8_readPair_10 : decode cX8_readPair 10 = .ok (.aload_n 0, 1) := by decide +kernel
theorem dX8_readPair_11 : decode cX8_readPair 11 = .ok (.getfield 56, 3) := by decide +kernel
theorem dX8_readPair_14 : decode cX8_readPair 14 = .ok (.iconst 2, 1) := by decide +kernel
theorem dX8_readPair_15 : decode cX8_readPair 15 = .ok (.iload_n 1, 1) := by decide +kernel
theorem dX8_readPair_16 : decode cX8_readPair 16 = .ok (.imul, 1) := by decide +kernel
end
section
theorem dX8_readPair_17 : decode cX8_readPair 17 = .ok (.iload_n 2, 1) := by decide +kernel
theorem dX8_readPair_18 : decode cX8_readPair 18 = .ok (.iastore, 1) := by decide +kernel
theorem dX8_readPair_19 : decode cX8_readPair 19 = .ok (.aload_n 0, 1) := by decide +kernel
theorem dX8_readPair_20 : decode cX8_readPair 20 = .ok (.getfield 56, 3) := by decide +kernel
theorem dX8_readPair_23 : decode cX8_readPair 23 = .ok (.iconst 2, 1) := by decide +kernel
theorem dX8_readPair_24 : decode cX8_readPair 24 = .ok (.iload_n 1, 1) := by decide +kernel
theorem dX8_readPair_25 : decode cX8_readPair 25 = .ok (.imul, 1) := by decide +kernel
theorem dX8_readPair_26 : decode cX8_readPair 26 = .ok (.iconst 1, 1) := by decide +kernel
theorem dX8_readPair_27 : decode cX8_readPair 27 = .ok (.iadd, 1) := by decide +kernel
theorem dX8_readPair_28 : decode cX8_readPair 28 = .ok (.iload_n 3, 1) := by decide +kernel
theorem dX8_readPair_29 : decode cX8_readPair 29 = .ok (.iastore, 1) := by decide +kernel
theorem dX8_readPair_30 : decode cX8_readPair 30 = .ok (.return_, 1) := by decide +kernel
theorem dX8_isRead_0 : decode cX8_isRead 0 = .ok (.iconst 0, 1) := by decide +kernel
theorem dX8_isRead_1 : decode cX8_isRead 1 = .ok (.istore_n 2, 1) := by decide +kernel
theorem dX8_isRead_2 : decode cX8_isRead 2 = .ok (.iconst 0, 1) := by decide +kernel
theorem dX8_isRead_3 : decode cX8_isRead 3 = .ok (.istore_n 3, 1) := by decide +kernel
theorem dX8_isRead_4 : decode cX8_isRead 4 = .ok (.iload_n 3, 1) := by decide +kernel
theorem dX8_isRead_5 : decode cX8_isRead 5 = .ok (.aload_n 0, 1) := by decide +kernel
theorem dX8_isRead_6 : decode cX8_isRead 6 = .ok (.getfield 190, 3) := by decide +kernel
theorem dX8_isRead_9 : decode cX8_isRead 9 = .ok (.if_icmp .ge 94, 3) := by decide +kernel
theorem dX8_isRead_12 : decode cX8_isRead 12 = .ok (.aload_n 0, 1) := by decide +kernel
theorem dX8_isRead_13 : decode cX8_isRead 13 = .ok (.getfield 47, 3) := by decide +kernel
theorem dX8_isRead_16 : decode cX8_isRead 16 = .ok (.iload_n 3, 1) := by decide +kernel
theorem dX8_isRead_17 : decode cX8_isRead 17 = .ok (.iaload, 1) := by decide +kernel
theorem dX8_isRead_18 : decode cX8_isRead 18 = .ok (.iconst 2, 1) := by decide +kernel
theorem dX8_isRead_19 : decode cX8_isRead 19 = .ok (.iload_n 1, 1) := by decide +kernel
theorem dX8_isRead_20 : decode cX8_isRead 20 = .ok (.imul, 1) := by decide +kernel
theorem dX8_isRead_21 : decode cX8_isRead 21 = .ok (.if_icmp .ne 7, 3) := by decide +kernel
theorem dX8_isRead_24 : decode cX8_isRead 24 = .ok (.iconst 1, 1) := by decide +kernel
theorem dX8_isRead_25 : decode cX8_isRead 25 = .ok (.goto 4, 3) := by decide +kernel
theorem dX8_isRead_28 : decode cX8_isRead 28 = .ok (.iconst 0, 1) := by decide +kernel
theorem dX8_isRead_29 : decode cX8_isRead 29 = .ok (.istore 4, 2) := by decide +kernel
theorem dX8_isRead_31 : decode cX8_isRead 31 = .ok (.iconst 0, 1) := by decide +kernel
theorem dX8_isRead_32 : decode cX8_isRead 32 = .ok (.istore 5, 2) := by decide +kernel
theorem dX8_isRead_34 : decode cX8_isRead 34 = .ok (.iload 5, 2) := by decide +kernel
theorem dX8_isRead_36 : decode cX8_isRead 36 = .ok (.iconst 2, 1) := by decide +kernel
theorem dX8_isRead_37 : decode cX8_isRead 37 = .ok (.iload_n 1, 1) := by decide +kernel
theorem dX8_isRead_38 : decode cX8_isRead 38 = .ok (.imul, 1) := by decide +kernel
theorem dX8_isRead_39 : decode cX8_isRead 39 = .ok (.if_icmp .ge 43, 3) := by decide +kernel
theorem dX8_isRead_42 : decode cX8_isRead 42 = .ok (.iload 4, 2) := by decide +kernel
theorem dX8_isRead_44 : decode cX8_isRead 44 = .ok (.ifCond .eq 29, 3) := by decide +kernel
theorem dX8_isRead_47 : decode cX8_isRead 47 = .ok (.aload_n 0, 1) := by decide +kernel
theorem dX8_isRead_48 : decode cX8_isRead 48 = .ok (.getfield 50, 3) := by decide +kernel
theorem dX8_isRead_51 : decode cX8_isRead 51 = .ok (.bipush 8, 2) := by decide +kernel
theorem dX8_isRead_53 : decode cX8_isRead 53 = .ok (.iload_n 3, 1) := by decide +kernel
theorem dX8_isRead_54 : decode cX8_isRead 54 = .ok (.imul, 1) := by decide +kernel
theorem dX8_isRead_55 : decode cX8_isRead 55 = .ok (.iload 5, 2) := by decide +kernel
theorem dX8_isRead_57 : decode cX8_isRead 57 = .ok (.iadd, 1) := by decide +kernel
theorem dX8_isRead_58 : decode cX8_isRead 58 = .ok (.iaload, 1) := by decide +kernel
theorem dX8_isRead_59 : decode cX8_isRead 59 = .ok (.aload_n 0, 1) := by decide +kernel
theorem dX8_isRead_60 : decode cX8_isRead 60 = .ok (.getfield 56, 3) := by decide +kernel
theorem dX8_isRead_63 : decode cX8_isRead 63 = .ok (.iload 5, 2) := by decide +kernel
theorem dX8_isRead_65 : decode cX8_isRead 65 = .ok (.iaload, 1) := by decide +kernel
theorem dX8_isRead_66 : decode cX8_isRead 66 = .ok (.if_icmp .ne 7, 3) := by decide +kernel
theorem dX8_isRead_69 : decode cX8_isRead 69 = .ok (.iconst 1, 1) := by decide +kernel
theorem dX8_isRead_70 : decode cX8_isRead 70 = .ok (.goto 4, 3) := by decide +kernel
theorem dX8_isRead_73 : decode cX8_isRead 73 = .ok (.iconst 0, 1) := by decide +kernel
theorem dX8_isRead_74 : decode cX8_isRead 74 = .ok (.istore 4, 2) := by decide +kernel
theorem dX8_isRead_76 : decode cX8_isRead 76 = .ok (.iinc 5 1, 3) := by decide +kernel
theorem dX8_isRead_79 : decode cX8_isRead 79 = .ok (.goto (-45), 3) := by decide +kernel
theorem dX8_isRead_82 : decode cX8_isRead 82 = .ok (.iload_n 2, 1) := by decide +kernel
theorem dX8_isRead_83 : decode cX8_isRead 83 = .ok (.ifCond .ne 8, 3) := by decide +kernel
theorem dX8_isRead_86 : decode cX8_isRead 86 = .ok (.iload 4, 2) := by decide +kernel
theorem dX8_isRead_88 : decode cX8_isRead 88 = .ok (.ifCond .eq 7, 3) := by decide +kernel
theorem dX8_isRead_91 : decode cX8_isRead 91 = .ok (.iconst 1, 1) := by decide +kernel
theorem dX8_isRead_92 : decode cX8_isRead 92 = .ok (.goto 4, 3) := by decide +kernel
theorem dX8_isRead_95 : decode cX8_isRead 95 = .ok (.iconst 0, 1) := by decide +kernel
theorem dX8_isRead_96 : decode cX8_isRead 96 = .ok (.istore_n 2, 1) := by decide +kernel
theorem dX8_isRead_97 : decode cX8_isRead 97 = .ok (.iinc 3 1, 3) := by decide +kernel
theorem dX8_isRead_100 : decode cX8_isRead 100 = .ok (.goto (-96), 3) := by decide +kernel
theorem dX8_isRead_103 : decode cX8_isRead 103 = .ok (.iload_n 2, 1) := by decide +kernel
theorem dX8_isRead_104 : decode cX8_isRead 104 = .ok (.ireturn, 1) := by decide +kernel
theorem dX8_readRule_0 : decode cX8_readRule 0 = .ok (.aload_n 0, 1) := by decide +kernel
theorem dX8_readRule_1 : decode cX8_readRule 1 = .ok (.invokevirtual 193, 3) := by decide +kernel
theorem dX8_readRule_4 : decode cX8_readRule 4 = .ok (.ldc2_w 197, 3) := by decide +kernel
theorem dX8_readRule_7 : decode cX8_readRule 7 = .ok (.lcmp, 1) := by decide +kernel
theorem dX8_readRule_8 : decode cX8_readRule 8 = .ok (.ifCond .ne 17, 3) := by decide +kernel
theorem dX8_readRule_11 : decode cX8_readRule 11 = .ok (.aload_n 0, 1) := by decide +kernel
theorem dX8_readRule_12 : decode cX8_readRule 12 = .ok (.getfield 190, 3) := by decide +kernel
theorem dX8_readRule_15 : decode cX8_readRule 15 = .ok (.bipush 30, 2) := by decide +kernel
theorem dX8_readRule_17 : decode cX8_readRule 17 = .ok (.if_icmp .ne 8, 3) := by decide +kernel
theorem dX8_readRule_20 : decode cX8_readRule 20 = .ok (.aload_n 0, 1) := by decide +kernel
theorem dX8_readRule_21 : decode cX8_readRule 21 = .ok (.iconst 3, 1) := by decide +kernel
theorem dX8_readRule_22 : decode cX8_readRule 22 = .ok (.invokevirtual 175, 3) := by decide +kernel
theorem dX8_readRule_25 : decode cX8_readRule 25 = .ok (.aload_n 0, 1) := by decide +kernel
theorem dX8_readRule_26 : decode cX8_readRule 26 = .ok (.aload_n 0, 1) := by decide +kernel
theorem dX8_readRule_27 : decode cX8_readRule 27 = .ok (.invokevirtual 193, 3) := by decide +kernel
theorem dX8_readRule_30 : decode cX8_readRule 30 = .ok (.ldc2_w 197, 3) := by decide +kernel
theorem dX8_readRule_33 : decode cX8_readRule 33 = .ok (.lcmp, 1) := by decide +kernel
theorem dX8_readRule_34 : decode cX8_readRule 34 = .ok (.ifCond .ne 7, 3) := by decide +kernel
theorem dX8_readRule_37 : decode cX8_readRule 37 = .ok (.iconst 1, 1) := by decide +kernel
theorem dX8_readRule_38 : decode cX8_readRule 38 = .ok (.goto 4, 3) := by decide +kernel
theorem dX8_readRule_41 : decode cX8_readRule 41 = .ok (.iconst 0, 1) := by decide +kernel
theorem dX8_readRule_42 : decode cX8_readRule 42 = .ok (.invokevirtual 182, 3) := by decide +kernel
theorem dX8_readRule_45 : decode cX8_readRule 45 = .ok (.iconst 0, 1) := by decide +kernel
theorem dX8_readRule_46 : decode cX8_readRule 46 = .ok (.istore_n 1, 1) := by decide +kernel
theorem dX8_readRule_47 : decode cX8_readRule 47 = .ok (.aload_n 0, 1) := by decide +kernel
theorem dX8_readRule_48 : decode cX8_readRule 48 = .ok (.getfield 169, 3) := by decide +kernel
theorem dX8_readRule_51 : decode cX8_readRule 51 = .ok (.ifCond .ne 10, 3) := by decide +kernel
theorem dX8_readRule_54 : decode cX8_readRule 54 = .ok (.aload_n 0, 1) := by decide +kernel
theorem dX8_readRule_55 : decode cX8_readRule 55 = .ok (.iconst 0, 1) := by decide +kernel
theorem dX8_readRule_56 : decode cX8_readRule 56 = .ok (.invokevirtual 199, 3) := by decide +kernel
theorem dX8_readRule_59 : decode cX8_readRule 59 = .ok (.iconst 1, 1) := by decide +kernel
theorem dX8_readRule_60 : decode cX8_readRule 60 = .ok (.istore_n 1, 1) := by decide +kernel
theorem dX8_readRule_61 : decode cX8_readRule 61 = .ok (.aload_n 0, 1) := by decide +kernel
theorem dX8_readRule_62 : decode cX8_readRule 62 = .ok (.getfield 169, 3) := by decide +kernel
theorem dX8_readRule_65 : decode cX8_readRule 65 = .ok (.ifCond .ne 40, 3) := by decide +kernel
theorem dX8_readRule_68 : decode cX8_readRule 68 = .ok (.aload_n 0, 1) := by decide +kernel
theorem dX8_readRule_69 : decode cX8_readRule 69 = .ok (.bipush 44, 2) := by decide +kernel
theorem dX8_readRule_71 : decode cX8_readRule 71 = .ok (.invokevirtual 202, 3) := by decide +kernel
theorem dX8_readRule_74 : decode cX8_readRule 74 = .ok (.ifCond .eq 31, 3) := by decide +kernel
theorem dX8_readRule_77 : decode cX8_readRule 77 = .ok (.iload_n 1, 1) := by decide +kernel
theorem dX8_readRule_78 : decode cX8_readRule 78 = .ok (.iconst 4, 1) := by decide +kernel
theorem dX8_readRule_79 : decode cX8_readRule 79 = .ok (.if_icmp .ne 11, 3) := by decide +kernel
theorem dX8_readRule_82 : decode cX8_readRule 82 = .ok (.aload_n 0, 1) := by decide +kernel
theorem dX8_readRule_83 : decode cX8_readRule 83 = .ok (.iconst 3, 1) := by decide +kernel
theorem dX8_readRule_84 : decode cX8_readRule 84 = .ok (.invokevirtual 175, 3) := by decide +kernel
theorem dX8_readRule_87 : decode cX8_readRule 87 = .ok (.goto (-26), 3) := by decide +kernel
theorem dX8_readRule_90 : decode cX8_readRule 90 = .ok (.aload_n 0, 1) := by decide +kernel
theorem dX8_readRule_91 : decode cX8_readRule 91 = .ok (.invokevirtual 179, 3) := by decide +kernel
theorem dX8_readRule_94 : decode cX8_readRule 94 = .ok (.aload_n 0, 1) := by decide +kernel
theorem dX8_readRule_95 : decode cX8_readRule 95 = .ok (.iload_n 1, 1) := by decide +kernel
theorem dX8_readRule_96 : decode cX8_readRule 96 = .ok (.invokevirtual 199, 3) := by decide +kernel
theorem dX8_readRule_99 : decode cX8_readRule 99 = .ok (.iinc 1 1, 3) := by decide +kernel
theorem dX8_readRule_102 : decode cX8_readRule 102 = .ok (.goto (-41), 3) := by decide +kernel
theorem dX8_readRule_105 : decode cX8_readRule 105 = .ok (.aload_n 0, 1) := by decide +kernel
theorem dX8_readRule_106 : decode cX8_readRule 106 = .ok (.getfield 169, 3) := by decide +kernel
theorem dX8_readRule_109 : decode cX8_readRule 109 = .ok (.ifCond .le 4, 3) := by decide +kernel
theorem dX8_readRule_112 : decode cX8_readRule 112 = .ok (.return_, 1) := by decide +kernel
theorem dX8_readRule_113 : decode cX8_readRule 113 = .ok (.aload_n 0, 1) := by decide +kernel
theorem dX8_readRule_114 : decode cX8_readRule 114 = .ok (.invokevirtual 193, 3) := by decide +kernel
theorem dX8_readRule_117 : decode cX8_readRule 117 = .ok (.lstore_n 2, 1) := by decide +kernel
theorem dX8_readRule_118 : decode cX8_readRule 118 = .ok (.lload_n 2, 1) := by decide +kernel
theorem dX8_readRule_119 : decode cX8_readRule 119 = .ok (.ldc2_w 205, 3) := by decide +kernel
theorem dX8_readRule_122 : decode cX8_readRule 122 = .ok (.lcmp, 1) := by decide +kernel
theorem dX8_readRule_123 : decode cX8_readRule 123 = .ok (.ifCond .eq 19, 3) := by decide +kernel
theorem dX8_readRule_126 : decode cX8_readRule 126 = .ok (.lload_n 2, 1) := by decide +kernel
theorem dX8_readRule_127 : decode cX8_readRule 127 = .ok (.ldc2_w 207, 3) := by decide +kernel
theorem dX8_readRule_130 : decode cX8_readRule 130 = .ok (.lcmp, 1) := by decide +kernel
theorem dX8_readRule_131 : decode cX8_readRule 131 = .ok (.ifCond .eq 11, 3) := by decide +kernel
theorem dX8_readRule_134 : decode cX8_readRule 134 = .ok (.lload_n 2, 1) := by decide +kernel
theorem dX8_readRule_135 : decode cX8_readRule 135 = .ok (.ldc2_w 209, 3) := by decide +kernel
theorem dX8_readRule_138 : decode cX8_readRule 138 = .ok (.lcmp, 1) := by decide +kernel
theorem dX8_readRule_139 : decode cX8_readRule 139 = .ok (.ifCond .ne 7, 3) := by decide +kernel
theorem dX8_readRule_142 : decode cX8_readRule 142 = .ok (.iconst 1, 1) := by decide +kernel
theorem dX8_readRule_143 : decode cX8_readRule 143 = .ok (.goto 4, 3) := by decide +kernel
theorem dX8_readRule_146 : decode cX8_readRule 146 = .ok (.iconst 0, 1) := by decide +kernel
theorem dX8_readRule_147 : decode cX8_readRule 147 = .ok (.istore 4, 2) := by decide +kernel
theorem dX8_readRule_149 : decode cX8_readRule 149 = .ok (.iload 4, 2) := by decide +kernel
theorem dX8_readRule_151 : decode cX8_readRule 151 = .ok (.ifCond .eq 16, 3) := by decide +kernel
theorem dX8_readRule_154 : decode cX8_readRule 154 = .ok (.aload_n 0, 1) := by decide +kernel
theorem dX8_readRule_155 : decode cX8_readRule 155 = .ok (.iload_n 1, 1) := by decide +kernel
theorem dX8_readRule_156 : decode cX8_readRule 156 = .ok (.invokevirtual 211, 3) := by decide +kernel
theorem dX8_readRule_159 : decode cX8_readRule 159 = .ok (.ifCond .eq 8, 3) := by decide +kernel
theorem dX8_readRule_162 : decode cX8_readRule 162 = .ok (.aload_n 0, 1) := by decide +kernel
theorem dX8_readRule_163 : decode cX8_readRule 163 = .ok (.iconst 3, 1) := by decide +kernel
theorem dX8_readRule_164 : decode cX8_readRule 164 = .ok (.invokevirtual 175, 3) := by decide +kernel
theorem dX8_readRule_167 : decode cX8_readRule 167 = .ok (.aload_n 0, 1) := by decide +kernel
theorem dX8_readRule_168 : decode cX8_readRule 168 = .ok (.iload 4, 2) := by decide +kernel
theorem dX8_readRule_170 : decode cX8_readRule 170 = .ok (.invokevirtual 182, 3) := by decide +kernel
theorem dX8_readRule_173 : decode cX8_readRule 173 = .ok (.aload_n 0, 1) := by decide +kernel
theorem dX8_readRule_174 : decode cX8_readRule 174 = .ok (.aload_n 0, 1) := by decide +kernel
theorem dX8_readRule_175 : decode cX8_readRule 175 = .ok (.bipush 59, 2) := by decide +kernel
theorem dX8_readRule_177 : decode cX8_readRule 177 = .ok (.invokevirtual 202, 3) := by decide +kernel
theorem dX8_readRule_180 : decode cX8_readRule 180 = .ok (.invokevirtual 182, 3) := by decide +kernel
theorem dX8_readRule_183 : decode cX8_readRule 183 = .ok (.aload_n 0, 1) := by decide +kernel
theorem dX8_readRule_184 : decode cX8_readRule 184 = .ok (.getfield 169, 3) := by decide +kernel
theorem dX8_readRule_187 : decode cX8_readRule 187 = .ok (.ifCond .ne 97, 3) := by decide +kernel
theorem dX8_readRule_190 : decode cX8_readRule 190 = .ok (.aload_n 0, 1) := by decide +kernel
theorem dX8_readRule_191 : decode cX8_readRule 191 = .ok (.getfield 47, 3) := by decide +kernel
theorem dX8_readRule_194 : decode cX8_readRule 194 = .ok (.aload_n 0, 1) := by decide +kernel
theorem dX8_readRule_195 : decode cX8_readRule 195 = .ok (.getfield 190, 3) := by decide +kernel
theorem dX8_readRule_198 : decode cX8_readRule 198 = .ok (.iconst 2, 1) := by decide +kernel
theorem dX8_readRule_199 : decode cX8_readRule 199 = .ok (.iload_n 1, 1) := by decide +kernel
theorem dX8_readRule_200 : decode cX8_readRule 200 = .ok (.imul, 1) := by decide +kernel
theorem dX8_readRule_201 : decode cX8_readRule 201 = .ok (.iastore, 1) := by decide +kernel
theorem dX8_readRule_202 : decode cX8_readRule 202 = .ok (.aload_n 0, 1) := by decide +kernel
theorem dX8_readRule_203 : decode cX8_readRule 203 = .ok (.getfield 53, 3) := by decide +kernel
theorem dX8_readRule_206 : decode cX8_readRule 206 = .ok (.aload_n 0, 1) := by decide +kernel
theorem dX8_readRule_207 : decode cX8_readRule 207 = .ok (.getfield 190, 3) := by decide +kernel
theorem dX8_readRule_210 : decode cX8_readRule 210 = .ok (.lload_n 2, 1) := by decide +kernel
theorem dX8_readRule_211 : decode cX8_readRule 211 = .ok (.ldc2_w 205, 3) := by decide +kernel
theorem dX8_readRule_214 : decode cX8_readRule 214 = .ok (.lcmp, 1) := by decide +kernel
theorem dX8_readRule_215 : decode cX8_readRule 215 = .ok (.ifCond .ne 7, 3) := by decide +kernel
theorem dX8_readRule_218 : decode cX8_readRule 218 = .ok (.iconst 1, 1) := by decide +kernel
theorem dX8_readRule_219 : decode cX8_readRule 219 = .ok (.goto 16, 3) := by decide +kernel
theorem dX8_readRule_222 : decode cX8_readRule 222 = .ok (.lload_n 2, 1) := by decide +kernel
theorem dX8_readRule_223 : decode cX8_readRule 223 = .ok (.ldc2_w 207, 3) := by decide +kernel
theorem dX8_readRule_226 : decode cX8_readRule 226 = .ok (.lcmp, 1) := by decide +kernel
theorem dX8_readRule_227 : decode cX8_readRule 227 = .ok (.ifCond .ne 7, 3) := by decide +kernel
theorem dX8_readRule_230 : decode cX8_readRule 230 = .ok (.iconst 2, 1) := by decide +kernel
theorem dX8_readRule_231 : decode cX8_readRule 231 = .ok (.goto 4, 3) := by decide +kernel
theorem dX8_readRule_234 : decode cX8_readRule 234 = .ok (.iconst 0, 1) := by decide +kernel
theorem dX8_readRule_235 : decode cX8_readRule 235 = .ok (.iastore, 1) := by decide +kernel
theorem dX8_readRule_236 : decode cX8_readRule 236 = .ok (.iconst 0, 1) := by decide +kernel
theorem dX8_readRule_237 : decode cX8_readRule 237 = .ok (.istore 5, 2) := by decide +kernel
theorem dX8_readRule_239 : decode cX8_readRule 239 = .ok (.iload 5, 2) := by decide +kernel
theorem dX8_readRule_241 : decode cX8_readRule 241 = .ok (.bipush 8, 2) := by decide +kernel
theorem dX8_readRule_243 : decode cX8_readRule 243 = .ok (.if_icmp .ge 31, 3) := by decide +kernel
theorem dX8_readRule_246 : decode cX8_readRule 246 = .ok (.aload_n 0, 1) := by decide +kernel
theorem dX8_readRule_247 : decode cX8_readRule 247 = .ok (.getfield 50, 3) := by decide +kernel
theorem dX8_readRule_250 : decode cX8_readRule 250 = .ok (.bipush 8, 2) := by decide +kernel
theorem dX8_readRule_252 : decode cX8_readRule 252 = .ok (.aload_n 0, 1) := by decide +kernel
theorem dX8_readRule_253 : decode cX8_readRule 253 = .ok (.getfield 190, 3) := by decide +kernel
theorem dX8_readRule_256 : decode cX8_readRule 256 = .ok (.imul, 1) := by decide +kernel
theorem dX8_readRule_257 : decode cX8_readRule 257 = .ok (.iload 5, 2) := by decide +kernel
theorem dX8_readRule_259 : decode cX8_readRule 259 = .ok (.iadd, 1) := by decide +kernel
theorem dX8_readRule_260 : decode cX8_readRule 260 = .ok (.aload_n 0, 1) := by decide +kernel
theorem dX8_readRule_261 : decode cX8_readRule 261 = .ok (.getfield 56, 3) := by decide +kernel
theorem dX8_readRule_264 : decode cX8_readRule 264 = .ok (.iload 5, 2) := by decide +kernel
theorem dX8_readRule_266 : decode cX8_readRule 266 = .ok (.iaload, 1) := by decide +kernel
theorem dX8_readRule_267 : decode cX8_readRule 267 = .ok (.iastore, 1) := by decide +kernel
theorem dX8_readRule_268 : decode cX8_readRule 268 = .ok (.iinc 5 1, 3) := by decide +kernel
theorem dX8_readRule_271 : decode cX8_readRule 271 = .ok (.goto (-32), 3) := by decide +kernel
theorem dX8_readRule_274 : decode cX8_readRule 274 = .ok (.aload_n 0, 1) := by decide +kernel
theorem dX8_readRule_275 : decode cX8_readRule 275 = .ok (.dup, 1) := by decide +kernel
theorem dX8_readRule_276 : decode cX8_readRule 276 = .ok (.getfield 190, 3) := by decide +kernel
theorem dX8_readRule_279 : decode cX8_readRule 279 = .ok (.iconst 1, 1) := by decide +kernel
theorem dX8_readRule_280 : decode cX8_readRule 280 = .ok (.iadd, 1) := by decide +kernel
theorem dX8_readRule_281 : decode cX8_readRule 281 = .ok (.putfield 190, 3) := by decide +kernel
theorem dX8_readRule_284 : decode cX8_readRule 284 = .ok (.return_, 1) := by decide +kernel
theorem dX8_rules_0 : decode cX8_rules 0 = .ok (.aload_n 0, 1) := by decide +kernel
theorem dX8_rules_1 : decode cX8_rules 1 = .ok (.iconst 0, 1) := by decide +kernel
theorem dX8_rules_2 : decode cX8_rules 2 = .ok (.putfield 1, 3) := by decide +kernel
theorem dX8_rules_5 : decode cX8_rules 5 = .ok (.aload_n 0, 1) := by decide +kernel
theorem dX8_rules_6 : decode cX8_rules 6 = .ok (.aload_n 0, 1) := by decide +kernel
theorem dX8_rules_7 : decode cX8_rules 7 = .ok (.getfield 140, 3) := by decide +kernel
theorem dX8_rules_10 : decode cX8_rules 10 = .ok (.putfield 145, 3) := by decide +kernel
theorem dX8_rules_13 : decode cX8_rules 13 = .ok (.aload_n 0, 1) := by decide +kernel
theorem dX8_rules_14 : decode cX8_rules 14 = .ok (.iconst 0, 1) := by decide +kernel
theorem dX8_rules_15 : decode cX8_rules 15 = .ok (.putfield 140, 3) := by decide +kernel
theorem dX8_rules_18 : decode cX8_rules 18 = .ok (.aload_n 0, 1) := by decide +kernel
theorem dX8_rules_19 : decode cX8_rules 19 = .ok (.iconst 0, 1) := by decide +kernel
theorem dX8_rules_20 : decode cX8_rules 20 = .ok (.putfield 148, 3) := by decide +kernel
theorem dX8_rules_23 : decode cX8_rules 23 = .ok (.aload_n 0, 1) := by decide +kernel
theorem dX8_rules_24 : decode cX8_rules 24 = .ok (.iconst 0, 1) := by decide +kernel
theorem dX8_rules_25 : decode cX8_rules 25 = .ok (.putfield 169, 3) := by decide +kernel
theorem dX8_rules_28 : decode cX8_rules 28 = .ok (.aload_n 0, 1) := by decide +kernel
theorem dX8_rules_29 : decode cX8_rules 29 = .ok (.iconst 0, 1) := by decide +kernel
theorem dX8_rules_30 : decode cX8_rules 30 = .ok (.putfield 190, 3) := by decide +kernel
theorem dX8_rules_33 : decode cX8_rules 33 = .ok (.aload_n 0, 1) := by decide +kernel
theorem dX8_rules_34 : decode cX8_rules 34 = .ok (.invokevirtual 179, 3) := by decide +kernel
theorem dX8_rules_37 : decode cX8_rules 37 = .ok (.aload_n 0, 1) := by decide +kernel
theorem dX8_rules_38 : decode cX8_rules 38 = .ok (.getfield 169, 3) := by decide +kernel
theorem dX8_rules_41 : decode cX8_rules 41 = .ok (.ifCond .ne 18, 3) := by decide +kernel
theorem dX8_rules_44 : decode cX8_rules 44 = .ok (.aload_n 0, 1) := by decide +kernel
theorem dX8_rules_45 : decode cX8_rules 45 = .ok (.getfield 157, 3) := by decide +kernel
theorem dX8_rules_48 : decode cX8_rules 48 = .ok (.iconst 1, 1) := by decide +kernel
theorem dX8_rules_49 : decode cX8_rules 49 = .ok (.if_icmp .eq 10, 3) := by decide +kernel
theorem dX8_rules_52 : decode cX8_rules 52 = .ok (.aload_n 0, 1) := by decide +kernel
theorem dX8_rules_53 : decode cX8_rules 53 = .ok (.invokevirtual 214, 3) := by decide +kernel
theorem dX8_rules_56 : decode cX8_rules 56 = .ok (.goto (-19), 3) := by decide +kernel
theorem dX8_rules_59 : decode cX8_rules 59 = .ok (.aload_n 0, 1) := by decide +kernel
theorem dX8_rules_60 : decode cX8_rules 60 = .ok (.getfield 169, 3) := by decide +kernel
theorem dX8_rules_63 : decode cX8_rules 63 = .ok (.ifCond .le 19, 3) := by decide +kernel
theorem dX8_rules_66 : decode cX8_rules 66 = .ok (.aload_n 0, 1) := by decide +kernel
theorem dX8_rules_67 : decode cX8_rules 67 = .ok (.aload_n 0, 1) := by decide +kernel
theorem dX8_rules_68 : decode cX8_rules 68 = .ok (.getfield 169, 3) := by decide +kernel
theorem dX8_rules_71 : decode cX8_rules 71 = .ok (.putfield 217, 3) := by decide +kernel
theorem dX8_rules_74 : decode cX8_rules 74 = .ok (.ldc 220, 2) := by decide +kernel
theorem dX8_rules_76 : decode cX8_rules 76 = .ok (.aload_n 0, 1) := by decide +kernel
theorem dX8_rules_77 : decode cX8_rules 77 = .ok (.getfield 172, 3) := by decide +kernel
theorem dX8_rules_80 : decode cX8_rules 80 = .ok (.isub, 1) := by decide +kernel
theorem dX8_rules_81 : decode cX8_rules 81 = .ok (.ireturn, 1) := by decide +kernel
theorem dX8_rules_82 : decode cX8_rules 82 = .ok (.aload_n 0, 1) := by decide +kernel
theorem dX8_rules_83 : decode cX8_rules 83 = .ok (.aload_n 0, 1) := by decide +kernel
theorem dX8_rules_84 : decode cX8_rules 84 = .ok (.getfield 190, 3) := by decide +kernel
theorem dX8_rules_87 : decode cX8_rules 87 = .ok (.putfield 118, 3) := by decide +kernel
theorem dX8_rules_90 : decode cX8_rules 90 = .ok (.iconst 0, 1) := by decide +kernel
theorem dX8_rules_91 : decode cX8_rules 91 = .ok (.istore_n 1, 1) := by decide +kernel
theorem dX8_rules_92 : decode cX8_rules 92 = .ok (.iload_n 1, 1) := by decide +kernel
theorem dX8_rules_93 : decode cX8_rules 93 = .ok (.aload_n 0, 1) := by decide +kernel
theorem dX8_rules_94 : decode cX8_rules 94 = .ok (.getfield 190, 3) := by decide +kernel
theorem dX8_rules_97 : decode cX8_rules 97 = .ok (.if_icmp .ge 69, 3) := by decide +kernel
theorem dX8_rules_100 : decode cX8_rules 100 = .ok (.aload_n 0, 1) := by decide +kernel
theorem dX8_rules_101 : decode cX8_rules 101 = .ok (.getfield 29, 3) := by decide +kernel
theorem dX8_rules_104 : decode cX8_rules 104 = .ok (.iload_n 1, 1) := by decide +kernel
theorem dX8_rules_105 : decode cX8_rules 105 = .ok (.aload_n 0, 1) := by decide +kernel
theorem dX8_rules_106 : decode cX8_rules 106 = .ok (.getfield 47, 3) := by decide +kernel
theorem dX8_rules_109 : decode cX8_rules 109 = .ok (.iload_n 1, 1) := by decide +kernel
theorem dX8_rules_110 : decode cX8_rules 110 = .ok (.iaload, 1) := by decide +kernel
theorem dX8_rules_111 : decode cX8_rules 111 = .ok (.iastore, 1) := by decide +kernel
theorem dX8_rules_112 : decode cX8_rules 112 = .ok (.aload_n 0, 1) := by decide +kernel
theorem dX8_rules_113 : decode cX8_rules 113 = .ok (.getfield 35, 3) := by decide +kernel
theorem dX8_rules_116 : decode cX8_rules 116 = .ok (.iload_n 1, 1) := by decide +kernel
theorem dX8_rules_117 : decode cX8_rules 117 = .ok (.aload_n 0, 1) := by decide +kernel
theorem dX8_rules_118 : decode cX8_rules 118 = .ok (.getfield 53, 3) := by decide +kernel
theorem dX8_rules_121 : decode cX8_rules 121 = .ok (.iload_n 1, 1) := by decide +kernel
theorem dX8_rules_122 : decode cX8_rules 122 = .ok (.iaload, 1) := by decide +kernel
theorem dX8_rules_123 : decode cX8_rules 123 = .ok (.iastore, 1) := by decide +kernel
theorem dX8_rules_124 : decode cX8_rules 124 = .ok (.iconst 0, 1) := by decide +kernel
theorem dX8_rules_125 : decode cX8_rules 125 = .ok (.istore_n 2, 1) := by decide +kernel
theorem dX8_rules_126 : decode cX8_rules 126 = .ok (.iload_n 2, 1) := by decide +kernel
theorem dX8_rules_127 : decode cX8_rules 127 = .ok (.bipush 8, 2) := by decide +kernel
theorem dX8_rules_129 : decode cX8_rules 129 = .ok (.if_icmp .ge 31, 3) := by decide +kernel
theorem dX8_rules_132 : decode cX8_rules 132 = .ok (.aload_n 0, 1) := by decide +kernel
theorem dX8_rules_133 : decode cX8_rules 133 = .ok (.getfield 32, 3) := by decide +kernel
theorem dX8_rules_136 : decode cX8_rules 136 = .ok (.bipush 8, 2) := by decide +kernel
theorem dX8_rules_138 : decode cX8_rules 138 = .ok (.iload_n 1, 1) := by decide +kernel
theorem dX8_rules_139 : decode cX8_rules 139 = .ok (.imul, 1) := by decide +kernel
theorem dX8_rules_140 : decode cX8_rules 140 = .ok (.iload_n 2, 1) := by decide +kernel
theorem dX8_rules_141 : decode cX8_rules 141 = .ok (.iadd, 1) := by decide +kernel
theorem dX8_rules_142 : decode cX8_rules 142 = .ok (.aload_n 0, 1) := by decide +kernel
theorem dX8_rules_143 : decode cX8_rules 143 = .ok (.getfield 50, 3) := by decide +kernel
theorem dX8_rules_146 : decode cX8_rules 146 = .ok (.bipush 8, 2) := by decide +kernel
theorem dX8_rules_148 : decode cX8_rules 148 = .ok (.iload_n 1, 1) := by decide +kernel
theorem dX8_rules_149 : decode cX8_rules 149 = .ok (.imul, 1) := by decide +kernel
theorem dX8_rules_150 : decode cX8_rules 150 = .ok (.iload_n 2, 1) := by decide +kernel
theorem dX8_rules_151 : decode cX8_rules 151 = .ok (.iadd, 1) := by decide +kernel
theorem dX8_rules_152 : decode cX8_rules 152 = .ok (.iaload, 1) := by decide +kernel
theorem dX8_rules_153 : decode cX8_rules 153 = .ok (.iastore, 1) := by decide +kernel
theorem dX8_rules_154 : decode cX8_rules 154 = .ok (.iinc 2 1, 3) := by decide +kernel
theorem dX8_rules_157 : decode cX8_rules 157 = .ok (.goto (-31), 3) := by decide +kernel
theorem dX8_rules_160 : decode cX8_rules 160 = .ok (.iinc 1 1, 3) := by decide +kernel
theorem dX8_rules_163 : decode cX8_rules 163 = .ok (.goto (-71), 3) := by decide +kernel
theorem dX8_rules_166 : decode cX8_rules 166 = .ok (.aload_n 0, 1) := by decide +kernel
theorem dX8_rules_167 : decode cX8_rules 167 = .ok (.getfield 118, 3) := by decide +kernel
theorem dX8_rules_170 : decode cX8_rules 170 = .ok (.ireturn, 1) := by decide +kernel
theorem dX8_fault_0 : decode cX8_fault 0 = .ok (.aload_n 0, 1) := by decide +kernel
theorem dX8_fault_1 : decode cX8_fault 1 = .ok (.iconst 0, 1) := by decide +kernel
theorem dX8_fault_2 : decode cX8_fault 2 = .ok (.putfield 1, 3) := by decide +kernel
theorem dX8_fault_5 : decode cX8_fault 5 = .ok (.aload_n 0, 1) := by decide +kernel
theorem dX8_fault_6 : decode cX8_fault 6 = .ok (.getfield 217, 3) := by decide +kernel
theorem dX8_fault_9 : decode cX8_fault 9 = .ok (.ireturn, 1) := by decide +kernel
theorem dX8_numberOfName_0 : decode cX8_numberOfName 0 = .ok (.ldc 110, 2) := by decide +kernel
theorem dX8_numberOfName_2 : decode cX8_numberOfName 2 = .ok (.istore_n 1, 1) := by decide +kernel
theorem dX8_numberOfName_3 : decode cX8_numberOfName 3 = .ok (.iconst 0, 1) := by decide +kernel
theorem dX8_numberOfName_4 : decode cX8_numberOfName 4 = .ok (.istore_n 2, 1) := by decide +kernel
theorem dX8_numberOfName_5 : decode cX8_numberOfName 5 = .ok (.iload_n 2, 1) := by decide +kernel
theorem dX8_numberOfName_6 : decode cX8_numberOfName 6 = .ok (.aload_n 0, 1) := by decide +kernel
theorem dX8_numberOfName_7 : decode cX8_numberOfName 7 = .ok (.getfield 221, 3) := by decide +kernel
theorem dX8_numberOfName_10 : decode cX8_numberOfName 10 = .ok (.if_icmp .ge 71, 3) := by decide +kernel
theorem dX8_numberOfName_13 : decode cX8_numberOfName 13 = .ok (.iconst 1, 1) := by decide +kernel
theorem dX8_numberOfName_14 : decode cX8_numberOfName 14 = .ok (.istore_n 3, 1) := by decide +kernel
theorem dX8_numberOfName_15 : decode cX8_numberOfName 15 = .ok (.iconst 0, 1) := by decide +kernel
theorem dX8_numberOfName_16 : decode cX8_numberOfName 16 = .ok (.istore 4, 2) := by decide +kernel
theorem dX8_numberOfName_18 : decode cX8_numberOfName 18 = .ok (.iload 4, 2) := by decide +kernel
theorem dX8_numberOfName_20 : decode cX8_numberOfName 20 = .ok (.aload_n 0, 1) := by decide +kernel
theorem dX8_numberOfName_21 : decode cX8_numberOfName 21 = .ok (.getfield 87, 3) := by decide +kernel
theorem dX8_numberOfName_24 : decode cX8_numberOfName 24 = .ok (.if_icmp .ge 41, 3) := by decide +kernel
theorem dX8_numberOfName_27 : decode cX8_numberOfName 27 = .ok (.iload_n 3, 1) := by decide +kernel
theorem dX8_numberOfName_28 : decode cX8_numberOfName 28 = .ok (.ifCond .eq 29, 3) := by decide +kernel
theorem dX8_numberOfName_31 : decode cX8_numberOfName 31 = .ok (.aload_n 0, 1) := by decide +kernel
theorem dX8_numberOfName_32 : decode cX8_numberOfName 32 = .ok (.getfield 59, 3) := by decide +kernel
theorem dX8_numberOfName_35 : decode cX8_numberOfName 35 = .ok (.bipush 9, 2) := by decide +kernel
theorem dX8_numberOfName_37 : decode cX8_numberOfName 37 = .ok (.iload_n 2, 1) := by decide +kernel
theorem dX8_numberOfName_38 : decode cX8_numberOfName 38 = .ok (.imul, 1) := by decide +kernel
theorem dX8_numberOfName_39 : decode cX8_numberOfName 39 = .ok (.iload 4, 2) := by decide +kernel
theorem dX8_numberOfName_41 : decode cX8_numberOfName 41 = .ok (.iadd, 1) := by decide +kernel
theorem dX8_numberOfName_42 : decode cX8_numberOfName 42 = .ok (.iaload, 1) := by decide +kernel
theorem dX8_numberOfName_43 : decode cX8_numberOfName 43 = .ok (.aload_n 0, 1) := by decide +kernel
theorem dX8_numberOfName_44 : decode cX8_numberOfName 44 = .ok (.getfield 38, 3) := by decide +kernel
theorem dX8_numberOfName_47 : decode cX8_numberOfName 47 = .ok (.iload 4, 2) := by decide +kernel
theorem dX8_numberOfName_49 : decode cX8_numberOfName 49 = .ok (.iaload, 1) := by decide +kernel
theorem dX8_numberOfName_50 : decode cX8_numberOfName 50 = .ok (.if_icmp .ne 7, 3) := by decide +kernel
theorem dX8_numberOfName_53 : decode cX8_numberOfName 53 = .ok (.iconst 1, 1) := by decide +kernel
theorem dX8_numberOfName_54 : decode cX8_numberOfName 54 = .ok (.goto 4, 3) := by decide +kernel
theorem dX8_numberOfName_57 : decode cX8_numberOfName 57 = .ok (.iconst 0, 1) := by decide +kernel
theorem dX8_numberOfName_58 : decode cX8_numberOfName 58 = .ok (.istore_n 3, 1) := by decide +kernel
theorem dX8_numberOfName_59 : decode cX8_numberOfName 59 = .ok (.iinc 4 1, 3) := by decide +kernel
theorem dX8_numberOfName_62 : decode cX8_numberOfName 62 = .ok (.goto (-44), 3) := by decide +kernel
theorem dX8_numberOfName_65 : decode cX8_numberOfName 65 = .ok (.iload_n 3, 1) := by decide +kernel
theorem dX8_numberOfName_66 : decode cX8_numberOfName 66 = .ok (.ifCond .eq 7, 3) := by decide +kernel
theorem dX8_numberOfName_69 : decode cX8_numberOfName 69 = .ok (.iload_n 2, 1) := by decide +kernel
theorem dX8_numberOfName_70 : decode cX8_numberOfName 70 = .ok (.goto 4, 3) := by decide +kernel
theorem dX8_numberOfName_73 : decode cX8_numberOfName 73 = .ok (.iload_n 1, 1) := by decide +kernel
theorem dX8_numberOfName_74 : decode cX8_numberOfName 74 = .ok (.istore_n 1, 1) := by decide +kernel
theorem dX8_numberOfName_75 : decode cX8_numberOfName 75 = .ok (.iinc 2 1, 3) := by decide +kernel
theorem dX8_numberOfName_78 : decode cX8_numberOfName 78 = .ok (.goto (-73), 3) := by decide +kernel
theorem dX8_numberOfName_81 : decode cX8_numberOfName 81 = .ok (.iload_n 1, 1) := by decide +kernel
theorem dX8_numberOfName_82 : decode cX8_numberOfName 82 = .ok (.ireturn, 1) := by decide +kernel
theorem dX8_listCrowds_0 : decode cX8_listCrowds 0 = .ok (.aload_n 0, 1) := by decide +kernel
theorem dX8_listCrowds_1 : decode cX8_listCrowds 1 = .ok (.iconst 0, 1) := by decide +kernel
theorem dX8_listCrowds_2 : decode cX8_listCrowds 2 = .ok (.putfield 221, 3) := by decide +kernel
theorem dX8_listCrowds_5 : decode cX8_listCrowds 5 = .ok (.iconst 1, 1) := by decide +kernel
theorem dX8_listCrowds_6 : decode cX8_listCrowds 6 = .ok (.istore_n 1, 1) := by decide +kernel
theorem dX8_listCrowds_7 : decode cX8_listCrowds 7 = .ok (.iconst 0, 1) := by decide +kernel
theorem dX8_listCrowds_8 : decode cX8_listCrowds 8 = .ok (.istore_n 2, 1) := by decide +kernel
theorem dX8_listCrowds_9 : decode cX8_listCrowds 9 = .ok (.iload_n 2, 1) := by decide +kernel
theorem dX8_listCrowds_10 : decode cX8_listCrowds 10 = .ok (.aload_n 0, 1) := by decide +kernel
theorem dX8_listCrowds_11 : decode cX8_listCrowds 11 = .ok (.getfield 99, 3) := by decide +kernel
theorem dX8_listCrowds_14 : decode cX8_listCrowds 14 = .ok (.if_icmp .ge 16, 3) := by decide +kernel
theorem dX8_listCrowds_17 : decode cX8_listCrowds 17 = .ok (.iload_n 1, 1) := by decide +kernel
theorem dX8_listCrowds_18 : decode cX8_listCrowds 18 = .ok (.aload_n 0, 1) := by decide +kernel
theorem dX8_listCrowds_19 : decode cX8_listCrowds 19 = .ok (.getfield 87, 3) := by decide +kernel
theorem dX8_listCrowds_22 : decode cX8_listCrowds 22 = .ok (.imul, 1) := by decide +kernel
theorem dX8_listCrowds_23 : decode cX8_listCrowds 23 = .ok (.istore_n 1, 1) := by decide +kernel
theorem dX8_listCrowds_24 : decode cX8_listCrowds 24 = .ok (.iinc 2 1, 3) := by decide +kernel
theorem dX8_listCrowds_27 : decode cX8_listCrowds 27 = .ok (.goto (-18), 3) := by decide +kernel
theorem dX8_listCrowds_30 : decode cX8_listCrowds 30 = .ok (.iconst 0, 1) := by decide +kernel
theorem dX8_listCrowds_31 : decode cX8_listCrowds 31 = .ok (.istore_n 2, 1) := by decide +kernel
theorem dX8_listCrowds_32 : decode cX8_listCrowds 32 = .ok (.iload_n 2, 1) := by decide +kernel
theorem dX8_listCrowds_33 : decode cX8_listCrowds 33 = .ok (.iload_n 1, 1) := by decide +kernel
theorem dX8_listCrowds_34 : decode cX8_listCrowds 34 = .ok (.if_icmp .ge 188, 3) := by decide +kernel
theorem dX8_listCrowds_37 : decode cX8_listCrowds 37 = .ok (.iconst 0, 1) := by decide +kernel
theorem dX8_listCrowds_38 : decode cX8_listCrowds 38 = .ok (.istore_n 3, 1) := by decide +kernel
theorem dX8_listCrowds_39 : decode cX8_listCrowds 39 = .ok (.iload_n 3, 1) := by decide +kernel
theorem dX8_listCrowds_40 : decode cX8_listCrowds 40 = .ok (.bipush 9, 2) := by decide +kernel
theorem dX8_listCrowds_42 : decode cX8_listCrowds 42 = .ok (.if_icmp .ge 16, 3) := by decide +kernel
theorem dX8_listCrowds_45 : decode cX8_listCrowds 45 = .ok (.aload_n 0, 1) := by decide +kernel
theorem dX8_listCrowds_46 : decode cX8_listCrowds 46 = .ok (.getfield 17, 3) := by decide +kernel
theorem dX8_listCrowds_49 : decode cX8_listCrowds 49 = .ok (.iload_n 3, 1) := by decide +kernel
theorem dX8_listCrowds_50 : decode cX8_listCrowds 50 = .ok (.iconst 0, 1) := by decide +kernel
theorem dX8_listCrowds_51 : decode cX8_listCrowds 51 = .ok (.iastore, 1) := by decide +kernel
theorem dX8_listCrowds_52 : decode cX8_listCrowds 52 = .ok (.iinc 3 1, 3) := by decide +kernel
theorem dX8_listCrowds_55 : decode cX8_listCrowds 55 = .ok (.goto (-16), 3) := by decide +kernel
theorem dX8_listCrowds_58 : decode cX8_listCrowds 58 = .ok (.iload_n 2, 1) := by decide +kernel
theorem dX8_listCrowds_59 : decode cX8_listCrowds 59 = .ok (.istore_n 3, 1) := by decide +kernel
theorem dX8_listCrowds_60 : decode cX8_listCrowds 60 = .ok (.iconst 0, 1) := by decide +kernel
theorem dX8_listCrowds_61 : decode cX8_listCrowds 61 = .ok (.istore 4, 2) := by decide +kernel
theorem dX8_listCrowds_63 : decode cX8_listCrowds 63 = .ok (.iload 4, 2) := by decide +kernel
theorem dX8_listCrowds_65 : decode cX8_listCrowds 65 = .ok (.aload_n 0, 1) := by decide +kernel
theorem dX8_listCrowds_66 : decode cX8_listCrowds 66 = .ok (.getfield 99, 3) := by decide +kernel
theorem dX8_listCrowds_69 : decode cX8_listCrowds 69 = .ok (.if_icmp .ge 31, 3) := by decide +kernel
theorem dX8_listCrowds_72 : decode cX8_listCrowds 72 = .ok (.aload_n 0, 1) := by decide +kernel
theorem dX8_listCrowds_73 : decode cX8_listCrowds 73 = .ok (.getfield 17, 3) := by decide +kernel
theorem dX8_listCrowds_76 : decode cX8_listCrowds 76 = .ok (.iload_n 3, 1) := by decide +kernel
theorem dX8_listCrowds_77 : decode cX8_listCrowds 77 = .ok (.aload_n 0, 1) := by decide +kernel
theorem dX8_listCrowds_78 : decode cX8_listCrowds 78 = .ok (.getfield 87, 3) := by decide +kernel
theorem dX8_listCrowds_81 : decode cX8_listCrowds 81 = .ok (.irem, 1) := by decide +kernel
theorem dX8_listCrowds_82 : decode cX8_listCrowds 82 = .ok (.dup2, 1) := by decide +kernel
theorem dX8_listCrowds_83 : decode cX8_listCrowds 83 = .ok (.iaload, 1) := by decide +kernel
theorem dX8_listCrowds_84 : decode cX8_listCrowds 84 = .ok (.iconst 1, 1) := by decide +kernel
theorem dX8_listCrowds_85 : decode cX8_listCrowds 85 = .ok (.iadd, 1) := by decide +kernel
theorem dX8_listCrowds_86 : decode cX8_listCrowds 86 = .ok (.iastore, 1) := by decide +kernel
theorem dX8_listCrowds_87 : decode cX8_listCrowds 87 = .ok (.iload_n 3, 1) := by decide +kernel
theorem dX8_listCrowds_88 : decode cX8_listCrowds 88 = .ok (.aload_n 0, 1) := by decide +kernel
theorem dX8_listCrowds_89 : decode cX8_listCrowds 89 = .ok (.getfield 87, 3) := by decide +kernel
theorem dX8_listCrowds_92 : decode cX8_listCrowds 92 = .ok (.idiv, 1) := by decide +kernel
theorem dX8_listCrowds_93 : decode cX8_listCrowds 93 = .ok (.istore_n 3, 1) := by decide +kernel
theorem dX8_listCrowds_94 : decode cX8_listCrowds 94 = .ok (.iinc 4 1, 3) := by decide +kernel
theorem dX8_listCrowds_97 : decode cX8_listCrowds 97 = .ok (.goto (-34), 3) := by decide +kernel
theorem dX8_listCrowds_100 : decode cX8_listCrowds 100 = .ok (.aload_n 0, 1) := by decide +kernel
theorem dX8_listCrowds_101 : decode cX8_listCrowds 101 = .ok (.invokevirtual 128, 3) := by decide +kernel
theorem dX8_listCrowds_104 : decode cX8_listCrowds 104 = .ok (.iconst 1, 1) := by decide +kernel
theorem dX8_listCrowds_105 : decode cX8_listCrowds 105 = .ok (.istore 4, 2) := by decide +kernel
theorem dX8_listCrowds_107 : decode cX8_listCrowds 107 = .ok (.iconst 0, 1) := by decide +kernel
theorem dX8_listCrowds_108 : decode cX8_listCrowds 108 = .ok (.istore 5, 2) := by decide +kernel
theorem dX8_listCrowds_110 : decode cX8_listCrowds 110 = .ok (.iload 5, 2) := by decide +kernel
theorem dX8_listCrowds_112 : decode cX8_listCrowds 112 = .ok (.aload_n 0, 1) := by decide +kernel
theorem dX8_listCrowds_113 : decode cX8_listCrowds 113 = .ok (.getfield 87, 3) := by decide +kernel
theorem dX8_listCrowds_116 : decode cX8_listCrowds 116 = .ok (.if_icmp .ge 38, 3) := by decide +kernel
theorem dX8_listCrowds_119 : decode cX8_listCrowds 119 = .ok (.iload 4, 2) := by decide +kernel
theorem dX8_listCrowds_121 : decode cX8_listCrowds 121 = .ok (.ifCond .eq 24, 3) := by decide +kernel
theorem dX8_listCrowds_124 : decode cX8_listCrowds 124 = .ok (.aload_n 0, 1) := by decide +kernel
theorem dX8_listCrowds_125 : decode cX8_listCrowds 125 = .ok (.getfield 38, 3) := by decide +kernel
theorem dX8_listCrowds_128 : decode cX8_listCrowds 128 = .ok (.iload 5, 2) := by decide +kernel
theorem dX8_listCrowds_130 : decode cX8_listCrowds 130 = .ok (.iaload, 1) := by decide +kernel
theorem dX8_listCrowds_131 : decode cX8_listCrowds 131 = .ok (.aload_n 0, 1) := by decide +kernel
theorem dX8_listCrowds_132 : decode cX8_listCrowds 132 = .ok (.getfield 17, 3) := by decide +kernel
theorem dX8_listCrowds_135 : decode cX8_listCrowds 135 = .ok (.iload 5, 2) := by decide +kernel
theorem dX8_listCrowds_137 : decode cX8_listCrowds 137 = .ok (.iaload, 1) := by decide +kernel
theorem dX8_listCrowds_138 : decode cX8_listCrowds 138 = .ok (.if_icmp .ne 7, 3) := by decide +kernel
theorem dX8_listCrowds_141 : decode cX8_listCrowds 141 = .ok (.iconst 1, 1) := by decide +kernel
theorem dX8_listCrowds_142 : decode cX8_listCrowds 142 = .ok (.goto 4, 3) := by decide +kernel
theorem dX8_listCrowds_145 : decode cX8_listCrowds 145 = .ok (.iconst 0, 1) := by decide +kernel
theorem dX8_listCrowds_146 : decode cX8_listCrowds 146 = .ok (.istore 4, 2) := by decide +kernel
theorem dX8_listCrowds_148 : decode cX8_listCrowds 148 = .ok (.iinc 5 1, 3) := by decide +kernel
theorem dX8_listCrowds_151 : decode cX8_listCrowds 151 = .ok (.goto (-41), 3) := by decide +kernel
theorem dX8_listCrowds_154 : decode cX8_listCrowds 154 = .ok (.iload 4, 2) := by decide +kernel
theorem dX8_listCrowds_156 : decode cX8_listCrowds 156 = .ok (.ifCond .eq 60, 3) := by decide +kernel
theorem dX8_listCrowds_159 : decode cX8_listCrowds 159 = .ok (.aload_n 0, 1) := by decide +kernel
theorem dX8_listCrowds_160 : decode cX8_listCrowds 160 = .ok (.invokevirtual 224, 3) := by decide +kernel
theorem dX8_listCrowds_163 : decode cX8_listCrowds 163 = .ok (.ldc 110, 2) := by decide +kernel
theorem dX8_listCrowds_165 : decode cX8_listCrowds 165 = .ok (.if_icmp .ne 51, 3) := by decide +kernel
theorem dX8_listCrowds_168 : decode cX8_listCrowds 168 = .ok (.iconst 0, 1) := by decide +kernel
theorem dX8_listCrowds_169 : decode cX8_listCrowds 169 = .ok (.istore 5, 2) := by decide +kernel
theorem dX8_listCrowds_171 : decode cX8_listCrowds 171 = .ok (.iload 5, 2) := by decide +kernel
theorem dX8_listCrowds_173 : decode cX8_listCrowds 173 = .ok (.bipush 9, 2) := by decide +kernel
theorem dX8_listCrowds_175 : decode cX8_listCrowds 175 = .ok (.if_icmp .ge 31, 3) := by decide +kernel
theorem dX8_listCrowds_178 : decode cX8_listCrowds 178 = .ok (.aload_n 0, 1) := by decide +kernel
theorem dX8_listCrowds_179 : decode cX8_listCrowds 179 = .ok (.getfield 59, 3) := by decide +kernel
theorem dX8_listCrowds_182 : decode cX8_listCrowds 182 = .ok (.bipush 9, 2) := by decide +kernel
theorem dX8_listCrowds_184 : decode cX8_listCrowds 184 = .ok (.aload_n 0, 1) := by decide +kernel
theorem dX8_listCrowds_185 : decode cX8_listCrowds 185 = .ok (.getfield 221, 3) := by decide +kernel
theorem dX8_listCrowds_188 : decode cX8_listCrowds 188 = .ok (.imul, 1) := by decide +kernel
theorem dX8_listCrowds_189 : decode cX8_listCrowds 189 = .ok (.iload 5, 2) := by decide +kernel
theorem dX8_listCrowds_191 : decode cX8_listCrowds 191 = .ok (.iadd, 1) := by decide +kernel
theorem dX8_listCrowds_192 : decode cX8_listCrowds 192 = .ok (.aload_n 0, 1) := by decide +kernel
theorem dX8_listCrowds_193 : decode cX8_listCrowds 193 = .ok (.getfield 38, 3) := by decide +kernel
theorem dX8_listCrowds_196 : decode cX8_listCrowds 196 = .ok (.iload 5, 2) := by decide +kernel
theorem dX8_listCrowds_198 : decode cX8_listCrowds 198 = .ok (.iaload, 1) := by decide +kernel
theorem dX8_listCrowds_199 : decode cX8_listCrowds 199 = .ok (.iastore, 1) := by decide +kernel
theorem dX8_listCrowds_200 : decode cX8_listCrowds 200 = .ok (.iinc 5 1, 3) := by decide +kernel
theorem dX8_listCrowds_203 : decode cX8_listCrowds 203 = .ok (.goto (-32), 3) := by decide +kernel
theorem dX8_listCrowds_206 : decode cX8_listCrowds 206 = .ok (.aload_n 0, 1) := by decide +kernel
theorem dX8_listCrowds_207 : decode cX8_listCrowds 207 = .ok (.dup, 1) := by decide +kernel
theorem dX8_listCrowds_208 : decode cX8_listCrowds 208 = .ok (.getfield 221, 3) := by decide +kernel
theorem dX8_listCrowds_211 : decode cX8_listCrowds 211 = .ok (.iconst 1, 1) := by decide +kernel
theorem dX8_listCrowds_212 : decode cX8_listCrowds 212 = .ok (.iadd, 1) := by decide +kernel
theorem dX8_listCrowds_213 : decode cX8_listCrowds 213 = .ok (.putfield 221, 3) := by decide +kernel
theorem dX8_listCrowds_216 : decode cX8_listCrowds 216 = .ok (.iinc 2 1, 3) := by decide +kernel
theorem dX8_listCrowds_219 : decode cX8_listCrowds 219 = .ok (.goto (-187), 3) := by decide +kernel
theorem dX8_listCrowds_222 : decode cX8_listCrowds 222 = .ok (.return_, 1) := by decide +kernel
theorem dX8_findSteps_0 : decode cX8_findSteps 0 = .ok (.iconst 0, 1) := by decide +kernel
theorem dX8_findSteps_1 : decode cX8_findSteps 1 = .ok (.istore_n 3, 1) := by decide +kernel
theorem dX8_findSteps_2 : decode cX8_findSteps 2 = .ok (.iconst 0, 1) := by decide +kernel
theorem dX8_findSteps_3 : decode cX8_findSteps 3 = .ok (.istore 4, 2) := by decide +kernel
theorem dX8_findSteps_5 : decode cX8_findSteps 5 = .ok (.iload 4, 2) := by decide +kernel
theorem dX8_findSteps_7 : decode cX8_findSteps 7 = .ok (.bipush 9, 2) := by decide +kernel
theorem dX8_findSteps_9 : decode cX8_findSteps 9 = .ok (.if_icmp .ge 42, 3) := by decide +kernel
theorem dX8_findSteps_12 : decode cX8_findSteps 12 = .ok (.aload_n 0, 1) := by decide +kernel
theorem dX8_findSteps_13 : decode cX8_findSteps 13 = .ok (.getfield 81, 3) := by decide +kernel
theorem dX8_findSteps_16 : decode cX8_findSteps 16 = .ok (.iload 4, 2) := by decide +kernel
theorem dX8_findSteps_18 : decode cX8_findSteps 18 = .ok (.aload_n 0, 1) := by decide +kernel
theorem dX8_findSteps_19 : decode cX8_findSteps 19 = .ok (.getfield 59, 3) := by decide +kernel
theorem dX8_findSteps_22 : decode cX8_findSteps 22 = .ok (.bipush 9, 2) := by decide +kernel
theorem dX8_findSteps_24 : decode cX8_findSteps 24 = .ok (.iload_n 1, 1) := by decide +kernel
theorem dX8_findSteps_25 : decode cX8_findSteps 25 = .ok (.imul, 1) := by decide +kernel
theorem dX8_findSteps_26 : decode cX8_findSteps 26 = .ok (.iload 4, 2) := by decide +kernel
theorem dX8_findSteps_28 : decode cX8_findSteps 28 = .ok (.iadd, 1) := by decide +kernel
theorem dX8_findSteps_29 : decode cX8_findSteps 29 = .ok (.iaload, 1) := by decide +kernel
theorem dX8_findSteps_30 : decode cX8_findSteps 30 = .ok (.iastore, 1) := by decide +kernel
theorem dX8_findSteps_31 : decode cX8_findSteps 31 = .ok (.aload_n 0, 1) := by decide +kernel
theorem dX8_findSteps_32 : decode cX8_findSteps 32 = .ok (.getfield 17, 3) := by decide +kernel
theorem dX8_findSteps_35 : decode cX8_findSteps 35 = .ok (.iload 4, 2) := by decide +kernel
theorem dX8_findSteps_37 : decode cX8_findSteps 37 = .ok (.aload_n 0, 1) := by decide +kernel
theorem dX8_findSteps_38 : decode cX8_findSteps 38 = .ok (.getfield 81, 3) := by decide +kernel
theorem dX8_findSteps_41 : decode cX8_findSteps 41 = .ok (.iload 4, 2) := by decide +kernel
theorem dX8_findSteps_43 : decode cX8_findSteps 43 = .ok (.iaload, 1) := by decide +kernel
theorem dX8_findSteps_44 : decode cX8_findSteps 44 = .ok (.iastore, 1) := by decide +kernel
theorem dX8_findSteps_45 : decode cX8_findSteps 45 = .ok (.iinc 4 1, 3) := by decide +kernel
theorem dX8_findSteps_48 : decode cX8_findSteps 48 = .ok (.goto (-43), 3) := by decide +kernel
theorem dX8_findSteps_51 : decode cX8_findSteps 51 = .ok (.iconst 0, 1) := by decide +kernel
theorem dX8_findSteps_52 : decode cX8_findSteps 52 = .ok (.istore 4, 2) := by decide +kernel
theorem dX8_findSteps_54 : decode cX8_findSteps 54 = .ok (.iload 4, 2) := by decide +kernel
theorem dX8_findSteps_56 : decode cX8_findSteps 56 = .ok (.aload_n 0, 1) := by decide +kernel
theorem dX8_findSteps_57 : decode cX8_findSteps 57 = .ok (.getfield 87, 3) := by decide +kernel
theorem dX8_findSteps_60 : decode cX8_findSteps 60 = .ok (.if_icmp .ge 76, 3) := by decide +kernel
theorem dX8_findSteps_63 : decode cX8_findSteps 63 = .ok (.aload_n 0, 1) := by decide +kernel
theorem dX8_findSteps_64 : decode cX8_findSteps 64 = .ok (.getfield 81, 3) := by decide +kernel
theorem dX8_findSteps_67 : decode cX8_findSteps 67 = .ok (.iload 4, 2) := by decide +kernel
theorem dX8_findSteps_69 : decode cX8_findSteps 69 = .ok (.iaload, 1) := by decide +kernel
theorem dX8_findSteps_70 : decode cX8_findSteps 70 = .ok (.ifCond .ne 7, 3) := by decide +kernel
theorem dX8_findSteps_73 : decode cX8_findSteps 73 = .ok (.iconst 0, 1) := by decide +kernel
theorem dX8_findSteps_74 : decode cX8_findSteps 74 = .ok (.goto 9, 3) := by decide +kernel
theorem dX8_findSteps_77 : decode cX8_findSteps 77 = .ok (.aload_n 0, 1) := by decide +kernel
theorem dX8_findSteps_78 : decode cX8_findSteps 78 = .ok (.iload 4, 2) := by decide +kernel
theorem dX8_findSteps_80 : decode cX8_findSteps 80 = .ok (.invokevirtual 121, 3) := by decide +kernel
theorem dX8_findSteps_83 : decode cX8_findSteps 83 = .ok (.istore 5, 2) := by decide +kernel
theorem dX8_findSteps_85 : decode cX8_findSteps 85 = .ok (.iconst 0, 1) := by decide +kernel
theorem dX8_findSteps_86 : decode cX8_findSteps 86 = .ok (.istore 6, 2) := by decide +kernel
theorem dX8_findSteps_88 : decode cX8_findSteps 88 = .ok (.iload 6, 2) := by decide +kernel
theorem dX8_findSteps_90 : decode cX8_findSteps 90 = .ok (.aload_n 0, 1) := by decide +kernel
theorem dX8_findSteps_91 : decode cX8_findSteps 91 = .ok (.getfield 81, 3) := by decide +kernel
theorem dX8_findSteps_94 : decode cX8_findSteps 94 = .ok (.iload 4, 2) := by decide +kernel
theorem dX8_findSteps_96 : decode cX8_findSteps 96 = .ok (.iaload, 1) := by decide +kernel
theorem dX8_findSteps_97 : decode cX8_findSteps 97 = .ok (.if_icmp .ge 33, 3) := by decide +kernel
theorem dX8_findSteps_100 : decode cX8_findSteps 100 = .ok (.iload 5, 2) := by decide +kernel
theorem dX8_findSteps_102 : decode cX8_findSteps 102 = .ok (.ifCond .eq 28, 3) := by decide +kernel
theorem dX8_findSteps_105 : decode cX8_findSteps 105 = .ok (.aload_n 0, 1) := by decide +kernel
theorem dX8_findSteps_106 : decode cX8_findSteps 106 = .ok (.getfield 75, 3) := by decide +kernel
theorem dX8_findSteps_109 : decode cX8_findSteps 109 = .ok (.iload_n 3, 1) := by decide +kernel
theorem dX8_findSteps_110 : decode cX8_findSteps 110 = .ok (.iload 4, 2) := by decide +kernel
theorem dX8_findSteps_112 : decode cX8_findSteps 112 = .ok (.iastore, 1) := by decide +kernel
theorem dX8_findSteps_113 : decode cX8_findSteps 113 = .ok (.aload_n 0, 1) := by decide +kernel
theorem dX8_findSteps_114 : decode cX8_findSteps 114 = .ok (.getfield 78, 3) := by decide +kernel
theorem dX8_findSteps_117 : decode cX8_findSteps 117 = .ok (.iload_n 3, 1) := by decide +kernel
theorem dX8_findSteps_118 : decode cX8_findSteps 118 = .ok (.iload 5, 2) := by decide +kernel
theorem dX8_findSteps_120 : decode cX8_findSteps 120 = .ok (.iastore, 1) := by decide +kernel
theorem dX8_findSteps_121 : decode cX8_findSteps 121 = .ok (.iinc 3 1, 3) := by decide +kernel
theorem dX8_findSteps_124 : decode cX8_findSteps 124 = .ok (.iinc 6 1, 3) := by decide +kernel
theorem dX8_findSteps_127 : decode cX8_findSteps 127 = .ok (.goto (-39), 3) := by decide +kernel
theorem dX8_findSteps_130 : decode cX8_findSteps 130 = .ok (.iinc 4 1, 3) := by decide +kernel
theorem dX8_findSteps_133 : decode cX8_findSteps 133 = .ok (.goto (-79), 3) := by decide +kernel
theorem dX8_findSteps_136 : decode cX8_findSteps 136 = .ok (.iconst 1, 1) := by decide +kernel
theorem dX8_findSteps_137 : decode cX8_findSteps 137 = .ok (.istore 4, 2) := by decide +kernel
theorem dX8_findSteps_139 : decode cX8_findSteps 139 = .ok (.iload 4, 2) := by decide +kernel
theorem dX8_findSteps_141 : decode cX8_findSteps 141 = .ok (.iconst 1, 1) := by decide +kernel
theorem dX8_findSteps_142 : decode cX8_findSteps 142 = .ok (.iload_n 3, 1) := by decide +kernel
theorem dX8_findSteps_143 : decode cX8_findSteps 143 = .ok (.ishl, 1) := by decide +kernel
theorem dX8_findSteps_144 : decode cX8_findSteps 144 = .ok (.if_icmp .ge 231, 3) := by decide +kernel
theorem dX8_findSteps_147 : decode cX8_findSteps 147 = .ok (.iload_n 2, 1) := by decide +kernel
theorem dX8_findSteps_148 : decode cX8_findSteps 148 = .ok (.iconst 2, 1) := by decide +kernel
theorem dX8_findSteps_149 : decode cX8_findSteps 149 = .ok (.if_icmp .eq 32, 3) := by decide +kernel
theorem dX8_findSteps_152 : decode cX8_findSteps 152 = .ok (.iload_n 2, 1) := by decide +kernel
theorem dX8_findSteps_153 : decode cX8_findSteps 153 = .ok (.ifCond .ne 13, 3) := by decide +kernel
theorem dX8_findSteps_156 : decode cX8_findSteps 156 = .ok (.iload 4, 2) := by decide +kernel
theorem dX8_findSteps_158 : decode cX8_findSteps 158 = .ok (.iconst 1, 1) := by decide +kernel
theorem dX8_findSteps_159 : decode cX8_findSteps 159 = .ok (.iload_n 3, 1) := by decide +kernel
theorem dX8_findSteps_160 : decode cX8_findSteps 160 = .ok (.ishl, 1) := by decide +kernel
theorem dX8_findSteps_161 : decode cX8_findSteps 161 = .ok (.iconst 1, 1) := by decide +kernel
theorem dX8_findSteps_162 : decode cX8_findSteps 162 = .ok (.isub, 1) := by decide +kernel
theorem dX8_findSteps_163 : decode cX8_findSteps 163 = .ok (.if_icmp .eq 18, 3) := by decide +kernel
theorem dX8_findSteps_166 : decode cX8_findSteps 166 = .ok (.iload_n 2, 1) := by decide +kernel
theorem dX8_findSteps_167 : decode cX8_findSteps 167 = .ok (.iconst 1, 1) := by decide +kernel
theorem dX8_findSteps_168 : decode cX8_findSteps 168 = .ok (.if_icmp .ne 17, 3) := by decide +kernel
theorem dX8_findSteps_171 : decode cX8_findSteps 171 = .ok (.iload 4, 2) := by decide +kernel
theorem dX8_findSteps_173 : decode cX8_findSteps 173 = .ok (.iload 4, 2) := by decide +kernel
theorem dX8_findSteps_175 : decode cX8_findSteps 175 = .ok (.iconst 1, 1) := by decide +kernel
theorem dX8_findSteps_176 : decode cX8_findSteps 176 = .ok (.isub, 1) := by decide +kernel
theorem dX8_findSteps_177 : decode cX8_findSteps 177 = .ok (.iand, 1) := by decide +kernel
theorem dX8_findSteps_178 : decode cX8_findSteps 178 = .ok (.ifCond .ne 7, 3) := by decide +kernel
theorem dX8_findSteps_181 : decode cX8_findSteps 181 = .ok (.iconst 1, 1) := by decide +kernel
theorem dX8_findSteps_182 : decode cX8_findSteps 182 = .ok (.goto 4, 3) := by decide +kernel
theorem dX8_findSteps_185 : decode cX8_findSteps 185 = .ok (.iconst 0, 1) := by decide +kernel
theorem dX8_findSteps_186 : decode cX8_findSteps 186 = .ok (.istore 5, 2) := by decide +kernel
theorem dX8_findSteps_188 : decode cX8_findSteps 188 = .ok (.iconst 0, 1) := by decide +kernel
theorem dX8_findSteps_189 : decode cX8_findSteps 189 = .ok (.istore 6, 2) := by decide +kernel
theorem dX8_findSteps_191 : decode cX8_findSteps 191 = .ok (.iload 6, 2) := by decide +kernel
theorem dX8_findSteps_193 : decode cX8_findSteps 193 = .ok (.iconst 1, 1) := by decide +kernel
theorem dX8_findSteps_194 : decode cX8_findSteps 194 = .ok (.iload_n 3, 1) := by decide +kernel
theorem dX8_findSteps_195 : decode cX8_findSteps 195 = .ok (.ishl, 1) := by decide +kernel
theorem dX8_findSteps_196 : decode cX8_findSteps 196 = .ok (.if_icmp .ge 173, 3) := by decide +kernel
theorem dX8_findSteps_199 : decode cX8_findSteps 199 = .ok (.iload 5, 2) := by decide +kernel
theorem dX8_findSteps_201 : decode cX8_findSteps 201 = .ok (.ifCond .eq 168, 3) := by decide +kernel
theorem dX8_findSteps_204 : decode cX8_findSteps 204 = .ok (.iconst 0, 1) := by decide +kernel
theorem dX8_findSteps_205 : decode cX8_findSteps 205 = .ok (.istore 7, 2) := by decide +kernel
theorem dX8_findSteps_207 : decode cX8_findSteps 207 = .ok (.iload 7, 2) := by decide +kernel
theorem dX8_findSteps_209 : decode cX8_findSteps 209 = .ok (.bipush 9, 2) := by decide +kernel
theorem dX8_findSteps_211 : decode cX8_findSteps 211 = .ok (.if_icmp .ge 23, 3) := by decide +kernel
theorem dX8_findSteps_214 : decode cX8_findSteps 214 = .ok (.aload_n 0, 1) := by decide +kernel
theorem dX8_findSteps_215 : decode cX8_findSteps 215 = .ok (.getfield 17, 3) := by decide +kernel
theorem dX8_findSteps_218 : decode cX8_findSteps 218 = .ok (.iload 7, 2) := by decide +kernel
theorem dX8_findSteps_220 : decode cX8_findSteps 220 = .ok (.aload_n 0, 1) := by decide +kernel
theorem dX8_findSteps_221 : decode cX8_findSteps 221 = .ok (.getfield 81, 3) := by decide +kernel
theorem dX8_findSteps_224 : decode cX8_findSteps 224 = .ok (.iload 7, 2) := by decide +kernel
theorem dX8_findSteps_226 : decode cX8_findSteps 226 = .ok (.iaload, 1) := by decide +kernel
theorem dX8_findSteps_227 : decode cX8_findSteps 227 = .ok (.iastore, 1) := by decide +kernel
theorem dX8_findSteps_228 : decode cX8_findSteps 228 = .ok (.iinc 7 1, 3) := by decide +kernel
theorem dX8_findSteps_231 : decode cX8_findSteps 231 = .ok (.goto (-24), 3) := by decide +kernel
theorem dX8_findSteps_234 : decode cX8_findSteps 234 = .ok (.iconst 0, 1) := by decide +kernel
theorem dX8_findSteps_235 : decode cX8_findSteps 235 = .ok (.istore 7, 2) := by decide +kernel
theorem dX8_findSteps_237 : decode cX8_findSteps 237 = .ok (.iload 7, 2) := by decide +kernel
theorem dX8_findSteps_239 : decode cX8_findSteps 239 = .ok (.iload_n 3, 1) := by decide +kernel
theorem dX8_findSteps_240 : decode cX8_findSteps 240 = .ok (.if_icmp .ge 104, 3) := by decide +kernel
theorem dX8_findSteps_243 : decode cX8_findSteps 243 = .ok (.iload 4, 2) := by decide +kernel
theorem dX8_findSteps_245 : decode cX8_findSteps 245 = .ok (.iload 7, 2) := by decide +kernel
theorem dX8_findSteps_247 : decode cX8_findSteps 247 = .ok (.ishr, 1) := by decide +kernel
theorem dX8_findSteps_248 : decode cX8_findSteps 248 = .ok (.iconst 1, 1) := by decide +kernel
theorem dX8_findSteps_249 : decode cX8_findSteps 249 = .ok (.iand, 1) := by decide +kernel
theorem dX8_findSteps_250 : decode cX8_findSteps 250 = .ok (.iconst 1, 1) := by decide +kernel
theorem dX8_findSteps_251 : decode cX8_findSteps 251 = .ok (.if_icmp .ne 87, 3) := by decide +kernel
theorem dX8_findSteps_254 : decode cX8_findSteps 254 = .ok (.aload_n 0, 1) := by decide +kernel
theorem dX8_findSteps_255 : decode cX8_findSteps 255 = .ok (.getfield 78, 3) := by decide +kernel
theorem dX8_findSteps_258 : decode cX8_findSteps 258 = .ok (.iload 7, 2) := by decide +kernel
theorem dX8_findSteps_260 : decode cX8_findSteps 260 = .ok (.iaload, 1) := by decide +kernel
theorem dX8_findSteps_261 : decode cX8_findSteps 261 = .ok (.iconst 2, 1) := by decide +kernel
theorem dX8_findSteps_262 : decode cX8_findSteps 262 = .ok (.if_icmp .ne 22, 3) := by decide +kernel
theorem dX8_findSteps_265 : decode cX8_findSteps 265 = .ok (.iload 6, 2) := by decide +kernel
theorem dX8_findSteps_267 : decode cX8_findSteps 267 = .ok (.iload 7, 2) := by decide +kernel
theorem dX8_findSteps_269 : decode cX8_findSteps 269 = .ok (.ishr, 1) := by decide +kernel
theorem dX8_findSteps_270 : decode cX8_findSteps 270 = .ok (.iconst 1, 1) := by decide +kernel
theorem dX8_findSteps_271 : decode cX8_findSteps 271 = .ok (.iand, 1) := by decide +kernel
theorem dX8_findSteps_272 : decode cX8_findSteps 272 = .ok (.iconst 1, 1) := by decide +kernel
theorem dX8_findSteps_273 : decode cX8_findSteps 273 = .ok (.if_icmp .ne 7, 3) := by decide +kernel
theorem dX8_findSteps_276 : decode cX8_findSteps 276 = .ok (.iconst 1, 1) := by decide +kernel
theorem dX8_findSteps_277 : decode cX8_findSteps 277 = .ok (.goto 14, 3) := by decide +kernel
theorem dX8_findSteps_280 : decode cX8_findSteps 280 = .ok (.iconst (-1), 1) := by decide +kernel
theorem dX8_findSteps_281 : decode cX8_findSteps 281 = .ok (.goto 10, 3) := by decide +kernel
theorem dX8_findSteps_284 : decode cX8_findSteps 284 = .ok (.aload_n 0, 1) := by decide +kernel
theorem dX8_findSteps_285 : decode cX8_findSteps 285 = .ok (.getfield 78, 3) := by decide +kernel
theorem dX8_findSteps_288 : decode cX8_findSteps 288 = .ok (.iload 7, 2) := by decide +kernel
theorem dX8_findSteps_290 : decode cX8_findSteps 290 = .ok (.iaload, 1) := by decide +kernel
theorem dX8_findSteps_291 : decode cX8_findSteps 291 = .ok (.istore 8, 2) := by decide +kernel
theorem dX8_findSteps_293 : decode cX8_findSteps 293 = .ok (.aload_n 0, 1) := by decide +kernel
theorem dX8_findSteps_294 : decode cX8_findSteps 294 = .ok (.getfield 17, 3) := by decide +kernel
theorem dX8_findSteps_297 : decode cX8_findSteps 297 = .ok (.aload_n 0, 1) := by decide +kernel
theorem dX8_findSteps_298 : decode cX8_findSteps 298 = .ok (.getfield 75, 3) := by decide +kernel
theorem dX8_findSteps_301 : decode cX8_findSteps 301 = .ok (.iload 7, 2) := by decide +kernel
theorem dX8_findSteps_303 : decode cX8_findSteps 303 = .ok (.iaload, 1) := by decide +kernel
theorem dX8_findSteps_304 : decode cX8_findSteps 304 = .ok (.dup2, 1) := by decide +kernel
theorem dX8_findSteps_305 : decode cX8_findSteps 305 = .ok (.iaload, 1) := by decide +kernel
theorem dX8_findSteps_306 : decode cX8_findSteps 306 = .ok (.iconst 1, 1) := by decide +kernel
theorem dX8_findSteps_307 : decode cX8_findSteps 307 = .ok (.isub, 1) := by decide +kernel
theorem dX8_findSteps_308 : decode cX8_findSteps 308 = .ok (.iastore, 1) := by decide +kernel
theorem dX8_findSteps_309 : decode cX8_findSteps 309 = .ok (.aload_n 0, 1) := by decide +kernel
theorem dX8_findSteps_310 : decode cX8_findSteps 310 = .ok (.getfield 17, 3) := by decide +kernel
theorem dX8_findSteps_313 : decode cX8_findSteps 313 = .ok (.aload_n 0, 1) := by decide +kernel
theorem dX8_findSteps_314 : decode cX8_findSteps 314 = .ok (.getfield 75, 3) := by decide +kernel
theorem dX8_findSteps_317 : decode cX8_findSteps 317 = .ok (.iload 7, 2) := by decide +kernel
theorem dX8_findSteps_319 : decode cX8_findSteps 319 = .ok (.iaload, 1) := by decide +kernel
theorem dX8_findSteps_320 : decode cX8_findSteps 320 = .ok (.iload 8, 2) := by decide +kernel
theorem dX8_findSteps_322 : decode cX8_findSteps 322 = .ok (.iadd, 1) := by decide +kernel
theorem dX8_findSteps_323 : decode cX8_findSteps 323 = .ok (.aload_n 0, 1) := by decide +kernel
theorem dX8_findSteps_324 : decode cX8_findSteps 324 = .ok (.getfield 87, 3) := by decide +kernel
theorem dX8_findSteps_327 : decode cX8_findSteps 327 = .ok (.iadd, 1) := by decide +kernel
theorem dX8_findSteps_328 : decode cX8_findSteps 328 = .ok (.aload_n 0, 1) := by decide +kernel
theorem dX8_findSteps_329 : decode cX8_findSteps 329 = .ok (.getfield 87, 3) := by decide +kernel
theorem dX8_findSteps_332 : decode cX8_findSteps 332 = .ok (.irem, 1) := by decide +kernel
theorem dX8_findSteps_333 : decode cX8_findSteps 333 = .ok (.dup2, 1) := by decide +kernel
theorem dX8_findSteps_334 : decode cX8_findSteps 334 = .ok (.iaload, 1) := by decide +kernel
theorem dX8_findSteps_335 : decode cX8_findSteps 335 = .ok (.iconst 1, 1) := by decide +kernel
theorem dX8_findSteps_336 : decode cX8_findSteps 336 = .ok (.iadd, 1) := by decide +kernel
theorem dX8_findSteps_337 : decode cX8_findSteps 337 = .ok (.iastore, 1) := by decide +kernel
theorem dX8_findSteps_338 : decode cX8_findSteps 338 = .ok (.iinc 7 1, 3) := by decide +kernel
theorem dX8_findSteps_341 : decode cX8_findSteps 341 = .ok (.goto (-104), 3) := by decide +kernel
theorem dX8_findSteps_344 : decode cX8_findSteps 344 = .ok (.aload_n 0, 1) := by decide +kernel
theorem dX8_findSteps_345 : decode cX8_findSteps 345 = .ok (.invokevirtual 128, 3) := by decide +kernel
theorem dX8_findSteps_348 : decode cX8_findSteps 348 = .ok (.aload_n 0, 1) := by decide +kernel
theorem dX8_findSteps_349 : decode cX8_findSteps 349 = .ok (.getfield 62, 3) := by decide +kernel
theorem dX8_findSteps_352 : decode cX8_findSteps 352 = .ok (.bipush 120, 2) := by decide +kernel
theorem dX8_findSteps_354 : decode cX8_findSteps 354 = .ok (.iload_n 1, 1) := by decide +kernel
theorem dX8_findSteps_355 : decode cX8_findSteps 355 = .ok (.imul, 1) := by decide +kernel
theorem dX8_findSteps_356 : decode cX8_findSteps 356 = .ok (.aload_n 0, 1) := by decide +kernel
theorem dX8_findSteps_357 : decode cX8_findSteps 357 = .ok (.invokevirtual 224, 3) := by decide +kernel
theorem dX8_findSteps_360 : decode cX8_findSteps 360 = .ok (.iadd, 1) := by decide +kernel
theorem dX8_findSteps_361 : decode cX8_findSteps 361 = .ok (.iconst 1, 1) := by decide +kernel
theorem dX8_findSteps_362 : decode cX8_findSteps 362 = .ok (.bastore, 1) := by decide +kernel
theorem dX8_findSteps_363 : decode cX8_findSteps 363 = .ok (.iinc 6 1, 3) := by decide +kernel
theorem dX8_findSteps_366 : decode cX8_findSteps 366 = .ok (.goto (-175), 3) := by decide +kernel
theorem dX8_findSteps_369 : decode cX8_findSteps 369 = .ok (.iinc 4 1, 3) := by decide +kernel
theorem dX8_findSteps_372 : decode cX8_findSteps 372 = .ok (.goto (-233), 3) := by decide +kernel
theorem dX8_findSteps_375 : decode cX8_findSteps 375 = .ok (.return_, 1) := by decide +kernel
theorem dX8_prove_0 : decode cX8_prove 0 = .ok (.aload_n 0, 1) := by decide +kernel
theorem dX8_prove_1 : decode cX8_prove 1 = .ok (.invokevirtual 227, 3) := by decide +kernel
theorem dX8_prove_4 : decode cX8_prove 4 = .ok (.iconst 0, 1) := by decide +kernel
theorem dX8_prove_5 : decode cX8_prove 5 = .ok (.istore_n 3, 1) := by decide +kernel
theorem dX8_prove_6 : decode cX8_prove 6 = .ok (.iload_n 3, 1) := by decide +kernel
theorem dX8_prove_7 : decode cX8_prove 7 = .ok (.sipush 14400, 3) := by decide +kernel
theorem dX8_prove_10 : decode cX8_prove 10 = .ok (.if_icmp .ge 16, 3) := by decide +kernel
theorem dX8_prove_13 : decode cX8_prove 13 = .ok (.aload_n 0, 1) := by decide +kernel
theorem dX8_prove_14 : decode cX8_prove 14 = .ok (.getfield 62, 3) := by decide +kernel
theorem dX8_prove_17 : decode cX8_prove 17 = .ok (.iload_n 3, 1) := by decide +kernel
theorem dX8_prove_18 : decode cX8_prove 18 = .ok (.iconst 0, 1) := by decide +kernel
theorem dX8_prove_19 : decode cX8_prove 19 = .ok (.bastore, 1) := by decide +kernel
theorem dX8_prove_20 : decode cX8_prove 20 = .ok (.iinc 3 1, 3) := by decide +kernel
theorem dX8_prove_23 : decode cX8_prove 23 = .ok (.goto (-17), 3) := by decide +kernel
theorem dX8_prove_26 : decode cX8_prove 26 = .ok (.iconst 0, 1) := by decide +kernel
theorem dX8_prove_27 : decode cX8_prove 27 = .ok (.istore_n 3, 1) := by decide +kernel
theorem dX8_prove_28 : decode cX8_prove 28 = .ok (.iload_n 3, 1) := by decide +kernel
theorem dX8_prove_29 : decode cX8_prove 29 = .ok (.aload_n 0, 1) := by decide +kernel
theorem dX8_prove_30 : decode cX8_prove 30 = .ok (.getfield 221, 3) := by decide +kernel
theorem dX8_prove_33 : decode cX8_prove 33 = .ok (.if_icmp .ge 95, 3) := by decide +kernel
theorem dX8_prove_36 : decode cX8_prove 36 = .ok (.iconst 0, 1) := by decide +kernel
theorem dX8_prove_37 : decode cX8_prove 37 = .ok (.istore 4, 2) := by decide +kernel
theorem dX8_prove_39 : decode cX8_prove 39 = .ok (.iload 4, 2) := by decide +kernel
theorem dX8_prove_41 : decode cX8_prove 41 = .ok (.bipush 9, 2) := by decide +kernel
theorem dX8_prove_43 : decode cX8_prove 43 = .ok (.if_icmp .ge 28, 3) := by decide +kernel
theorem dX8_prove_46 : decode cX8_prove 46 = .ok (.aload_n 0, 1) := by decide +kernel
theorem dX8_prove_47 : decode cX8_prove 47 = .ok (.getfield 17, 3) := by decide +kernel
theorem dX8_prove_50 : decode cX8_prove 50 = .ok (.iload 4, 2) := by decide +kernel
theorem dX8_prove_52 : decode cX8_prove 52 = .ok (.aload_n 0, 1) := by decide +kernel
theorem dX8_prove_53 : decode cX8_prove 53 = .ok (.getfield 59, 3) := by decide +kernel
theorem dX8_prove_56 : decode cX8_prove 56 = .ok (.bipush 9, 2) := by decide +kernel
theorem dX8_prove_58 : decode cX8_prove 58 = .ok (.iload_n 3, 1) := by decide +kernel
theorem dX8_prove_59 : decode cX8_prove 59 = .ok (.imul, 1) := by decide +kernel
theorem dX8_prove_60 : decode cX8_prove 60 = .ok (.iload 4, 2) := by decide +kernel
theorem dX8_prove_62 : decode cX8_prove 62 = .ok (.iadd, 1) := by decide +kernel
theorem dX8_prove_63 : decode cX8_prove 63 = .ok (.iaload, 1) := by decide +kernel
theorem dX8_prove_64 : decode cX8_prove 64 = .ok (.iastore, 1) := by decide +kernel
theorem dX8_prove_65 : decode cX8_prove 65 = .ok (.iinc 4 1, 3) := by decide +kernel
theorem dX8_prove_68 : decode cX8_prove 68 = .ok (.goto (-29), 3) := by decide +kernel
theorem dX8_prove_71 : decode cX8_prove 71 = .ok (.aload_n 0, 1) := by decide +kernel
theorem dX8_prove_72 : decode cX8_prove 72 = .ok (.getfield 66, 3) := by decide +kernel
theorem dX8_prove_75 : decode cX8_prove 75 = .ok (.iload_n 3, 1) := by decide +kernel
theorem dX8_prove_76 : decode cX8_prove 76 = .ok (.aload_n 0, 1) := by decide +kernel
theorem dX8_prove_77 : decode cX8_prove 77 = .ok (.iload_n 2, 1) := by decide +kernel
theorem dX8_prove_78 : decode cX8_prove 78 = .ok (.aload_n 0, 1) := by decide +kernel
theorem dX8_prove_79 : decode cX8_prove 79 = .ok (.getfield 99, 3) := by decide +kernel
theorem dX8_prove_82 : decode cX8_prove 82 = .ok (.invokevirtual 133, 3) := by decide +kernel
theorem dX8_prove_85 : decode cX8_prove 85 = .ok (.bastore, 1) := by decide +kernel
theorem dX8_prove_86 : decode cX8_prove 86 = .ok (.aload_n 0, 1) := by decide +kernel
theorem dX8_prove_87 : decode cX8_prove 87 = .ok (.getfield 72, 3) := by decide +kernel
theorem dX8_prove_90 : decode cX8_prove 90 = .ok (.iload_n 3, 1) := by decide +kernel
theorem dX8_prove_91 : decode cX8_prove 91 = .ok (.aload_n 0, 1) := by decide +kernel
theorem dX8_prove_92 : decode cX8_prove 92 = .ok (.getfield 66, 3) := by decide +kernel
theorem dX8_prove_95 : decode cX8_prove 95 = .ok (.iload_n 3, 1) := by decide +kernel
theorem dX8_prove_96 : decode cX8_prove 96 = .ok (.baload, 1) := by decide +kernel
theorem dX8_prove_97 : decode cX8_prove 97 = .ok (.ifCond .eq 7, 3) := by decide +kernel
theorem dX8_prove_100 : decode cX8_prove 100 = .ok (.iconst 0, 1) := by decide +kernel
theorem dX8_prove_101 : decode cX8_prove 101 = .ok (.goto 5, 3) := by decide +kernel
theorem dX8_prove_104 : decode cX8_prove 104 = .ok (.ldc 110, 2) := by decide +kernel
theorem dX8_prove_106 : decode cX8_prove 106 = .ok (.iastore, 1) := by decide +kernel
theorem dX8_prove_107 : decode cX8_prove 107 = .ok (.aload_n 0, 1) := by decide +kernel
theorem dX8_prove_108 : decode cX8_prove 108 = .ok (.getfield 66, 3) := by decide +kernel
theorem dX8_prove_111 : decode cX8_prove 111 = .ok (.iload_n 3, 1) := by decide +kernel
theorem dX8_prove_112 : decode cX8_prove 112 = .ok (.baload, 1) := by decide +kernel
theorem dX8_prove_113 : decode cX8_prove 113 = .ok (.ifCond .ne 9, 3) := by decide +kernel
theorem dX8_prove_116 : decode cX8_prove 116 = .ok (.aload_n 0, 1) := by decide +kernel
theorem dX8_prove_117 : decode cX8_prove 117 = .ok (.iload_n 3, 1) := by decide +kernel
theorem dX8_prove_118 : decode cX8_prove 118 = .ok (.iload_n 1, 1) := by decide +kernel
theorem dX8_prove_119 : decode cX8_prove 119 = .ok (.invokevirtual 230, 3) := by decide +kernel
theorem dX8_prove_122 : decode cX8_prove 122 = .ok (.iinc 3 1, 3) := by decide +kernel
theorem dX8_prove_125 : decode cX8_prove 125 = .ok (.goto (-97), 3) := by decide +kernel
theorem dX8_prove_128 : decode cX8_prove 128 = .ok (.iconst 1, 1) := by decide +kernel
theorem dX8_prove_129 : decode cX8_prove 129 = .ok (.istore_n 3, 1) := by decide +kernel
theorem dX8_prove_130 : decode cX8_prove 130 = .ok (.iload_n 3, 1) := by decide +kernel
theorem dX8_prove_131 : decode cX8_prove 131 = .ok (.ifCond .eq 158, 3) := by decide +kernel
theorem dX8_prove_134 : decode cX8_prove 134 = .ok (.iconst 0, 1) := by decide +kernel
theorem dX8_prove_135 : decode cX8_prove 135 = .ok (.istore_n 3, 1) := by decide +kernel
theorem dX8_prove_136 : decode cX8_prove 136 = .ok (.iconst 0, 1) := by decide +kernel
theorem dX8_prove_137 : decode cX8_prove 137 = .ok (.istore 4, 2) := by decide +kernel
theorem dX8_prove_139 : decode cX8_prove 139 = .ok (.iload 4, 2) := by decide +kernel
theorem dX8_prove_141 : decode cX8_prove 141 = .ok (.aload_n 0, 1) := by decide +kernel
theorem dX8_prove_142 : decode cX8_prove 142 = .ok (.getfield 221, 3) := by decide +kernel
theorem dX8_prove_145 : decode cX8_prove 145 = .ok (.if_icmp .ge 141, 3) := by decide +kernel
theorem dX8_prove_148 : decode cX8_prove 148 = .ok (.ldc 110, 2) := by decide +kernel
theorem dX8_prove_150 : decode cX8_prove 150 = .ok (.istore 5, 2) := by decide +kernel
theorem dX8_prove_152 : decode cX8_prove 152 = .ok (.aload_n 0, 1) := by decide +kernel
theorem dX8_prove_153 : decode cX8_prove 153 = .ok (.getfield 72, 3) := by decide +kernel
theorem dX8_prove_156 : decode cX8_prove 156 = .ok (.iload 4, 2) := by decide +kernel
theorem dX8_prove_158 : decode cX8_prove 158 = .ok (.iaload, 1) := by decide +kernel
theorem dX8_prove_159 : decode cX8_prove 159 = .ok (.ldc 110, 2) := by decide +kernel
theorem dX8_prove_161 : decode cX8_prove 161 = .ok (.if_icmp .ne 7, 3) := by decide +kernel
theorem dX8_prove_164 : decode cX8_prove 164 = .ok (.iconst 1, 1) := by decide +kernel
theorem dX8_prove_165 : decode cX8_prove 165 = .ok (.goto 4, 3) := by decide +kernel
theorem dX8_prove_168 : decode cX8_prove 168 = .ok (.iconst 0, 1) := by decide +kernel
theorem dX8_prove_169 : decode cX8_prove 169 = .ok (.istore 6, 2) := by decide +kernel
theorem dX8_prove_171 : decode cX8_prove 171 = .ok (.iconst 0, 1) := by decide +kernel
theorem dX8_prove_172 : decode cX8_prove 172 = .ok (.istore 7, 2) := by decide +kernel
theorem dX8_prove_174 : decode cX8_prove 174 = .ok (.iload 7, 2) := by decide +kernel
theorem dX8_prove_176 : decode cX8_prove 176 = .ok (.aload_n 0, 1) := by decide +kernel
theorem dX8_prove_177 : decode cX8_prove 177 = .ok (.getfield 221, 3) := by decide +kernel
theorem dX8_prove_180 : decode cX8_prove 180 = .ok (.if_icmp .ge 75, 3) := by decide +kernel
theorem dX8_prove_183 : decode cX8_prove 183 = .ok (.iload 6, 2) := by decide +kernel
theorem dX8_prove_185 : decode cX8_prove 185 = .ok (.ifCond .eq 70, 3) := by decide +kernel
theorem dX8_prove_188 : decode cX8_prove 188 = .ok (.aload_n 0, 1) := by decide +kernel
theorem dX8_prove_189 : decode cX8_prove 189 = .ok (.getfield 62, 3) := by decide +kernel
theorem dX8_prove_192 : decode cX8_prove 192 = .ok (.bipush 120, 2) := by decide +kernel
theorem dX8_prove_194 : decode cX8_prove 194 = .ok (.iload 4, 2) := by decide +kernel
theorem dX8_prove_196 : decode cX8_prove 196 = .ok (.imul, 1) := by decide +kernel
theorem dX8_prove_197 : decode cX8_prove 197 = .ok (.iload 7, 2) := by decide +kernel
theorem dX8_prove_199 : decode cX8_prove 199 = .ok (.iadd, 1) := by decide +kernel
theorem dX8_prove_200 : decode cX8_prove 200 = .ok (.baload, 1) := by decide +kernel
theorem dX8_prove_201 : decode cX8_prove 201 = .ok (.ifCond .eq 48, 3) := by decide +kernel
theorem dX8_prove_204 : decode cX8_prove 204 = .ok (.aload_n 0, 1) := by decide +kernel
theorem dX8_prove_205 : decode cX8_prove 205 = .ok (.getfield 72, 3) := by decide +kernel
theorem dX8_prove_208 : decode cX8_prove 208 = .ok (.iload 7, 2) := by decide +kernel
theorem dX8_prove_210 : decode cX8_prove 210 = .ok (.iaload, 1) := by decide +kernel
theorem dX8_prove_211 : decode cX8_prove 211 = .ok (.ldc 110, 2) := by decide +kernel
theorem dX8_prove_213 : decode cX8_prove 213 = .ok (.if_icmp .eq 7, 3) := by decide +kernel
theorem dX8_prove_216 : decode cX8_prove 216 = .ok (.iconst 1, 1) := by decide +kernel
theorem dX8_prove_217 : decode cX8_prove 217 = .ok (.goto 4, 3) := by decide +kernel
theorem dX8_prove_220 : decode cX8_prove 220 = .ok (.iconst 0, 1) := by decide +kernel
theorem dX8_prove_221 : decode cX8_prove 221 = .ok (.istore 6, 2) := by decide +kernel
theorem dX8_prove_223 : decode cX8_prove 223 = .ok (.aload_n 0, 1) := by decide +kernel
theorem dX8_prove_224 : decode cX8_prove 224 = .ok (.getfield 72, 3) := by decide +kernel
theorem dX8_prove_227 : decode cX8_prove 227 = .ok (.iload 7, 2) := by decide +kernel
theorem dX8_prove_229 : decode cX8_prove 229 = .ok (.iaload, 1) := by decide +kernel
theorem dX8_prove_230 : decode cX8_prove 230 = .ok (.iload 5, 2) := by decide +kernel
theorem dX8_prove_232 : decode cX8_prove 232 = .ok (.if_icmp .le 13, 3) := by decide +kernel
theorem dX8_prove_235 : decode cX8_prove 235 = .ok (.aload_n 0, 1) := by decide +kernel
theorem dX8_prove_236 : decode cX8_prove 236 = .ok (.getfield 72, 3) := by decide +kernel
theorem dX8_prove_239 : decode cX8_prove 239 = .ok (.iload 7, 2) := by decide +kernel
theorem dX8_prove_241 : decode cX8_prove 241 = .ok (.iaload, 1) := by decide +kernel
theorem dX8_prove_242 : decode cX8_prove 242 = .ok (.goto 5, 3) := by decide +kernel
theorem dX8_prove_245 : decode cX8_prove 245 = .ok (.iload 5, 2) := by decide +kernel
theorem dX8_prove_247 : decode cX8_prove 247 = .ok (.istore 5, 2) := by decide +kernel
theorem dX8_prove_249 : decode cX8_prove 249 = .ok (.iinc 7 1, 3) := by decide +kernel
theorem dX8_prove_252 : decode cX8_prove 252 = .ok (.goto (-78), 3) := by decide +kernel
theorem dX8_prove_255 : decode cX8_prove 255 = .ok (.iload 6, 2) := by decide +kernel
theorem dX8_prove_257 : decode cX8_prove 257 = .ok (.ifCond .eq 23, 3) := by decide +kernel
theorem dX8_prove_260 : decode cX8_prove 260 = .ok (.iload 5, 2) := by decide +kernel
theorem dX8_prove_262 : decode cX8_prove 262 = .ok (.ldc 110, 2) := by decide +kernel
theorem dX8_prove_264 : decode cX8_prove 264 = .ok (.if_icmp .eq 16, 3) := by decide +kernel
theorem dX8_prove_267 : decode cX8_prove 267 = .ok (.aload_n 0, 1) := by decide +kernel
theorem dX8_prove_268 : decode cX8_prove 268 = .ok (.getfield 72, 3) := by decide +kernel
theorem dX8_prove_271 : decode cX8_prove 271 = .ok (.iload 4, 2) := by decide +kernel
theorem dX8_prove_273 : decode cX8_prove 273 = .ok (.iload 5, 2) := by decide +kernel
theorem dX8_prove_275 : decode cX8_prove 275 = .ok (.iconst 1, 1) := by decide +kernel
theorem dX8_prove_276 : decode cX8_prove 276 = .ok (.iadd, 1) := by decide +kernel
theorem dX8_prove_277 : decode cX8_prove 277 = .ok (.iastore, 1) := by decide +kernel
theorem dX8_prove_278 : decode cX8_prove 278 = .ok (.iconst 1, 1) := by decide +kernel
theorem dX8_prove_279 : decode cX8_prove 279 = .ok (.istore_n 3, 1) := by decide +kernel
theorem dX8_prove_280 : decode cX8_prove 280 = .ok (.iinc 4 1, 3) := by decide +kernel
theorem dX8_prove_283 : decode cX8_prove 283 = .ok (.goto (-144), 3) := by decide +kernel
theorem dX8_prove_286 : decode cX8_prove 286 = .ok (.goto (-156), 3) := by decide +kernel
theorem dX8_prove_289 : decode cX8_prove 289 = .ok (.return_, 1) := by decide +kernel
theorem dX8_proves_0 : decode cX8_proves 0 = .ok (.aload_n 0, 1) := by decide +kernel
theorem dX8_proves_1 : decode cX8_proves 1 = .ok (.iconst 0, 1) := by decide +kernel
theorem dX8_proves_2 : decode cX8_proves 2 = .ok (.putfield 1, 3) := by decide +kernel
theorem dX8_proves_5 : decode cX8_proves 5 = .ok (.iload_n 1, 1) := by decide +kernel
theorem dX8_proves_6 : decode cX8_proves 6 = .ok (.i2l, 1) := by decide +kernel
theorem dX8_proves_7 : decode cX8_proves 7 = .ok (.lconst 0, 1) := by decide +kernel
theorem dX8_proves_8 : decode cX8_proves 8 = .ok (.ldc2_w 131, 3) := by decide +kernel
theorem dX8_proves_11 : decode cX8_proves 11 = .ok (.invokestatic 90, 3) := by decide +kernel
theorem dX8_proves_14 : decode cX8_proves 14 = .ok (.ifCond .eq 27, 3) := by decide +kernel
theorem dX8_proves_17 : decode cX8_proves 17 = .ok (.iload_n 2, 1) := by decide +kernel
theorem dX8_proves_18 : decode cX8_proves 18 = .ok (.i2l, 1) := by decide +kernel
theorem dX8_proves_19 : decode cX8_proves 19 = .ok (.lconst 0, 1) := by decide +kernel
theorem dX8_proves_20 : decode cX8_proves 20 = .ok (.ldc2_w 131, 3) := by decide +kernel
theorem dX8_proves_23 : decode cX8_proves 23 = .ok (.invokestatic 90, 3) := by decide +kernel
theorem dX8_proves_26 : decode cX8_proves 26 = .ok (.ifCond .eq 15, 3) := by decide +kernel
theorem dX8_proves_29 : decode cX8_proves 29 = .ok (.iload_n 3, 1) := by decide +kernel
theorem dX8_proves_30 : decode cX8_proves 30 = .ok (.i2l, 1) := by decide +kernel
theorem dX8_proves_31 : decode cX8_proves 31 = .ok (.lconst 0, 1) := by decide +kernel
theorem dX8_proves_32 : decode cX8_proves 32 = .ok (.ldc2_w 234, 3) := by decide +kernel
theorem dX8_proves_35 : decode cX8_proves 35 = .ok (.invokestatic 90, 3) := by decide +kernel
theorem dX8_proves_38 : decode cX8_proves 38 = .ok (.ifCond .ne 6, 3) := by decide +kernel
theorem dX8_proves_41 : decode cX8_proves 41 = .ok (.ldc 98, 2) := by decide +kernel
theorem dX8_proves_43 : decode cX8_proves 43 = .ok (.ireturn, 1) := by decide +kernel
theorem dX8_proves_44 : decode cX8_proves 44 = .ok (.aload_n 0, 1) := by decide +kernel
theorem dX8_proves_45 : decode cX8_proves 45 = .ok (.getfield 99, 3) := by decide +kernel
theorem dX8_proves_48 : decode cX8_proves 48 = .ok (.ifCond .ne 6, 3) := by decide +kernel
theorem dX8_proves_51 : decode cX8_proves 51 = .ok (.ldc 137, 2) := by decide +kernel
theorem dX8_proves_53 : decode cX8_proves 53 = .ok (.ireturn, 1) := by decide +kernel
theorem dX8_proves_54 : decode cX8_proves 54 = .ok (.aload_n 0, 1) := by decide +kernel
theorem dX8_proves_55 : decode cX8_proves 55 = .ok (.iload_n 1, 1) := by decide +kernel
theorem dX8_proves_56 : decode cX8_proves 56 = .ok (.iload_n 2, 1) := by decide +kernel
theorem dX8_proves_57 : decode cX8_proves 57 = .ok (.invokevirtual 236, 3) := by decide +kernel
theorem dX8_proves_60 : decode cX8_proves 60 = .ok (.aload_n 0, 1) := by decide +kernel
theorem dX8_proves_61 : decode cX8_proves 61 = .ok (.invokevirtual 111, 3) := by decide +kernel
theorem dX8_proves_64 : decode cX8_proves 64 = .ok (.aload_n 0, 1) := by decide +kernel
theorem dX8_proves_65 : decode cX8_proves 65 = .ok (.invokevirtual 128, 3) := by decide +kernel
theorem dX8_proves_68 : decode cX8_proves 68 = .ok (.aload_n 0, 1) := by decide +kernel
theorem dX8_proves_69 : decode cX8_proves 69 = .ok (.invokevirtual 224, 3) := by decide +kernel
theorem dX8_proves_72 : decode cX8_proves 72 = .ok (.istore 4, 2) := by decide +kernel
theorem dX8_proves_74 : decode cX8_proves 74 = .ok (.iload_n 3, 1) := by decide +kernel
theorem dX8_proves_75 : decode cX8_proves 75 = .ok (.ifCond .ne 21, 3) := by decide +kernel
theorem dX8_proves_78 : decode cX8_proves 78 = .ok (.aload_n 0, 1) := by decide +kernel
theorem dX8_proves_79 : decode cX8_proves 79 = .ok (.getfield 72, 3) := by decide +kernel
theorem dX8_proves_82 : decode cX8_proves 82 = .ok (.iload 4, 2) := by decide +kernel
theorem dX8_proves_84 : decode cX8_proves 84 = .ok (.iaload, 1) := by decide +kernel
theorem dX8_proves_85 : decode cX8_proves 85 = .ok (.ldc 110, 2) := by decide +kernel
theorem dX8_proves_87 : decode cX8_proves 87 = .ok (.if_icmp .ne 7, 3) := by decide +kernel
theorem dX8_proves_90 : decode cX8_proves 90 = .ok (.iconst 0, 1) := by decide +kernel
theorem dX8_proves_91 : decode cX8_proves 91 = .ok (.goto 4, 3) := by decide +kernel
theorem dX8_proves_94 : decode cX8_proves 94 = .ok (.iconst 1, 1) := by decide +kernel
theorem dX8_proves_95 : decode cX8_proves 95 = .ok (.ireturn, 1) := by decide +kernel
theorem dX8_proves_96 : decode cX8_proves 96 = .ok (.iload_n 3, 1) := by decide +kernel
theorem dX8_proves_97 : decode cX8_proves 97 = .ok (.iconst 4, 1) := by decide +kernel
theorem dX8_proves_98 : decode cX8_proves 98 = .ok (.if_icmp .ne 11, 3) := by decide +kernel
theorem dX8_proves_101 : decode cX8_proves 101 = .ok (.aload_n 0, 1) := by decide +kernel
theorem dX8_proves_102 : decode cX8_proves 102 = .ok (.getfield 72, 3) := by decide +kernel
theorem dX8_proves_105 : decode cX8_proves 105 = .ok (.iload 4, 2) := by decide +kernel
theorem dX8_proves_107 : decode cX8_proves 107 = .ok (.iaload, 1) := by decide +kernel
theorem dX8_proves_108 : decode cX8_proves 108 = .ok (.ireturn, 1) := by decide +kernel
theorem dX8_proves_109 : decode cX8_proves 109 = .ok (.iconst 0, 1) := by decide +kernel
theorem dX8_proves_110 : decode cX8_proves 110 = .ok (.istore 5, 2) := by decide +kernel
theorem dX8_proves_112 : decode cX8_proves 112 = .ok (.iload 5, 2) := by decide +kernel
theorem dX8_proves_114 : decode cX8_proves 114 = .ok (.aload_n 0, 1) := by decide +kernel
theorem dX8_proves_115 : decode cX8_proves 115 = .ok (.getfield 221, 3) := by decide +kernel
theorem dX8_proves_118 : decode cX8_proves 118 = .ok (.if_icmp .ge 28, 3) := by decide +kernel
theorem dX8_proves_121 : decode cX8_proves 121 = .ok (.aload_n 0, 1) := by decide +kernel
theorem dX8_proves_122 : decode cX8_proves 122 = .ok (.getfield 69, 3) := by decide +kernel
theorem dX8_proves_125 : decode cX8_proves 125 = .ok (.iload 5, 2) := by decide +kernel
theorem dX8_proves_127 : decode cX8_proves 127 = .ok (.iload 5, 2) := by decide +kernel
theorem dX8_proves_129 : decode cX8_proves 129 = .ok (.iload 4, 2) := by decide +kernel
theorem dX8_proves_131 : decode cX8_proves 131 = .ok (.if_icmp .ne 7, 3) := by decide +kernel
theorem dX8_proves_134 : decode cX8_proves 134 = .ok (.iconst 1, 1) := by decide +kernel
theorem dX8_proves_135 : decode cX8_proves 135 = .ok (.goto 4, 3) := by decide +kernel
theorem dX8_proves_138 : decode cX8_proves 138 = .ok (.iconst 0, 1) := by decide +kernel
theorem dX8_proves_139 : decode cX8_proves 139 = .ok (.bastore, 1) := by decide +kernel
theorem dX8_proves_140 : decode cX8_proves 140 = .ok (.iinc 5 1, 3) := by decide +kernel
theorem dX8_proves_143 : decode cX8_proves 143 = .ok (.goto (-31), 3) := by decide +kernel
theorem dX8_proves_146 : decode cX8_proves 146 = .ok (.iconst 1, 1) := by decide +kernel
theorem dX8_proves_147 : decode cX8_proves 147 = .ok (.istore 5, 2) := by decide +kernel
theorem dX8_proves_149 : decode cX8_proves 149 = .ok (.iload 5, 2) := by decide +kernel
theorem dX8_proves_151 : decode cX8_proves 151 = .ok (.ifCond .eq 92, 3) := by decide +kernel
theorem dX8_proves_154 : decode cX8_proves 154 = .ok (.iconst 0, 1) := by decide +kernel
theorem dX8_proves_155 : decode cX8_proves 155 = .ok (.istore 5, 2) := by decide +kernel
theorem dX8_proves_157 : decode cX8_proves 157 = .ok (.iconst 0, 1) := by decide +kernel
theorem dX8_proves_158 : decode cX8_proves 158 = .ok (.istore 6, 2) := by decide +kernel
theorem dX8_proves_160 : decode cX8_proves 160 = .ok (.iload 6, 2) := by decide +kernel
theorem dX8_proves_162 : decode cX8_proves 162 = .ok (.aload_n 0, 1) := by decide +kernel
theorem dX8_proves_163 : decode cX8_proves 163 = .ok (.getfield 221, 3) := by decide +kernel
theorem dX8_proves_166 : decode cX8_proves 166 = .ok (.if_icmp .ge 74, 3) := by decide +kernel
theorem dX8_proves_169 : decode cX8_proves 169 = .ok (.iconst 0, 1) := by decide +kernel
theorem dX8_proves_170 : decode cX8_proves 170 = .ok (.istore 7, 2) := by decide +kernel
theorem dX8_proves_172 : decode cX8_proves 172 = .ok (.iload 7, 2) := by decide +kernel
theorem dX8_proves_174 : decode cX8_proves 174 = .ok (.aload_n 0, 1) := by decide +kernel
theorem dX8_proves_175 : decode cX8_proves 175 = .ok (.getfield 221, 3) := by decide +kernel
theorem dX8_proves_178 : decode cX8_proves 178 = .ok (.if_icmp .ge 56, 3) := by decide +kernel
theorem dX8_proves_181 : decode cX8_proves 181 = .ok (.aload_n 0, 1) := by decide +kernel
theorem dX8_proves_182 : decode cX8_proves 182 = .ok (.getfield 69, 3) := by decide +kernel
theorem dX8_proves_185 : decode cX8_proves 185 = .ok (.iload 6, 2) := by decide +kernel
theorem dX8_proves_187 : decode cX8_proves 187 = .ok (.baload, 1) := by decide +kernel
theorem dX8_proves_188 : decode cX8_proves 188 = .ok (.ifCond .eq 46, 3) := by decide +kernel
theorem dX8_proves_191 : decode cX8_proves 191 = .ok (.aload_n 0, 1) := by decide +kernel
theorem dX8_proves_192 : decode cX8_proves 192 = .ok (.getfield 62, 3) := by decide +kernel
theorem dX8_proves_195 : decode cX8_proves 195 = .ok (.bipush 120, 2) := by decide +kernel
theorem dX8_proves_197 : decode cX8_proves 197 = .ok (.iload 6, 2) := by decide +kernel
theorem dX8_proves_199 : decode cX8_proves 199 = .ok (.imul, 1) := by decide +kernel
theorem dX8_proves_200 : decode cX8_proves 200 = .ok (.iload 7, 2) := by decide +kernel
theorem dX8_proves_202 : decode cX8_proves 202 = .ok (.iadd, 1) := by decide +kernel
theorem dX8_proves_203 : decode cX8_proves 203 = .ok (.baload, 1) := by decide +kernel
theorem dX8_proves_204 : decode cX8_proves 204 = .ok (.ifCond .eq 24, 3) := by decide +kernel
theorem dX8_proves_207 : decode cX8_proves 207 = .ok (.aload_n 0, 1) := by decide +kernel
theorem dX8_proves_208 : decode cX8_proves 208 = .ok (.getfield 69, 3) := by decide +kernel
theorem dX8_proves_211 : decode cX8_proves 211 = .ok (.iload 7, 2) := by decide +kernel
theorem dX8_proves_213 : decode cX8_proves 213 = .ok (.baload, 1) := by decide +kernel
theorem dX8_proves_214 : decode cX8_proves 214 = .ok (.ifCond .ne 14, 3) := by decide +kernel
theorem dX8_proves_217 : decode cX8_proves 217 = .ok (.aload_n 0, 1) := by decide +kernel
theorem dX8_proves_218 : decode cX8_proves 218 = .ok (.getfield 69, 3) := by decide +kernel
theorem dX8_proves_221 : decode cX8_proves 221 = .ok (.iload 7, 2) := by decide +kernel
theorem dX8_proves_223 : decode cX8_proves 223 = .ok (.iconst 1, 1) := by decide +kernel
theorem dX8_proves_224 : decode cX8_proves 224 = .ok (.bastore, 1) := by decide +kernel
theorem dX8_proves_225 : decode cX8_proves 225 = .ok (.iconst 1, 1) := by decide +kernel
theorem dX8_proves_226 : decode cX8_proves 226 = .ok (.istore 5, 2) := by decide +kernel
theorem dX8_proves_228 : decode cX8_proves 228 = .ok (.iinc 7 1, 3) := by decide +kernel
theorem dX8_proves_231 : decode cX8_proves 231 = .ok (.goto (-59), 3) := by decide +kernel
theorem dX8_proves_234 : decode cX8_proves 234 = .ok (.iinc 6 1, 3) := by decide +kernel
theorem dX8_proves_237 : decode cX8_proves 237 = .ok (.goto (-77), 3) := by decide +kernel
theorem dX8_proves_240 : decode cX8_proves 240 = .ok (.goto (-91), 3) := by decide +kernel
theorem dX8_proves_243 : decode cX8_proves 243 = .ok (.iconst 0, 1) := by decide +kernel
theorem dX8_proves_244 : decode cX8_proves 244 = .ok (.istore 6, 2) := by decide +kernel
theorem dX8_proves_246 : decode cX8_proves 246 = .ok (.iconst 0, 1) := by decide +kernel
theorem dX8_proves_247 : decode cX8_proves 247 = .ok (.istore 7, 2) := by decide +kernel
theorem dX8_proves_249 : decode cX8_proves 249 = .ok (.iload 7, 2) := by decide +kernel
theorem dX8_proves_251 : decode cX8_proves 251 = .ok (.aload_n 0, 1) := by decide +kernel
theorem dX8_proves_252 : decode cX8_proves 252 = .ok (.getfield 221, 3) := by decide +kernel
theorem dX8_proves_255 : decode cX8_proves 255 = .ok (.if_icmp .ge 118, 3) := by decide +kernel
theorem dX8_proves_258 : decode cX8_proves 258 = .ok (.iconst 0, 1) := by decide +kernel
theorem dX8_proves_259 : decode cX8_proves 259 = .ok (.istore 8, 2) := by decide +kernel
theorem dX8_proves_261 : decode cX8_proves 261 = .ok (.iconst 0, 1) := by decide +kernel
theorem dX8_proves_262 : decode cX8_proves 262 = .ok (.istore 9, 2) := by decide +kernel
theorem dX8_proves_264 : decode cX8_proves 264 = .ok (.iload 9, 2) := by decide +kernel
theorem dX8_proves_266 : decode cX8_proves 266 = .ok (.aload_n 0, 1) := by decide +kernel
theorem dX8_proves_267 : decode cX8_proves 267 = .ok (.getfield 221, 3) := by decide +kernel
theorem dX8_proves_270 : decode cX8_proves 270 = .ok (.if_icmp .ge 37, 3) := by decide +kernel
theorem dX8_proves_273 : decode cX8_proves 273 = .ok (.iload 8, 2) := by decide +kernel
theorem dX8_proves_275 : decode cX8_proves 275 = .ok (.ifCond .ne 19, 3) := by decide +kernel
theorem dX8_proves_278 : decode cX8_proves 278 = .ok (.aload_n 0, 1) := by decide +kernel
theorem dX8_proves_279 : decode cX8_proves 279 = .ok (.getfield 62, 3) := by decide +kernel
theorem dX8_proves_282 : decode cX8_proves 282 = .ok (.bipush 120, 2) := by decide +kernel
theorem dX8_proves_284 : decode cX8_proves 284 = .ok (.iload 7, 2) := by decide +kernel
theorem dX8_proves_286 : decode cX8_proves 286 = .ok (.imul, 1) := by decide +kernel
theorem dX8_proves_287 : decode cX8_proves 287 = .ok (.iload 9, 2) := by decide +kernel
theorem dX8_proves_289 : decode cX8_proves 289 = .ok (.iadd, 1) := by decide +kernel
theorem dX8_proves_290 : decode cX8_proves 290 = .ok (.baload, 1) := by decide +kernel
theorem dX8_proves_291 : decode cX8_proves 291 = .ok (.ifCond .eq 7, 3) := by decide +kernel
theorem dX8_proves_294 : decode cX8_proves 294 = .ok (.iconst 1, 1) := by decide +kernel
theorem dX8_proves_295 : decode cX8_proves 295 = .ok (.goto 4, 3) := by decide +kernel
theorem dX8_proves_298 : decode cX8_proves 298 = .ok (.iconst 0, 1) := by decide +kernel
theorem dX8_proves_299 : decode cX8_proves 299 = .ok (.istore 8, 2) := by decide +kernel
theorem dX8_proves_301 : decode cX8_proves 301 = .ok (.iinc 9 1, 3) := by decide +kernel
theorem dX8_proves_304 : decode cX8_proves 304 = .ok (.goto (-40), 3) := by decide +kernel
theorem dX8_proves_307 : decode cX8_proves 307 = .ok (.iload 6, 2) := by decide +kernel
theorem dX8_proves_309 : decode cX8_proves 309 = .ok (.aload_n 0, 1) := by decide +kernel
theorem dX8_proves_310 : decode cX8_proves 310 = .ok (.getfield 69, 3) := by decide +kernel
theorem dX8_proves_313 : decode cX8_proves 313 = .ok (.iload 7, 2) := by decide +kernel
theorem dX8_proves_315 : decode cX8_proves 315 = .ok (.baload, 1) := by decide +kernel
theorem dX8_proves_316 : decode cX8_proves 316 = .ok (.ifCond .eq 47, 3) := by decide +kernel
theorem dX8_proves_319 : decode cX8_proves 319 = .ok (.iload_n 3, 1) := by decide +kernel
theorem dX8_proves_320 : decode cX8_proves 320 = .ok (.iconst 1, 1) := by decide +kernel
theorem dX8_proves_321 : decode cX8_proves 321 = .ok (.if_icmp .eq 38, 3) := by decide +kernel
theorem dX8_proves_324 : decode cX8_proves 324 = .ok (.iload_n 3, 1) := by decide +kernel
theorem dX8_proves_325 : decode cX8_proves 325 = .ok (.iconst 2, 1) := by decide +kernel
theorem dX8_proves_326 : decode cX8_proves 326 = .ok (.if_icmp .ne 13, 3) := by decide +kernel
theorem dX8_proves_329 : decode cX8_proves 329 = .ok (.aload_n 0, 1) := by decide +kernel
theorem dX8_proves_330 : decode cX8_proves 330 = .ok (.getfield 66, 3) := by decide +kernel
theorem dX8_proves_333 : decode cX8_proves 333 = .ok (.iload 7, 2) := by decide +kernel
theorem dX8_proves_335 : decode cX8_proves 335 = .ok (.baload, 1) := by decide +kernel
theorem dX8_proves_336 : decode cX8_proves 336 = .ok (.ifCond .ne 23, 3) := by decide +kernel
theorem dX8_proves_339 : decode cX8_proves 339 = .ok (.iload_n 3, 1) := by decide +kernel
theorem dX8_proves_340 : decode cX8_proves 340 = .ok (.iconst 3, 1) := by decide +kernel
theorem dX8_proves_341 : decode cX8_proves 341 = .ok (.if_icmp .ne 22, 3) := by decide +kernel
theorem dX8_proves_344 : decode cX8_proves 344 = .ok (.aload_n 0, 1) := by decide +kernel
theorem dX8_proves_345 : decode cX8_proves 345 = .ok (.getfield 66, 3) := by decide +kernel
theorem dX8_proves_348 : decode cX8_proves 348 = .ok (.iload 7, 2) := by decide +kernel
theorem dX8_proves_350 : decode cX8_proves 350 = .ok (.baload, 1) := by decide +kernel
theorem dX8_proves_351 : decode cX8_proves 351 = .ok (.ifCond .ne 12, 3) := by decide +kernel
theorem dX8_proves_354 : decode cX8_proves 354 = .ok (.iload 8, 2) := by decide +kernel
theorem dX8_proves_356 : decode cX8_proves 356 = .ok (.ifCond .ne 7, 3) := by decide +kernel
theorem dX8_proves_359 : decode cX8_proves 359 = .ok (.iconst 1, 1) := by decide +kernel
theorem dX8_proves_360 : decode cX8_proves 360 = .ok (.goto 4, 3) := by decide +kernel
theorem dX8_proves_363 : decode cX8_proves 363 = .ok (.iconst 0, 1) := by decide +kernel
theorem dX8_proves_364 : decode cX8_proves 364 = .ok (.iadd, 1) := by decide +kernel
theorem dX8_proves_365 : decode cX8_proves 365 = .ok (.istore 6, 2) := by decide +kernel
theorem dX8_proves_367 : decode cX8_proves 367 = .ok (.iinc 7 1, 3) := by decide +kernel
theorem dX8_proves_370 : decode cX8_proves 370 = .ok (.goto (-121), 3) := by decide +kernel
theorem dX8_proves_373 : decode cX8_proves 373 = .ok (.iload 6, 2) := by decide +kernel
theorem dX8_proves_375 : decode cX8_proves 375 = .ok (.ireturn, 1) := by decide +kernel
theorem dX8_starts_0 : decode cX8_starts 0 = .ok (.aload_n 0, 1) := by decide +kernel
theorem dX8_starts_1 : decode cX8_starts 1 = .ok (.iconst 0, 1) := by decide +kernel
theorem dX8_starts_2 : decode cX8_starts 2 = .ok (.putfield 1, 3) := by decide +kernel
theorem dX8_starts_5 : decode cX8_starts 5 = .ok (.iload_n 1, 1) := by decide +kernel
theorem dX8_starts_6 : decode cX8_starts 6 = .ok (.i2l, 1) := by decide +kernel
theorem dX8_starts_7 : decode cX8_starts 7 = .ok (.lconst 0, 1) := by decide +kernel
theorem dX8_starts_8 : decode cX8_starts 8 = .ok (.ldc2_w 131, 3) := by decide +kernel
theorem dX8_starts_11 : decode cX8_starts 11 = .ok (.invokestatic 90, 3) := by decide +kernel
theorem dX8_starts_14 : decode cX8_starts 14 = .ok (.ifCond .eq 25, 3) := by decide +kernel
theorem dX8_starts_17 : decode cX8_starts 17 = .ok (.iload_n 2, 1) := by decide +kernel
theorem dX8_starts_18 : decode cX8_starts 18 = .ok (.i2l, 1) := by decide +kernel
theorem dX8_starts_19 : decode cX8_starts 19 = .ok (.lconst 0, 1) := by decide +kernel
theorem dX8_starts_20 : decode cX8_starts 20 = .ok (.ldc2_w 131, 3) := by decide +kernel
theorem dX8_starts_23 : decode cX8_starts 23 = .ok (.invokestatic 90, 3) := by decide +kernel
theorem dX8_starts_26 : decode cX8_starts 26 = .ok (.ifCond .eq 13, 3) := by decide +kernel
theorem dX8_starts_29 : decode cX8_starts 29 = .ok (.iload_n 3, 1) := by decide +kernel
theorem dX8_starts_30 : decode cX8_starts 30 = .ok (.i2l, 1) := by decide +kernel
theorem dX8_starts_31 : decode cX8_starts 31 = .ok (.lconst 0, 1) := by decide +kernel
theorem dX8_starts_32 : decode cX8_starts 32 = .ok (.lconst 1, 1) := by decide +kernel
theorem dX8_starts_33 : decode cX8_starts 33 = .ok (.invokestatic 90, 3) := by decide +kernel
theorem dX8_starts_36 : decode cX8_starts 36 = .ok (.ifCond .ne 6, 3) := by decide +kernel
theorem dX8_starts_39 : decode cX8_starts 39 = .ok (.ldc 98, 2) := by decide +kernel
theorem dX8_starts_41 : decode cX8_starts 41 = .ok (.ireturn, 1) := by decide +kernel
theorem dX8_starts_42 : decode cX8_starts 42 = .ok (.aload_n 0, 1) := by decide +kernel
theorem dX8_starts_43 : decode cX8_starts 43 = .ok (.getfield 99, 3) := by decide +kernel
theorem dX8_starts_46 : decode cX8_starts 46 = .ok (.ifCond .ne 6, 3) := by decide +kernel
theorem dX8_starts_49 : decode cX8_starts 49 = .ok (.ldc 137, 2) := by decide +kernel
theorem dX8_starts_51 : decode cX8_starts 51 = .ok (.ireturn, 1) := by decide +kernel
theorem dX8_starts_52 : decode cX8_starts 52 = .ok (.aload_n 0, 1) := by decide +kernel
theorem dX8_starts_53 : decode cX8_starts 53 = .ok (.iload_n 1, 1) := by decide +kernel
theorem dX8_starts_54 : decode cX8_starts 54 = .ok (.iload_n 2, 1) := by decide +kernel
theorem dX8_starts_55 : decode cX8_starts 55 = .ok (.invokevirtual 236, 3) := by decide +kernel
theorem dX8_starts_58 : decode cX8_starts 58 = .ok (.iconst 0, 1) := by decide +kernel
theorem dX8_starts_59 : decode cX8_starts 59 = .ok (.istore 4, 2) := by decide +kernel
theorem dX8_starts_61 : decode cX8_starts 61 = .ok (.iconst 0, 1) := by decide +kernel
theorem dX8_starts_62 : decode cX8_starts 62 = .ok (.istore 5, 2) := by decide +kernel
theorem dX8_starts_64 : decode cX8_starts 64 = .ok (.iload 5, 2) := by decide +kernel
theorem dX8_starts_66 : decode cX8_starts 66 = .ok (.aload_n 0, 1) := by decide +kernel
theorem dX8_starts_67 : decode cX8_starts 67 = .ok (.getfield 221, 3) := by decide +kernel
theorem dX8_starts_70 : decode cX8_starts 70 = .ok (.if_icmp .ge 31, 3) := by decide +kernel
theorem dX8_starts_73 : decode cX8_starts 73 = .ok (.iload 4, 2) := by decide +kernel
theorem dX8_starts_75 : decode cX8_starts 75 = .ok (.aload_n 0, 1) := by decide +kernel
theorem dX8_starts_76 : decode cX8_starts 76 = .ok (.getfield 72, 3) := by decide +kernel
theorem dX8_starts_79 : decode cX8_starts 79 = .ok (.iload 5, 2) := by decide +kernel
theorem dX8_starts_81 : decode cX8_starts 81 = .ok (.iaload, 1) := by decide +kernel
theorem dX8_starts_82 : decode cX8_starts 82 = .ok (.ldc 110, 2) := by decide +kernel
theorem dX8_starts_84 : decode cX8_starts 84 = .ok (.if_icmp .eq 7, 3) := by decide +kernel
theorem dX8_starts_87 : decode cX8_starts 87 = .ok (.iconst 1, 1) := by decide +kernel
theorem dX8_starts_88 : decode cX8_starts 88 = .ok (.goto 4, 3) := by decide +kernel
theorem dX8_starts_91 : decode cX8_starts 91 = .ok (.iconst 0, 1) := by decide +kernel
theorem dX8_starts_92 : decode cX8_starts 92 = .ok (.iadd, 1) := by decide +kernel
theorem dX8_starts_93 : decode cX8_starts 93 = .ok (.istore 4, 2) := by decide +kernel
theorem dX8_starts_95 : decode cX8_starts 95 = .ok (.iinc 5 1, 3) := by decide +kernel
theorem dX8_starts_98 : decode cX8_starts 98 = .ok (.goto (-34), 3) := by decide +kernel
theorem dX8_starts_101 : decode cX8_starts 101 = .ok (.iload_n 3, 1) := by decide +kernel
theorem dX8_starts_102 : decode cX8_starts 102 = .ok (.ifCond .ne 10, 3) := by decide +kernel
theorem dX8_starts_105 : decode cX8_starts 105 = .ok (.aload_n 0, 1) := by decide +kernel
theorem dX8_starts_106 : decode cX8_starts 106 = .ok (.getfield 221, 3) := by decide +kernel
theorem dX8_starts_109 : decode cX8_starts 109 = .ok (.goto 5, 3) := by decide +kernel
theorem dX8_starts_112 : decode cX8_starts 112 = .ok (.iload 4, 2) := by decide +kernel
theorem dX8_starts_114 : decode cX8_starts 114 = .ok (.ireturn, 1) := by decide +kernel
theorem dX8_kindNow_0 : decode cX8_kindNow 0 = .ok (.aload_n 0, 1) := by decide +kernel
theorem dX8_kindNow_1 : decode cX8_kindNow 1 = .ok (.invokevirtual 111, 3) := by decide +kernel
theorem dX8_kindNow_4 : decode cX8_kindNow 4 = .ok (.aload_n 0, 1) := by decide +kernel
theorem dX8_kindNow_5 : decode cX8_kindNow 5 = .ok (.iconst 0, 1) := by decide +kernel
theorem dX8_kindNow_6 : decode cX8_kindNow 6 = .ok (.invokevirtual 239, 3) := by decide +kernel
theorem dX8_kindNow_9 : decode cX8_kindNow 9 = .ok (.iconst 1, 1) := by decide +kernel
theorem dX8_kindNow_10 : decode cX8_kindNow 10 = .ok (.if_icmp .le 7, 3) := by decide +kernel
theorem dX8_kindNow_13 : decode cX8_kindNow 13 = .ok (.iconst 2, 1) := by decide +kernel
theorem dX8_kindNow_14 : decode cX8_kindNow 14 = .ok (.goto 16, 3) := by decide +kernel
theorem dX8_kindNow_17 : decode cX8_kindNow 17 = .ok (.aload_n 0, 1) := by decide +kernel
theorem dX8_kindNow_18 : decode cX8_kindNow 18 = .ok (.iconst 1, 1) := by decide +kernel
theorem dX8_kindNow_19 : decode cX8_kindNow 19 = .ok (.invokevirtual 239, 3) := by decide +kernel
theorem dX8_kindNow_22 : decode cX8_kindNow 22 = .ok (.ifCond .le 7, 3) := by decide +kernel
theorem dX8_kindNow_25 : decode cX8_kindNow 25 = .ok (.iconst 1, 1) := by decide +kernel
theorem dX8_kindNow_26 : decode cX8_kindNow 26 = .ok (.goto 4, 3) := by decide +kernel
theorem dX8_kindNow_29 : decode cX8_kindNow 29 = .ok (.iconst 3, 1) := by decide +kernel
theorem dX8_kindNow_30 : decode cX8_kindNow 30 = .ok (.ireturn, 1) := by decide +kernel
theorem dX8_kind_0 : decode cX8_kind 0 = .ok (.aload_n 0, 1) := by decide +kernel
theorem dX8_kind_1 : decode cX8_kind 1 = .ok (.iconst 0, 1) := by decide +kernel
theorem dX8_kind_2 : decode cX8_kind 2 = .ok (.putfield 1, 3) := by decide +kernel
theorem dX8_kind_5 : decode cX8_kind 5 = .ok (.aload_n 0, 1) := by decide +kernel
theorem dX8_kind_6 : decode cX8_kind 6 = .ok (.getfield 99, 3) := by decide +kernel
theorem dX8_kind_9 : decode cX8_kind 9 = .ok (.ifCond .ne 8, 3) := by decide +kernel
theorem dX8_kind_12 : decode cX8_kind 12 = .ok (.ldc 137, 2) := by decide +kernel
theorem dX8_kind_14 : decode cX8_kind 14 = .ok (.goto 7, 3) := by decide +kernel
theorem dX8_kind_17 : decode cX8_kind 17 = .ok (.aload_n 0, 1) := by decide +kernel
theorem dX8_kind_18 : decode cX8_kind 18 = .ok (.invokevirtual 242, 3) := by decide +kernel
theorem dX8_kind_21 : decode cX8_kind 21 = .ok (.ireturn, 1) := by decide +kernel
theorem dX8_as_0 : decode cX8_as 0 = .ok (.aload_n 0, 1) := by decide +kernel
theorem dX8_as_1 : decode cX8_as 1 = .ok (.iconst 0, 1) := by decide +kernel
theorem dX8_as_2 : decode cX8_as 2 = .ok (.putfield 1, 3) := by decide +kernel
theorem dX8_as_5 : decode cX8_as 5 = .ok (.iload_n 1, 1) := by decide +kernel
theorem dX8_as_6 : decode cX8_as 6 = .ok (.i2l, 1) := by decide +kernel
theorem dX8_as_7 : decode cX8_as 7 = .ok (.lconst 0, 1) := by decide +kernel
theorem dX8_as_8 : decode cX8_as 8 = .ok (.ldc2_w 245, 3) := by decide +kernel
theorem dX8_as_11 : decode cX8_as 11 = .ok (.invokestatic 90, 3) := by decide +kernel
theorem dX8_as_14 : decode cX8_as 14 = .ok (.ifCond .ne 6, 3) := by decide +kernel
theorem dX8_as_17 : decode cX8_as 17 = .ok (.ldc 98, 2) := by decide +kernel
theorem dX8_as_19 : decode cX8_as 19 = .ok (.ireturn, 1) := by decide +kernel
theorem dX8_as_20 : decode cX8_as 20 = .ok (.aload_n 0, 1) := by decide +kernel
theorem dX8_as_21 : decode cX8_as 21 = .ok (.getfield 99, 3) := by decide +kernel
theorem dX8_as_24 : decode cX8_as 24 = .ok (.ifCond .ne 6, 3) := by decide +kernel
theorem dX8_as_27 : decode cX8_as 27 = .ok (.ldc 137, 2) := by decide +kernel
theorem dX8_as_29 : decode cX8_as 29 = .ok (.ireturn, 1) := by decide +kernel
theorem dX8_as_30 : decode cX8_as 30 = .ok (.iload_n 1, 1) := by decide +kernel
theorem dX8_as_31 : decode cX8_as 31 = .ok (.ifCond .eq 11, 3) := by decide +kernel
theorem dX8_as_34 : decode cX8_as 34 = .ok (.aload_n 0, 1) := by decide +kernel
theorem dX8_as_35 : decode cX8_as 35 = .ok (.invokevirtual 242, 3) := by decide +kernel
theorem dX8_as_38 : decode cX8_as 38 = .ok (.iload_n 1, 1) := by decide +kernel
theorem dX8_as_39 : decode cX8_as 39 = .ok (.if_icmp .ne 10, 3) := by decide +kernel
theorem dX8_as_42 : decode cX8_as 42 = .ok (.aload_n 0, 1) := by decide +kernel
theorem dX8_as_43 : decode cX8_as 43 = .ok (.getfield 99, 3) := by decide +kernel
theorem dX8_as_46 : decode cX8_as 46 = .ok (.goto 5, 3) := by decide +kernel
theorem dX8_as_49 : decode cX8_as 49 = .ok (.ldc 247, 2) := by decide +kernel
theorem dX8_as_51 : decode cX8_as 51 = .ok (.ireturn, 1) := by decide +kernel
theorem dX8_began_0 : decode cX8_began 0 = .ok (.aload_n 0, 1) := by decide +kernel
theorem dX8_began_1 : decode cX8_began 1 = .ok (.getfield 248, 3) := by decide +kernel
theorem dX8_began_4 : decode cX8_began 4 = .ok (.bipush 16, 2) := by decide +kernel
theorem dX8_began_6 : decode cX8_began 6 = .ok (.if_icmp .ge 23, 3) := by decide +kernel
theorem dX8_began_9 : decode cX8_began 9 = .ok (.aload_n 0, 1) := by decide +kernel
theorem dX8_began_10 : decode cX8_began 10 = .ok (.getfield 84, 3) := by decide +kernel
theorem dX8_began_13 : decode cX8_began 13 = .ok (.aload_n 0, 1) := by decide +kernel
theorem dX8_began_14 : decode cX8_began 14 = .ok (.getfield 248, 3) := by decide +kernel
theorem dX8_began_17 : decode cX8_began 17 = .ok (.iload_n 1, 1) := by decide +kernel
theorem dX8_began_18 : decode cX8_began 18 = .ok (.iastore, 1) := by decide +kernel
theorem dX8_began_19 : decode cX8_began 19 = .ok (.aload_n 0, 1) := by decide +kernel
theorem dX8_began_20 : decode cX8_began 20 = .ok (.dup, 1) := by decide +kernel
theorem dX8_began_21 : decode cX8_began 21 = .ok (.getfield 248, 3) := by decide +kernel
theorem dX8_began_24 : decode cX8_began 24 = .ok (.iconst 1, 1) := by decide +kernel
theorem dX8_began_25 : decode cX8_began 25 = .ok (.iadd, 1) := by decide +kernel
theorem dX8_began_26 : decode cX8_began 26 = .ok (.putfield 248, 3) := by decide +kernel
theorem dX8_began_29 : decode cX8_began 29 = .ok (.return_, 1) := by decide +kernel
theorem dX8_sized_0 : decode cX8_sized 0 = .ok (.iload_n 1, 1) := by decide +kernel
theorem dX8_sized_1 : decode cX8_sized 1 = .ok (.iconst 1, 1) := by decide +kernel
theorem dX8_sized_2 : decode cX8_sized 2 = .ok (.if_icmp .ne 12, 3) := by decide +kernel
theorem dX8_sized_5 : decode cX8_sized 5 = .ok (.aload_n 0, 1) := by decide +kernel
theorem dX8_sized_6 : decode cX8_sized 6 = .ok (.bipush 11, 2) := by decide +kernel
theorem dX8_sized_8 : decode cX8_sized 8 = .ok (.invokevirtual 251, 3) := by decide +kernel
theorem dX8_sized_11 : decode cX8_sized 11 = .ok (.goto 23, 3) := by decide +kernel
theorem dX8_sized_14 : decode cX8_sized 14 = .ok (.iload_n 1, 1) := by decide +kernel
theorem dX8_sized_15 : decode cX8_sized 15 = .ok (.iconst 2, 1) := by decide +kernel
theorem dX8_sized_16 : decode cX8_sized 16 = .ok (.if_icmp .ne 12, 3) := by decide +kernel
theorem dX8_sized_19 : decode cX8_sized 19 = .ok (.aload_n 0, 1) := by decide +kernel
theorem dX8_sized_20 : decode cX8_sized 20 = .ok (.bipush 12, 2) := by decide +kernel
theorem dX8_sized_22 : decode cX8_sized 22 = .ok (.invokevirtual 251, 3) := by decide +kernel
theorem dX8_sized_25 : decode cX8_sized 25 = .ok (.goto 9, 3) := by decide +kernel
theorem dX8_sized_28 : decode cX8_sized 28 = .ok (.aload_n 0, 1) := by decide +kernel
theorem dX8_sized_29 : decode cX8_sized 29 = .ok (.bipush 13, 2) := by decide +kernel
theorem dX8_sized_31 : decode cX8_sized 31 = .ok (.invokevirtual 251, 3) := by decide +kernel
theorem dX8_sized_34 : decode cX8_sized 34 = .ok (.aload_n 0, 1) := by decide +kernel
theorem dX8_sized_35 : decode cX8_sized 35 = .ok (.bipush 10, 2) := by decide +kernel
theorem dX8_sized_37 : decode cX8_sized 37 = .ok (.invokevirtual 251, 3) := by decide +kernel
theorem dX8_sized_40 : decode cX8_sized 40 = .ok (.iload_n 1, 1) := by decide +kernel
theorem dX8_sized_41 : decode cX8_sized 41 = .ok (.iconst 1, 1) := by decide +kernel
theorem dX8_sized_42 : decode cX8_sized 42 = .ok (.if_icmp .ne 15, 3) := by decide +kernel
theorem dX8_sized_45 : decode cX8_sized 45 = .ok (.aload_n 0, 1) := by decide +kernel
theorem dX8_sized_46 : decode cX8_sized 46 = .ok (.getfield 99, 3) := by decide +kernel
theorem dX8_sized_49 : decode cX8_sized 49 = .ok (.aload_n 0, 1) := by decide +kernel
theorem dX8_sized_50 : decode cX8_sized 50 = .ok (.getfield 87, 3) := by decide +kernel
theorem dX8_sized_53 : decode cX8_sized 53 = .ok (.iadd, 1) := by decide +kernel
theorem dX8_sized_54 : decode cX8_sized 54 = .ok (.goto 27, 3) := by decide +kernel
theorem dX8_sized_57 : decode cX8_sized 57 = .ok (.iload_n 1, 1) := by decide +kernel
theorem dX8_sized_58 : decode cX8_sized 58 = .ok (.iconst 2, 1) := by decide +kernel
theorem dX8_sized_59 : decode cX8_sized 59 = .ok (.if_icmp .ne 16, 3) := by decide +kernel
theorem dX8_sized_62 : decode cX8_sized 62 = .ok (.aload_n 0, 1) := by decide +kernel
theorem dX8_sized_63 : decode cX8_sized 63 = .ok (.getfield 99, 3) := by decide +kernel
theorem dX8_sized_66 : decode cX8_sized 66 = .ok (.aload_n 0, 1) := by decide +kernel
theorem dX8_sized_67 : decode cX8_sized 67 = .ok (.iconst 0, 1) := by decide +kernel
theorem dX8_sized_68 : decode cX8_sized 68 = .ok (.invokevirtual 239, 3) := by decide +kernel
theorem dX8_sized_71 : decode cX8_sized 71 = .ok (.iadd, 1) := by decide +kernel
theorem dX8_sized_72 : decode cX8_sized 72 = .ok (.goto 9, 3) := by decide +kernel
theorem dX8_sized_75 : decode cX8_sized 75 = .ok (.iconst 2, 1) := by decide +kernel
theorem dX8_sized_76 : decode cX8_sized 76 = .ok (.aload_n 0, 1) := by decide +kernel
theorem dX8_sized_77 : decode cX8_sized 77 = .ok (.getfield 99, 3) := by decide +kernel
theorem dX8_sized_80 : decode cX8_sized 80 = .ok (.imul, 1) := by decide +kernel
theorem dX8_sized_81 : decode cX8_sized 81 = .ok (.ireturn, 1) := by decide +kernel
theorem dX8_places_0 : decode cX8_places 0 = .ok (.iconst 0, 1) := by decide +kernel
theorem dX8_places_1 : decode cX8_places 1 = .ok (.istore_n 1, 1) := by decide +kernel
theorem dX8_places_2 : decode cX8_places 2 = .ok (.iconst 0, 1) := by decide +kernel
theorem dX8_places_3 : decode cX8_places 3 = .ok (.istore_n 2, 1) := by decide +kernel
theorem dX8_places_4 : decode cX8_places 4 = .ok (.iload_n 2, 1) := by decide +kernel
theorem dX8_places_5 : decode cX8_places 5 = .ok (.aload_n 0, 1) := by decide +kernel
theorem dX8_places_6 : decode cX8_places 6 = .ok (.getfield 87, 3) := by decide +kernel
theorem dX8_places_9 : decode cX8_places 9 = .ok (.if_icmp .ge 26, 3) := by decide +kernel
theorem dX8_places_12 : decode cX8_places 12 = .ok (.iload_n 1, 1) := by decide +kernel
theorem dX8_places_13 : decode cX8_places 13 = .ok (.aload_n 0, 1) := by decide +kernel
theorem dX8_places_14 : decode cX8_places 14 = .ok (.getfield 13, 3) := by decide +kernel
theorem dX8_places_17 : decode cX8_places 17 = .ok (.iload_n 2, 1) := by decide +kernel
theorem dX8_places_18 : decode cX8_places 18 = .ok (.iaload, 1) := by decide +kernel
theorem dX8_places_19 : decode cX8_places 19 = .ok (.ifCond .le 7, 3) := by decide +kernel
theorem dX8_places_22 : decode cX8_places 22 = .ok (.iconst 1, 1) := by decide +kernel
theorem dX8_places_23 : decode cX8_places 23 = .ok (.goto 4, 3) := by decide +kernel
theorem dX8_places_26 : decode cX8_places 26 = .ok (.iconst 0, 1) := by decide +kernel
theorem dX8_places_27 : decode cX8_places 27 = .ok (.iadd, 1) := by decide +kernel
theorem dX8_places_28 : decode cX8_places 28 = .ok (.istore_n 1, 1) := by decide +kernel
theorem dX8_places_29 : decode cX8_places 29 = .ok (.iinc 2 1, 3) := by decide +kernel
theorem dX8_places_32 : decode cX8_places 32 = .ok (.goto (-28), 3) := by decide +kernel
theorem dX8_places_35 : decode cX8_places 35 = .ok (.iload_n 1, 1) := by decide +kernel
theorem dX8_places_36 : decode cX8_places 36 = .ok (.ireturn, 1) := by decide +kernel
theorem dX8_ask_0 : decode cX8_ask 0 = .ok (.aload_n 0, 1) := by decide +kernel
theorem dX8_ask_1 : decode cX8_ask 1 = .ok (.iconst 0, 1) := by decide +kernel
theorem dX8_ask_2 : decode cX8_ask 2 = .ok (.putfield 1, 3) := by decide +kernel
theorem dX8_ask_5 : decode cX8_ask 5 = .ok (.iload_n 1, 1) := by decide +kernel
theorem dX8_ask_6 : decode cX8_ask 6 = .ok (.i2l, 1) := by decide +kernel
theorem dX8_ask_7 : decode cX8_ask 7 = .ok (.lconst 0, 1) := by decide +kernel
theorem dX8_ask_8 : decode cX8_ask 8 = .ok (.lconst 1, 1) := by decide +kernel
theorem dX8_ask_9 : decode cX8_ask 9 = .ok (.invokestatic 90, 3) := by decide +kernel
theorem dX8_ask_12 : decode cX8_ask 12 = .ok (.ifCond .ne 6, 3) := by decide +kernel
theorem dX8_ask_15 : decode cX8_ask 15 = .ok (.ldc 98, 2) := by decide +kernel
theorem dX8_ask_17 : decode cX8_ask 17 = .ok (.ireturn, 1) := by decide +kernel
theorem dX8_ask_18 : decode cX8_ask 18 = .ok (.aload_n 0, 1) := by decide +kernel
theorem dX8_ask_19 : decode cX8_ask 19 = .ok (.getfield 99, 3) := by decide +kernel
theorem dX8_ask_22 : decode cX8_ask 22 = .ok (.ifCond .ne 6, 3) := by decide +kernel
theorem dX8_ask_25 : decode cX8_ask 25 = .ok (.ldc 137, 2) := by decide +kernel
theorem dX8_ask_27 : decode cX8_ask 27 = .ok (.ireturn, 1) := by decide +kernel
theorem dX8_ask_28 : decode cX8_ask 28 = .ok (.aload_n 0, 1) := by decide +kernel
theorem dX8_ask_29 : decode cX8_ask 29 = .ok (.iconst 0, 1) := by decide +kernel
theorem dX8_ask_30 : decode cX8_ask 30 = .ok (.putfield 248, 3) := by decide +kernel
theorem dX8_ask_33 : decode cX8_ask 33 = .ok (.aload_n 0, 1) := by decide +kernel
theorem dX8_ask_34 : decode cX8_ask 34 = .ok (.invokevirtual 242, 3) := by decide +kernel
theorem dX8_ask_37 : decode cX8_ask 37 = .ok (.istore_n 2, 1) := by decide +kernel
theorem dX8_ask_38 : decode cX8_ask 38 = .ok (.iload_n 1, 1) := by decide +kernel
theorem dX8_ask_39 : decode cX8_ask 39 = .ok (.ifCond .ne 9, 3) := by decide +kernel
theorem dX8_ask_42 : decode cX8_ask 42 = .ok (.aload_n 0, 1) := by decide +kernel
theorem dX8_ask_43 : decode cX8_ask 43 = .ok (.iload_n 2, 1) := by decide +kernel
theorem dX8_ask_44 : decode cX8_ask 44 = .ok (.invokevirtual 254, 3) := by decide +kernel
theorem dX8_ask_47 : decode cX8_ask 47 = .ok (.ireturn, 1) := by decide +kernel
theorem dX8_ask_48 : decode cX8_ask 48 = .ok (.iload_n 2, 1) := by decide +kernel
theorem dX8_ask_49 : decode cX8_ask 49 = .ok (.iconst 2, 1) := by decide +kernel
theorem dX8_ask_50 : decode cX8_ask 50 = .ok (.if_icmp .ne 12, 3) := by decide +kernel
theorem dX8_ask_53 : decode cX8_ask 53 = .ok (.aload_n 0, 1) := by decide +kernel
theorem dX8_ask_54 : decode cX8_ask 54 = .ok (.bipush 21, 2) := by decide +kernel
theorem dX8_ask_56 : decode cX8_ask 56 = .ok (.invokevirtual 251, 3) := by decide +kernel
theorem dX8_ask_59 : decode cX8_ask 59 = .ok (.goto 14, 3) := by decide +kernel
theorem dX8_ask_62 : decode cX8_ask 62 = .ok (.iload_n 2, 1) := by decide +kernel
theorem dX8_ask_63 : decode cX8_ask 63 = .ok (.iconst 3, 1) := by decide +kernel
theorem dX8_ask_64 : decode cX8_ask 64 = .ok (.if_icmp .ne 9, 3) := by decide +kernel
theorem dX8_ask_67 : decode cX8_ask 67 = .ok (.aload_n 0, 1) := by decide +kernel
theorem dX8_ask_68 : decode cX8_ask 68 = .ok (.bipush 22, 2) := by decide +kernel
theorem dX8_ask_70 : decode cX8_ask 70 = .ok (.invokevirtual 251, 3) := by decide +kernel
theorem dX8_ask_73 : decode cX8_ask 73 = .ok (.aload_n 0, 1) := by decide +kernel
theorem dX8_ask_74 : decode cX8_ask 74 = .ok (.bipush 20, 2) := by decide +kernel
theorem dX8_ask_76 : decode cX8_ask 76 = .ok (.invokevirtual 251, 3) := by decide +kernel
theorem dX8_ask_79 : decode cX8_ask 79 = .ok (.aload_n 0, 1) := by decide +kernel
theorem dX8_ask_80 : decode cX8_ask 80 = .ok (.invokevirtual 257, 3) := by decide +kernel
theorem dX8_ask_83 : decode cX8_ask 83 = .ok (.istore_n 3, 1) := by decide +kernel
theorem dX8_ask_84 : decode cX8_ask 84 = .ok (.iload_n 2, 1) := by decide +kernel
theorem dX8_ask_85 : decode cX8_ask 85 = .ok (.iconst 2, 1) := by decide +kernel
theorem dX8_ask_86 : decode cX8_ask 86 = .ok (.if_icmp .ne 13, 3) := by decide +kernel
theorem dX8_ask_89 : decode cX8_ask 89 = .ok (.iload_n 3, 1) := by decide +kernel
theorem dX8_ask_90 : decode cX8_ask 90 = .ok (.aload_n 0, 1) := by decide +kernel
theorem dX8_ask_91 : decode cX8_ask 91 = .ok (.iload_n 2, 1) := by decide +kernel
theorem dX8_ask_92 : decode cX8_ask 92 = .ok (.invokevirtual 254, 3) := by decide +kernel
theorem dX8_ask_95 : decode cX8_ask 95 = .ok (.iadd, 1) := by decide +kernel
theorem dX8_ask_96 : decode cX8_ask 96 = .ok (.goto 16, 3) := by decide +kernel
theorem dX8_ask_99 : decode cX8_ask 99 = .ok (.iload_n 2, 1) := by decide +kernel
theorem dX8_ask_100 : decode cX8_ask 100 = .ok (.iconst 3, 1) := by decide +kernel
theorem dX8_ask_101 : decode cX8_ask 101 = .ok (.if_icmp .ne 10, 3) := by decide +kernel
theorem dX8_ask_104 : decode cX8_ask 104 = .ok (.iload_n 3, 1) := by decide +kernel
theorem dX8_ask_105 : decode cX8_ask 105 = .ok (.bipush 100, 2) := by decide +kernel
theorem dX8_ask_107 : decode cX8_ask 107 = .ok (.iadd, 1) := by decide +kernel
theorem dX8_ask_108 : decode cX8_ask 108 = .ok (.goto 4, 3) := by decide +kernel
theorem dX8_ask_111 : decode cX8_ask 111 = .ok (.iload_n 3, 1) := by decide +kernel
theorem dX8_ask_112 : decode cX8_ask 112 = .ok (.ireturn, 1) := by decide +kernel
theorem dX8_trace_0 : decode cX8_trace 0 = .ok (.aload_n 0, 1) := by decide +kernel
theorem dX8_trace_1 : decode cX8_trace 1 = .ok (.iconst 0, 1) := by decide +kernel
theorem dX8_trace_2 : decode cX8_trace 2 = .ok (.putfield 1, 3) := by decide +kernel
theorem dX8_trace_5 : decode cX8_trace 5 = .ok (.iload_n 1, 1) := by decide +kernel
theorem dX8_trace_6 : decode cX8_trace 6 = .ok (.i2l, 1) := by decide +kernel
theorem dX8_trace_7 : decode cX8_trace 7 = .ok (.lconst 0, 1) := by decide +kernel
theorem dX8_trace_8 : decode cX8_trace 8 = .ok (.aload_n 0, 1) := by decide +kernel
theorem dX8_trace_9 : decode cX8_trace 9 = .ok (.getfield 248, 3) := by decide +kernel
theorem dX8_trace_12 : decode cX8_trace 12 = .ok (.iconst 1, 1) := by decide +kernel
theorem dX8_trace_13 : decode cX8_trace 13 = .ok (.isub, 1) := by decide +kernel
theorem dX8_trace_14 : decode cX8_trace 14 = .ok (.i2l, 1) := by decide +kernel
theorem dX8_trace_15 : decode cX8_trace 15 = .ok (.invokestatic 90, 3) := by decide +kernel
theorem dX8_trace_18 : decode cX8_trace 18 = .ok (.ifCond .eq 12, 3) := by decide +kernel
theorem dX8_trace_21 : decode cX8_trace 21 = .ok (.aload_n 0, 1) := by decide +kernel
theorem dX8_trace_22 : decode cX8_trace 22 = .ok (.getfield 84, 3) := by decide +kernel
theorem dX8_trace_25 : decode cX8_trace 25 = .ok (.iload_n 1, 1) := by decide +kernel
theorem dX8_trace_26 : decode cX8_trace 26 = .ok (.iaload, 1) := by decide +kernel
theorem dX8_trace_27 : decode cX8_trace 27 = .ok (.goto 5, 3) := by decide +kernel
theorem dX8_trace_30 : decode cX8_trace 30 = .ok (.ldc 110, 2) := by decide +kernel
theorem dX8_trace_32 : decode cX8_trace 32 = .ok (.ireturn, 1) := by decide +kernel
theorem dX8_count_0 : decode cX8_count 0 = .ok (.aload_n 0, 1) := by decide +kernel
theorem dX8_count_1 : decode cX8_count 1 = .ok (.iconst 0, 1) := by decide +kernel
theorem dX8_count_2 : decode cX8_count 2 = .ok (.putfield 1, 3) := by decide +kernel
theorem dX8_count_5 : decode cX8_count 5 = .ok (.aload_n 0, 1) := by decide +kernel
theorem dX8_count_6 : decode cX8_count 6 = .ok (.invokevirtual 111, 3) := by decide +kernel
theorem dX8_count_9 : decode cX8_count 9 = .ok (.iload_n 1, 1) := by decide +kernel
theorem dX8_count_10 : decode cX8_count 10 = .ok (.tableswitch 79 0 6 #[42, 47, 52, 57, 62, 68, 74], 42) := by decide +kernel
theorem dX8_count_52 : decode cX8_count 52 = .ok (.aload_n 0, 1) := by decide +kernel
theorem dX8_count_53 : decode cX8_count 53 = .ok (.getfield 87, 3) := by decide +kernel
theorem dX8_count_56 : decode cX8_count 56 = .ok (.ireturn, 1) := by decide +kernel
theorem dX8_count_57 : decode cX8_count 57 = .ok (.aload_n 0, 1) := by decide +kernel
theorem dX8_count_58 : decode cX8_count 58 = .ok (.getfield 99, 3) := by decide +kernel
theorem dX8_count_61 : decode cX8_count 61 = .ok (.ireturn, 1) := by decide +kernel
theorem dX8_count_62 : decode cX8_count 62 = .ok (.aload_n 0, 1) := by decide +kernel
theorem dX8_count_63 : decode cX8_count 63 = .ok (.invokevirtual 257, 3) := by decide +kernel
theorem dX8_count_66 : decode cX8_count 66 = .ok (.ireturn, 1) := by decide +kernel
theorem dX8_count_67 : decode cX8_count 67 = .ok (.aload_n 0, 1) := by decide +kernel
theorem dX8_count_68 : decode cX8_count 68 = .ok (.getfield 118, 3) := by decide +kernel
theorem dX8_count_71 : decode cX8_count 71 = .ok (.ireturn, 1) := by decide +kernel
theorem dX8_count_72 : decode cX8_count 72 = .ok (.aload_n 0, 1) := by decide +kernel
theorem dX8_count_73 : decode cX8_count 73 = .ok (.iconst 0, 1) := by decide +kernel
theorem dX8_count_74 : decode cX8_count 74 = .ok (.invokevirtual 239, 3) := by decide +kernel
theorem dX8_count_77 : decode cX8_count 77 = .ok (.ireturn, 1) := by decide +kernel
theorem dX8_count_78 : decode cX8_count 78 = .ok (.aload_n 0, 1) := by decide +kernel
theorem dX8_count_79 : decode cX8_count 79 = .ok (.iconst 1, 1) := by decide +kernel
theorem dX8_count_80 : decode cX8_count 80 = .ok (.invokevirtual 239, 3) := by decide +kernel
theorem dX8_count_83 : decode cX8_count 83 = .ok (.ireturn, 1) := by decide +kernel
theorem dX8_count_84 : decode cX8_count 84 = .ok (.aload_n 0, 1) := by decide +kernel
theorem dX8_count_85 : decode cX8_count 85 = .ok (.getfield 140, 3) := by decide +kernel
theorem dX8_count_88 : decode cX8_count 88 = .ok (.ireturn, 1) := by decide +kernel
theorem dX8_count_89 : decode cX8_count 89 = .ok (.ldc 98, 2) := by decide +kernel
theorem dX8_count_91 : decode cX8_count 91 = .ok (.ireturn, 1) := by decide +kernel
theorem dJ13_bitCount_95d88_0 : decode cJ13_bitCount_95d88 0 = .ok (.lload_n 0, 1) := by decide +kernel
theorem dJ13_bitCount_95d88_1 : decode cJ13_bitCount_95d88 1 = .ok (.lload_n 0, 1) := by decide +kernel
theorem dJ13_bitCount_95d88_2 : decode cJ13_bitCount_95d88 2 = .ok (.iconst 1, 1) := by decide +kernel
theorem dJ13_bitCount_95d88_3 : decode cJ13_bitCount_95d88 3 = .ok (.lushr, 1) := by decide +kernel
theorem dJ13_bitCount_95d88_4 : decode cJ13_bitCount_95d88 4 = .ok (.ldc2_w 314, 3) := by decide +kernel
theorem dJ13_bitCount_95d88_7 : decode cJ13_bitCount_95d88 7 = .ok (.land, 1) := by decide +kernel
theorem dJ13_bitCount_95d88_8 : decode cJ13_bitCount_95d88 8 = .ok (.lsub, 1) := by decide +kernel
theorem dJ13_bitCount_95d88_9 : decode cJ13_bitCount_95d88 9 = .ok (.lstore_n 0, 1) := by decide +kernel
theorem dJ13_bitCount_95d88_10 : decode cJ13_bitCount_95d88 10 = .ok (.lload_n 0, 1) := by decide +kernel
theorem dJ13_bitCount_95d88_11 : decode cJ13_bitCount_95d88 11 = .ok (.ldc2_w 316, 3) := by decide +kernel
theorem dJ13_bitCount_95d88_14 : decode cJ13_bitCount_95d88 14 = .ok (.land, 1) := by decide +kernel
theorem dJ13_bitCount_95d88_15 : decode cJ13_bitCount_95d88 15 = .ok (.lload_n 0, 1) := by decide +kernel
theorem dJ13_bitCount_95d88_16 : decode cJ13_bitCount_95d88 16 = .ok (.iconst 2, 1) := by decide +kernel
theorem dJ13_bitCount_95d88_17 : decode cJ13_bitCount_95d88 17 = .ok (.lushr, 1) := by decide +kernel
theorem dJ13_bitCount_95d88_18 : decode cJ13_bitCount_95d88 18 = .ok (.ldc2_w 316, 3) := by decide +kernel
theorem dJ13_bitCount_95d88_21 : decode cJ13_bitCount_95d88 21 = .ok (.land, 1) := by decide +kernel
theorem dJ13_bitCount_95d88_22 : decode cJ13_bitCount_95d88 22 = .ok (.ladd, 1) := by decide +kernel
theorem dJ13_bitCount_95d88_23 : decode cJ13_bitCount_95d88 23 = .ok (.lstore_n 0, 1) := by decide +kernel
theorem dJ13_bitCount_95d88_24 : decode cJ13_bitCount_95d88 24 = .ok (.lload_n 0, 1) := by decide +kernel
theorem dJ13_bitCount_95d88_25 : decode cJ13_bitCount_95d88 25 = .ok (.lload_n 0, 1) := by decide +kernel
theorem dJ13_bitCount_95d88_26 : decode cJ13_bitCount_95d88 26 = .ok (.iconst 4, 1) := by decide +kernel
theorem dJ13_bitCount_95d88_27 : decode cJ13_bitCount_95d88 27 = .ok (.lushr, 1) := by decide +kernel
theorem dJ13_bitCount_95d88_28 : decode cJ13_bitCount_95d88 28 = .ok (.ladd, 1) := by decide +kernel
theorem dJ13_bitCount_95d88_29 : decode cJ13_bitCount_95d88 29 = .ok (.ldc2_w 318, 3) := by decide +kernel
theorem dJ13_bitCount_95d88_32 : decode cJ13_bitCount_95d88 32 = .ok (.land, 1) := by decide +kernel
theorem dJ13_bitCount_95d88_33 : decode cJ13_bitCount_95d88 33 = .ok (.lstore_n 0, 1) := by decide +kernel
theorem dJ13_bitCount_95d88_34 : decode cJ13_bitCount_95d88 34 = .ok (.lload_n 0, 1) := by decide +kernel
theorem dJ13_bitCount_95d88_35 : decode cJ13_bitCount_95d88 35 = .ok (.lload_n 0, 1) := by decide +kernel
theorem dJ13_bitCount_95d88_36 : decode cJ13_bitCount_95d88 36 = .ok (.bipush 8, 2) := by decide +kernel
theorem dJ13_bitCount_95d88_38 : decode cJ13_bitCount_95d88 38 = .ok (.lushr, 1) := by decide +kernel
theorem dJ13_bitCount_95d88_39 : decode cJ13_bitCount_95d88 39 = .ok (.ladd, 1) := by decide +kernel
theorem dJ13_bitCount_95d88_40 : decode cJ13_bitCount_95d88 40 = .ok (.lstore_n 0, 1) := by decide +kernel
theorem dJ13_bitCount_95d88_41 : decode cJ13_bitCount_95d88 41 = .ok (.lload_n 0, 1) := by decide +kernel
theorem dJ13_bitCount_95d88_42 : decode cJ13_bitCount_95d88 42 = .ok (.lload_n 0, 1) := by decide +kernel
theorem dJ13_bitCount_95d88_43 : decode cJ13_bitCount_95d88 43 = .ok (.bipush 16, 2) := by decide +kernel
theorem dJ13_bitCount_95d88_45 : decode cJ13_bitCount_95d88 45 = .ok (.lushr, 1) := by decide +kernel
theorem dJ13_bitCount_95d88_46 : decode cJ13_bitCount_95d88 46 = .ok (.ladd, 1) := by decide +kernel
theorem dJ13_bitCount_95d88_47 : decode cJ13_bitCount_95d88 47 = .ok (.lstore_n 0, 1) := by decide +kernel
theorem dJ13_bitCount_95d88_48 : decode cJ13_bitCount_95d88 48 = .ok (.lload_n 0, 1) := by decide +kernel
theorem dJ13_bitCount_95d88_49 : decode cJ13_bitCount_95d88 49 = .ok (.lload_n 0, 1) := by decide +kernel
theorem dJ13_bitCount_95d88_50 : decode cJ13_bitCount_95d88 50 = .ok (.bipush 32, 2) := by decide +kernel
theorem dJ13_bitCount_95d88_52 : decode cJ13_bitCount_95d88 52 = .ok (.lushr, 1) := by decide +kernel
theorem dJ13_bitCount_95d88_53 : decode cJ13_bitCount_95d88 53 = .ok (.ladd, 1) := by decide +kernel
theorem dJ13_bitCount_95d88_54 : decode cJ13_bitCount_95d88 54 = .ok (.lstore_n 0, 1) := by decide +kernel
theorem dJ13_bitCount_95d88_55 : decode cJ13_bitCount_95d88 55 = .ok (.lload_n 0, 1) := by decide +kernel
theorem dJ13_bitCount_95d88_56 : decode cJ13_bitCount_95d88 56 = .ok (.l2i, 1) := by decide +kernel
theorem dJ13_bitCount_95d88_57 : decode cJ13_bitCount_95d88 57 = .ok (.bipush 127, 2) := by decide +kernel
theorem dJ13_bitCount_95d88_59 : decode cJ13_bitCount_95d88 59 = .ok (.iand, 1) := by decide +kernel
theorem dJ13_bitCount_95d88_60 : decode cJ13_bitCount_95d88 60 = .ok (.ireturn, 1) := by decide +kernel
theorem dJ9_max_7cf53_0 : decode cJ9_max_7cf53 0 = .ok (.iload_n 0, 1) := by decide +kernel
theorem dJ9_max_7cf53_1 : decode cJ9_max_7cf53 1 = .ok (.iload_n 1, 1) := by decide +kernel
theorem dJ9_max_7cf53_2 : decode cJ9_max_7cf53 2 = .ok (.if_icmp .lt 7, 3) := by decide +kernel
theorem dJ9_max_7cf53_5 : decode cJ9_max_7cf53 5 = .ok (.iload_n 0, 1) := by decide +kernel
theorem dJ9_max_7cf53_6 : decode cJ9_max_7cf53 6 = .ok (.goto 4, 3) := by decide +kernel
theorem dJ9_max_7cf53_9 : decode cJ9_max_7cf53 9 = .ok (.iload_n 1, 1) := by decide +kernel
theorem dJ9_max_7cf53_10 : decode cJ9_max_7cf53 10 = .ok (.ireturn, 1) := by decide +kernel
theorem dJ9_min_7cf53_0 : decode cJ9_min_7cf53 0 = .ok (.iload_n 0, 1) := by decide +kernel
theorem dJ9_min_7cf53_1 : decode cJ9_min_7cf53 1 = .ok (.iload_n 1, 1) := by decide +kernel
theorem dJ9_min_7cf53_2 : decode cJ9_min_7cf53 2 = .ok (.if_icmp .gt 7, 3) := by decide +kernel
theorem dJ9_min_7cf53_5 : decode cJ9_min_7cf53 5 = .ok (.iload_n 0, 1) := by decide +kernel
theorem dJ9_min_7cf53_6 : decode cJ9_min_7cf53 6 = .ok (.goto 4, 3) := by decide +kernel
theorem dJ9_min_7cf53_9 : decode cJ9_min_7cf53 9 = .ok (.iload_n 1, 1) := by decide +kernel
theorem dJ9_min_7cf53_10 : decode cJ9_min_7cf53 10 = .ok (.ireturn, 1) := by decide +kernel
theorem dJ9_min_f86c9_0 : decode cJ9_min_f86c9 0 = .ok (.lload_n 0, 1) := by decide +kernel
theorem dJ9_min_f86c9_1 : decode cJ9_min_f86c9 1 = .ok (.lload_n 2, 1) := by decide +kernel
theorem dJ9_min_f86c9_2 : decode cJ9_min_f86c9 2 = .ok (.lcmp, 1) := by decide +kernel
theorem dJ9_min_f86c9_3 : decode cJ9_min_f86c9 3 = .ok (.ifCond .gt 7, 3) := by decide +kernel
theorem dJ9_min_f86c9_6 : decode cJ9_min_f86c9 6 = .ok (.lload_n 0, 1) := by decide +kernel
theorem dJ9_min_f86c9_7 : decode cJ9_min_f86c9 7 = .ok (.goto 4, 3) := by decide +kernel
theorem dJ9_min_f86c9_10 : decode cJ9_min_f86c9 10 = .ok (.lload_n 2, 1) := by decide +kernel
theorem dJ9_min_f86c9_11 : decode cJ9_min_f86c9 11 = .ok (.lreturn, 1) := by decide +kernel
theorem dJ0_length_8abf5_0 : decode cJ0_length_8abf5 0 = .ok (.aload_n 0, 1) := by decide +kernel
theorem dJ0_length_8abf5_1 : decode cJ0_length_8abf5 1 = .ok (.getfield 9, 3) := by decide +kernel
theorem dJ0_length_8abf5_4 : decode cJ0_length_8abf5 4 = .ok (.arraylength, 1) := by decide +kernel
theorem dJ0_length_8abf5_5 : decode cJ0_length_8abf5 5 = .ok (.aload_n 0, 1) := by decide +kernel
theorem dJ0_length_8abf5_6 : decode cJ0_length_8abf5 6 = .ok (.invokevirtual 335, 3) := by decide +kernel
theorem dJ0_length_8abf5_9 : decode cJ0_length_8abf5 9 = .ok (.ishr, 1) := by decide +kernel
theorem dJ0_length_8abf5_10 : decode cJ0_length_8abf5 10 = .ok (.ireturn, 1) := by decide +kernel
theorem dJ0_charAt_5068e_0 : decode cJ0_charAt_5068e 0 = .ok (.aload_n 0, 1) := by decide +kernel
theorem dJ0_charAt_5068e_1 : decode cJ0_charAt_5068e 1 = .ok (.invokevirtual 492, 3) := by decide +kernel
theorem dJ0_charAt_5068e_4 : decode cJ0_charAt_5068e 4 = .ok (.ifCond .eq 12, 3) := by decide +kernel
theorem dJ0_charAt_5068e_7 : decode cJ0_charAt_5068e 7 = .ok (.aload_n 0, 1) := by decide +kernel
theorem dJ0_charAt_5068e_8 : decode cJ0_charAt_5068e 8 = .ok (.getfield 9, 3) := by decide +kernel
theorem dJ0_charAt_5068e_11 : decode cJ0_charAt_5068e 11 = .ok (.iload_n 1, 1) := by decide +kernel
theorem dJ0_charAt_5068e_12 : decode cJ0_charAt_5068e 12 = .ok (.invokestatic 495, 3) := by decide +kernel
theorem dJ0_charAt_5068e_15 : decode cJ0_charAt_5068e 15 = .ok (.ireturn, 1) := by decide +kernel
theorem dJ0_charAt_5068e_16 : decode cJ0_charAt_5068e 16 = .ok (.aload_n 0, 1) := by decide +kernel
theorem dJ0_charAt_5068e_17 : decode cJ0_charAt_5068e 17 = .ok (.getfield 9, 3) := by decide +kernel
theorem dJ0_charAt_5068e_20 : decode cJ0_charAt_5068e 20 = .ok (.iload_n 1, 1) := by decide +kernel
theorem dJ0_charAt_5068e_21 : decode cJ0_charAt_5068e 21 = .ok (.invokestatic 498, 3) := by decide +kernel
theorem dJ0_charAt_5068e_24 : decode cJ0_charAt_5068e 24 = .ok (.ireturn, 1) := by decide +kernel
theorem dJ0_coder_7d493_0 : decode cJ0_coder_7d493 0 = .ok (.getstatic 38, 3) := by decide +kernel
theorem dJ0_coder_7d493_3 : decode cJ0_coder_7d493 3 = .ok (.ifCond .eq 10, 3) := by decide +kernel
theorem dJ0_coder_7d493_6 : decode cJ0_coder_7d493 6 = .ok (.aload_n 0, 1) := by decide +kernel
theorem dJ0_coder_7d493_7 : decode cJ0_coder_7d493 7 = .ok (.getfield 15, 3) := by decide +kernel
theorem dJ0_coder_7d493_10 : decode cJ0_coder_7d493 10 = .ok (.goto 4, 3) := by decide +kernel
theorem dJ0_coder_7d493_13 : decode cJ0_coder_7d493 13 = .ok (.iconst 1, 1) := by decide +kernel
theorem dJ0_coder_7d493_14 : decode cJ0_coder_7d493 14 = .ok (.ireturn, 1) := by decide +kernel
theorem dJ0_isLatin1_aae02_0 : decode cJ0_isLatin1_aae02 0 = .ok (.getstatic 38, 3) := by decide +kernel
theorem dJ0_isLatin1_aae02_3 : decode cJ0_isLatin1_aae02 3 = .ok (.ifCond .eq 14, 3) := by decide +kernel
theorem dJ0_isLatin1_aae02_6 : decode cJ0_isLatin1_aae02 6 = .ok (.aload_n 0, 1) := by decide +kernel
theorem dJ0_isLatin1_aae02_7 : decode cJ0_isLatin1_aae02 7 = .ok (.getfield 15, 3) := by decide +kernel
theorem dJ0_isLatin1_aae02_10 : decode cJ0_isLatin1_aae02 10 = .ok (.ifCond .ne 7, 3) := by decide +kernel
theorem dJ0_isLatin1_aae02_13 : decode cJ0_isLatin1_aae02 13 = .ok (.iconst 1, 1) := by decide +kernel
theorem dJ0_isLatin1_aae02_14 : decode cJ0_isLatin1_aae02 14 = .ok (.goto 4, 3) := by decide +kernel
theorem dJ0_isLatin1_aae02_17 : decode cJ0_isLatin1_aae02 17 = .ok (.iconst 0, 1) := by decide +kernel
theorem dJ0_isLatin1_aae02_18 : decode cJ0_isLatin1_aae02 18 = .ok (.ireturn, 1) := by decide +kernel
theorem dJ0_checkIndex_df160_0 : decode cJ0_checkIndex_df160 0 = .ok (.iload_n 0, 1) := by decide +kernel
theorem dJ0_checkIndex_df160_1 : decode cJ0_checkIndex_df160 1 = .ok (.iload_n 1, 1) := by decide +kernel
theorem dJ0_checkIndex_df160_2 : decode cJ0_checkIndex_df160 2 = .ok (.getstatic 1053, 3) := by decide +kernel
theorem dJ0_checkIndex_df160_5 : decode cJ0_checkIndex_df160 5 = .ok (.invokestatic 1059, 3) := by decide +kernel
theorem dJ0_checkIndex_df160_8 : decode cJ0_checkIndex_df160 8 = .ok (.pop, 1) := by decide +kernel
theorem dJ0_checkIndex_df160_9 : decode cJ0_checkIndex_df160 9 = .ok (.return_, 1) := by decide +kernel
theorem dJ1_charAt_3b067_0 : decode cJ1_charAt_3b067 0 = .ok (.iload_n 1, 1) := by decide +kernel
theorem dJ1_charAt_3b067_1 : decode cJ1_charAt_3b067 1 = .ok (.aload_n 0, 1) := by decide +kernel
theorem dJ1_charAt_3b067_2 : decode cJ1_charAt_3b067 2 = .ok (.arraylength, 1) := by decide +kernel
theorem dJ1_charAt_3b067_3 : decode cJ1_charAt_3b067 3 = .ok (.invokestatic 9, 3) := by decide +kernel
theorem dJ1_charAt_3b067_6 : decode cJ1_charAt_3b067 6 = .ok (.aload_n 0, 1) := by decide +kernel
theorem dJ1_charAt_3b067_7 : decode cJ1_charAt_3b067 7 = .ok (.iload_n 1, 1) := by decide +kernel
theorem dJ1_charAt_3b067_8 : decode cJ1_charAt_3b067 8 = .ok (.baload, 1) := by decide +kernel
theorem dJ1_charAt_3b067_9 : decode cJ1_charAt_3b067 9 = .ok (.sipush 255, 3) := by decide +kernel
theorem dJ1_charAt_3b067_12 : decode cJ1_charAt_3b067 12 = .ok (.iand, 1) := by decide +kernel
theorem dJ1_charAt_3b067_13 : decode cJ1_charAt_3b067 13 = .ok (.i2c, 1) := by decide +kernel
theorem dJ1_charAt_3b067_14 : decode cJ1_charAt_3b067 14 = .ok (.ireturn, 1) := by decide +kernel
theorem dJ2_getChar_3b067_0 : decode cJ2_getChar_3b067 0 = .ok (.getstatic 44, 3) := by decide +kernel
theorem dJ2_getChar_3b067_3 : decode cJ2_getChar_3b067 3 = .ok (.ifCond .ne 25, 3) := by decide +kernel
theorem dJ2_getChar_3b067_6 : decode cJ2_getChar_3b067 6 = .ok (.iload_n 1, 1) := by decide +kernel
theorem dJ2_getChar_3b067_7 : decode cJ2_getChar_3b067 7 = .ok (.ifCond .lt 11, 3) := by decide +kernel
theorem dJ2_getChar_3b067_10 : decode cJ2_getChar_3b067 10 = .ok (.iload_n 1, 1) := by decide +kernel
theorem dJ2_getChar_3b067_11 : decode cJ2_getChar_3b067 11 = .ok (.aload_n 0, 1) := by decide +kernel
theorem dJ2_getChar_3b067_12 : decode cJ2_getChar_3b067 12 = .ok (.invokestatic 48, 3) := by decide +kernel
theorem dJ2_getChar_3b067_15 : decode cJ2_getChar_3b067 15 = .ok (.if_icmp .lt 13, 3) := by decide +kernel
theorem dJ2_getChar_3b067_18 : decode cJ2_getChar_3b067 18 = .ok (.new 52, 3) := by decide +kernel
theorem dJ2_getChar_3b067_21 : decode cJ2_getChar_3b067 21 = .ok (.dup, 1) := by decide +kernel
theorem dJ2_getChar_3b067_22 : decode cJ2_getChar_3b067 22 = .ok (.ldc 54, 2) := by decide +kernel
theorem dJ2_getChar_3b067_24 : decode cJ2_getChar_3b067 24 = .ok (.invokespecial 56, 3) := by decide +kernel
theorem dJ2_getChar_3b067_27 : decode cJ2_getChar_3b067 27 = .ok (.athrow, 1) := by decide +kernel
theorem dJ2_getChar_3b067_28 : decode cJ2_getChar_3b067 28 = .ok (.iload_n 1, 1) := by decide +kernel
theorem dJ2_getChar_3b067_29 : decode cJ2_getChar_3b067 29 = .ok (.iconst 1, 1) := by decide +kernel
theorem dJ2_getChar_3b067_30 : decode cJ2_getChar_3b067 30 = .ok (.ishl, 1) := by decide +kernel
theorem dJ2_getChar_3b067_31 : decode cJ2_getChar_3b067 31 = .ok (.istore_n 1, 1) := by decide +kernel
theorem dJ2_getChar_3b067_32 : decode cJ2_getChar_3b067 32 = .ok (.aload_n 0, 1) := by decide +kernel
theorem dJ2_getChar_3b067_33 : decode cJ2_getChar_3b067 33 = .ok (.iload_n 1, 1) := by decide +kernel
theorem dJ2_getChar_3b067_34 : decode cJ2_getChar_3b067 34 = .ok (.iinc 1 1, 3) := by decide +kernel
theorem dJ2_getChar_3b067_37 : decode cJ2_getChar_3b067 37 = .ok (.baload, 1) := by decide +kernel
theorem dJ2_getChar_3b067_38 : decode cJ2_getChar_3b067 38 = .ok (.sipush 255, 3) := by decide +kernel
theorem dJ2_getChar_3b067_41 : decode cJ2_getChar_3b067 41 = .ok (.iand, 1) := by decide +kernel
theorem dJ2_getChar_3b067_42 : decode cJ2_getChar_3b067 42 = .ok (.getstatic 59, 3) := by decide +kernel
theorem dJ2_getChar_3b067_45 : decode cJ2_getChar_3b067 45 = .ok (.ishl, 1) := by decide +kernel
theorem dJ2_getChar_3b067_46 : decode cJ2_getChar_3b067 46 = .ok (.aload_n 0, 1) := by decide +kernel
theorem dJ2_getChar_3b067_47 : decode cJ2_getChar_3b067 47 = .ok (.iload_n 1, 1) := by decide +kernel
theorem dJ2_getChar_3b067_48 : decode cJ2_getChar_3b067 48 = .ok (.baload, 1) := by decide +kernel
theorem dJ2_getChar_3b067_49 : decode cJ2_getChar_3b067 49 = .ok (.sipush 255, 3) := by decide +kernel
theorem dJ2_getChar_3b067_52 : decode cJ2_getChar_3b067 52 = .ok (.iand, 1) := by decide +kernel
theorem dJ2_getChar_3b067_53 : decode cJ2_getChar_3b067 53 = .ok (.getstatic 63, 3) := by decide +kernel
theorem dJ2_getChar_3b067_56 : decode cJ2_getChar_3b067 56 = .ok (.ishl, 1) := by decide +kernel
theorem dJ2_getChar_3b067_57 : decode cJ2_getChar_3b067 57 = .ok (.ior, 1) := by decide +kernel
theorem dJ2_getChar_3b067_58 : decode cJ2_getChar_3b067 58 = .ok (.i2c, 1) := by decide +kernel
theorem dJ2_getChar_3b067_59 : decode cJ2_getChar_3b067 59 = .ok (.ireturn, 1) := by decide +kernel
theorem dJ2_length_9d52b_0 : decode cJ2_length_9d52b 0 = .ok (.aload_n 0, 1) := by decide +kernel
theorem dJ2_length_9d52b_1 : decode cJ2_length_9d52b 1 = .ok (.arraylength, 1) := by decide +kernel
theorem dJ2_length_9d52b_2 : decode cJ2_length_9d52b 2 = .ok (.iconst 1, 1) := by decide +kernel
theorem dJ2_length_9d52b_3 : decode cJ2_length_9d52b 3 = .ok (.ishr, 1) := by decide +kernel
theorem dJ2_length_9d52b_4 : decode cJ2_length_9d52b 4 = .ok (.ireturn, 1) := by decide +kernel
theorem dJ2_charAt_3b067_0 : decode cJ2_charAt_3b067 0 = .ok (.iload_n 1, 1) := by decide +kernel
theorem dJ2_charAt_3b067_1 : decode cJ2_charAt_3b067 1 = .ok (.aload_n 0, 1) := by decide +kernel
theorem dJ2_charAt_3b067_2 : decode cJ2_charAt_3b067 2 = .ok (.invokestatic 67, 3) := by decide +kernel
theorem dJ2_charAt_3b067_5 : decode cJ2_charAt_3b067 5 = .ok (.aload_n 0, 1) := by decide +kernel
theorem dJ2_charAt_3b067_6 : decode cJ2_charAt_3b067 6 = .ok (.iload_n 1, 1) := by decide +kernel
theorem dJ2_charAt_3b067_7 : decode cJ2_charAt_3b067 7 = .ok (.invokestatic 71, 3) := by decide +kernel
theorem dJ2_charAt_3b067_10 : decode cJ2_charAt_3b067 10 = .ok (.ireturn, 1) := by decide +kernel
theorem dJ2_checkIndex_2214a_0 : decode cJ2_checkIndex_2214a 0 = .ok (.iload_n 0, 1) := by decide +kernel
theorem dJ2_checkIndex_2214a_1 : decode cJ2_checkIndex_2214a 1 = .ok (.aload_n 1, 1) := by decide +kernel
theorem dJ2_checkIndex_2214a_2 : decode cJ2_checkIndex_2214a 2 = .ok (.invokestatic 48, 3) := by decide +kernel
theorem dJ2_checkIndex_2214a_5 : decode cJ2_checkIndex_2214a 5 = .ok (.invokestatic 414, 3) := by decide +kernel
theorem dJ2_checkIndex_2214a_8 : decode cJ2_checkIndex_2214a 8 = .ok (.return_, 1) := by decide +kernel
theorem dJ3_checkIndex_8e157_0 : decode cJ3_checkIndex_8e157 0 = .ok (.iload_n 0, 1) := by decide +kernel
theorem dJ3_checkIndex_8e157_1 : decode cJ3_checkIndex_8e157 1 = .ok (.ifCond .lt 8, 3) := by decide +kernel
theorem dJ3_checkIndex_8e157_4 : decode cJ3_checkIndex_8e157 4 = .ok (.iload_n 0, 1) := by decide +kernel
theorem dJ3_checkIndex_8e157_5 : decode cJ3_checkIndex_8e157 5 = .ok (.iload_n 1, 1) := by decide +kernel
theorem dJ3_checkIndex_8e157_6 : decode cJ3_checkIndex_8e157 6 = .ok (.if_icmp .lt 10, 3) := by decide +kernel
theorem dJ3_checkIndex_8e157_9 : decode cJ3_checkIndex_8e157 9 = .ok (.aload_n 2, 1) := by decide +kernel
theorem dJ3_checkIndex_8e157_10 : decode cJ3_checkIndex_8e157 10 = .ok (.iload_n 0, 1) := by decide +kernel
theorem dJ3_checkIndex_8e157_11 : decode cJ3_checkIndex_8e157 11 = .ok (.iload_n 1, 1) := by decide +kernel
theorem dJ3_checkIndex_8e157_12 : decode cJ3_checkIndex_8e157 12 = .ok (.invokestatic 95, 3) := by decide +kernel
theorem dJ3_checkIndex_8e157_15 : decode cJ3_checkIndex_8e157 15 = .ok (.athrow, 1) := by decide +kernel
theorem dJ3_checkIndex_8e157_16 : decode cJ3_checkIndex_8e157 16 = .ok (.iload_n 0, 1) := by decide +kernel
theorem dJ3_checkIndex_8e157_17 : decode cJ3_checkIndex_8e157 17 = .ok (.ireturn, 1) := by decide +kernel
theorem dL_cell_0 : decode cL_cell 0 = .ok (.iload_n 1, 1) := by decide +kernel
theorem dL_cell_1 : decode cL_cell 1 = .ok (.aload_n 0, 1) := by decide +kernel
theorem dL_cell_2 : decode cL_cell 2 = .ok (.arraylength, 1) := by decide +kernel
theorem dL_cell_3 : decode cL_cell 3 = .ok (.if_icmp .ge 9, 3) := by decide +kernel
theorem dL_cell_6 : decode cL_cell 6 = .ok (.aload_n 0, 1) := by decide +kernel
theorem dL_cell_7 : decode cL_cell 7 = .ok (.iload_n 1, 1) := by decide +kernel
theorem dL_cell_8 : decode cL_cell 8 = .ok (.iaload, 1) := by decide +kernel
theorem dL_cell_9 : decode cL_cell 9 = .ok (.goto 4, 3) := by decide +kernel
theorem dL_cell_12 : decode cL_cell 12 = .ok (.iconst 0, 1) := by decide +kernel
theorem dL_cell_13 : decode cL_cell 13 = .ok (.ireturn, 1) := by decide +kernel
theorem dL_law_0 : decode cL_law 0 = .ok (.new 7, 3) := by decide +kernel
theorem dL_law_3 : decode cL_law 3 = .ok (.dup, 1) := by decide +kernel
theorem dL_law_4 : decode cL_law 4 = .ok (.aload_n 0, 1) := by decide +kernel
theorem dL_law_5 : decode cL_law 5 = .ok (.iconst 0, 1) := by decide +kernel
theorem dL_law_6 : decode cL_law 6 = .ok (.invokestatic 9, 3) := by decide +kernel
theorem dL_law_9 : decode cL_law 9 = .ok (.invokespecial 15, 3) := by decide +kernel
theorem dL_law_12 : decode cL_law 12 = .ok (.astore_n 1, 1) := by decide +kernel
theorem dL_law_13 : decode cL_law 13 = .ok (.new 18, 3) := by decide +kernel
theorem dL_law_16 : decode cL_law 16 = .ok (.dup, 1) := by decide +kernel
theorem dL_law_17 : decode cL_law 17 = .ok (.aload_n 0, 1) := by decide +kernel
theorem dL_law_18 : decode cL_law 18 = .ok (.iconst 0, 1) := by decide +kernel
theorem dL_law_19 : decode cL_law 19 = .ok (.invokestatic 9, 3) := by decide +kernel
theorem dL_law_22 : decode cL_law 22 = .ok (.invokespecial 20, 3) := by decide +kernel
theorem dL_law_25 : decode cL_law 25 = .ok (.astore_n 2, 1) := by decide +kernel
theorem dL_law_26 : decode cL_law 26 = .ok (.iconst 1, 1) := by decide +kernel
theorem dL_law_27 : decode cL_law 27 = .ok (.istore_n 3, 1) := by decide +kernel
theorem dL_law_28 : decode cL_law 28 = .ok (.iload_n 3, 1) := by decide +kernel
theorem dL_law_29 : decode cL_law 29 = .ok (.aload_n 0, 1) := by decide +kernel
theorem dL_law_30 : decode cL_law 30 = .ok (.arraylength, 1) := by decide +kernel
theorem dL_law_31 : decode cL_law 31 = .ok (.iconst 4, 1) := by decide +kernel
theorem dL_law_32 : decode cL_law 32 = .ok (.isub, 1) := by decide +kernel
theorem dL_law_33 : decode cL_law 33 = .ok (.if_icmp .gt 592, 3) := by decide +kernel
theorem dL_law_36 : decode cL_law 36 = .ok (.aload_n 0, 1) := by decide +kernel
theorem dL_law_37 : decode cL_law 37 = .ok (.iload_n 3, 1) := by decide +kernel
theorem dL_law_38 : decode cL_law 38 = .ok (.iaload, 1) := by decide +kernel
theorem dL_law_39 : decode cL_law 39 = .ok (.bipush 31, 2) := by decide +kernel
theorem dL_law_41 : decode cL_law 41 = .ok (.iand, 1) := by decide +kernel
theorem dL_law_42 : decode cL_law 42 = .ok (.tableswitch 577 0 18 #[90, 113, 126, 149, 182, 205, 228, 251, 264, 297, 360, 373, 386, 429, 472, 485, 508, 531, 554], 90) := by decide +kernel
theorem dL_law_132 : decode cL_law 132 = .ok (.aload_n 1, 1) := by decide +kernel
theorem dL_law_133 : decode cL_law 133 = .ok (.aload_n 0, 1) := by decide +kernel
theorem dL_law_134 : decode cL_law 134 = .ok (.iload_n 3, 1) := by decide +kernel
theorem dL_law_135 : decode cL_law 135 = .ok (.iconst 1, 1) := by decide +kernel
theorem dL_law_136 : decode cL_law 136 = .ok (.iadd, 1) := by decide +kernel
theorem dL_law_137 : decode cL_law 137 = .ok (.iaload, 1) := by decide +kernel
theorem dL_law_138 : decode cL_law 138 = .ok (.invokevirtual 21, 3) := by decide +kernel
theorem dL_law_141 : decode cL_law 141 = .ok (.aload_n 2, 1) := by decide +kernel
theorem dL_law_142 : decode cL_law 142 = .ok (.aload_n 0, 1) := by decide +kernel
theorem dL_law_143 : decode cL_law 143 = .ok (.iload_n 3, 1) := by decide +kernel
theorem dL_law_144 : decode cL_law 144 = .ok (.iconst 1, 1) := by decide +kernel
theorem dL_law_145 : decode cL_law 145 = .ok (.iadd, 1) := by decide +kernel
theorem dL_law_146 : decode cL_law 146 = .ok (.iaload, 1) := by decide +kernel
theorem dL_law_147 : decode cL_law 147 = .ok (.invokevirtual 25, 3) := by decide +kernel
theorem dL_law_150 : decode cL_law 150 = .ok (.if_icmp .eq 469, 3) := by decide +kernel
theorem dL_law_153 : decode cL_law 153 = .ok (.iconst 0, 1) := by decide +kernel
theorem dL_law_154 : decode cL_law 154 = .ok (.ireturn, 1) := by decide +kernel
theorem dL_law_155 : decode cL_law 155 = .ok (.aload_n 1, 1) := by decide +kernel
theorem dL_law_156 : decode cL_law 156 = .ok (.invokevirtual 26, 3) := by decide +kernel
theorem dL_law_159 : decode cL_law 159 = .ok (.aload_n 2, 1) := by decide +kernel
theorem dL_law_160 : decode cL_law 160 = .ok (.invokevirtual 30, 3) := by decide +kernel
theorem dL_law_163 : decode cL_law 163 = .ok (.if_icmp .eq 456, 3) := by decide +kernel
theorem dL_law_166 : decode cL_law 166 = .ok (.iconst 0, 1) := by decide +kernel
theorem dL_law_167 : decode cL_law 167 = .ok (.ireturn, 1) := by decide +kernel
theorem dL_law_168 : decode cL_law 168 = .ok (.aload_n 1, 1) := by decide +kernel
theorem dL_law_169 : decode cL_law 169 = .ok (.aload_n 0, 1) := by decide +kernel
theorem dL_law_170 : decode cL_law 170 = .ok (.iload_n 3, 1) := by decide +kernel
theorem dL_law_171 : decode cL_law 171 = .ok (.iconst 1, 1) := by decide +kernel
theorem dL_law_172 : decode cL_law 172 = .ok (.iadd, 1) := by decide +kernel
theorem dL_law_173 : decode cL_law 173 = .ok (.iaload, 1) := by decide +kernel
theorem dL_law_174 : decode cL_law 174 = .ok (.invokevirtual 31, 3) := by decide +kernel
theorem dL_law_177 : decode cL_law 177 = .ok (.aload_n 2, 1) := by decide +kernel
theorem dL_law_178 : decode cL_law 178 = .ok (.aload_n 0, 1) := by decide +kernel
theorem dL_law_179 : decode cL_law 179 = .ok (.iload_n 3, 1) := by decide +kernel
theorem dL_law_180 : decode cL_law 180 = .ok (.iconst 1, 1) := by decide +kernel
theorem dL_law_181 : decode cL_law 181 = .ok (.iadd, 1) := by decide +kernel
theorem dL_law_182 : decode cL_law 182 = .ok (.iaload, 1) := by decide +kernel
theorem dL_law_183 : decode cL_law 183 = .ok (.invokevirtual 34, 3) := by decide +kernel
theorem dL_law_186 : decode cL_law 186 = .ok (.if_icmp .eq 433, 3) := by decide +kernel
theorem dL_law_189 : decode cL_law 189 = .ok (.iconst 0, 1) := by decide +kernel
theorem dL_law_190 : decode cL_law 190 = .ok (.ireturn, 1) := by decide +kernel
theorem dL_law_191 : decode cL_law 191 = .ok (.aload_n 1, 1) := by decide +kernel
theorem dL_law_192 : decode cL_law 192 = .ok (.aload_n 0, 1) := by decide +kernel
theorem dL_law_193 : decode cL_law 193 = .ok (.iload_n 3, 1) := by decide +kernel
theorem dL_law_194 : decode cL_law 194 = .ok (.iconst 1, 1) := by decide +kernel
theorem dL_law_195 : decode cL_law 195 = .ok (.iadd, 1) := by decide +kernel
theorem dL_law_196 : decode cL_law 196 = .ok (.iaload, 1) := by decide +kernel
theorem dL_law_197 : decode cL_law 197 = .ok (.aload_n 0, 1) := by decide +kernel
theorem dL_law_198 : decode cL_law 198 = .ok (.iload_n 3, 1) := by decide +kernel
theorem dL_law_199 : decode cL_law 199 = .ok (.iconst 2, 1) := by decide +kernel
theorem dL_law_200 : decode cL_law 200 = .ok (.iadd, 1) := by decide +kernel
theorem dL_law_201 : decode cL_law 201 = .ok (.iaload, 1) := by decide +kernel
theorem dL_law_202 : decode cL_law 202 = .ok (.invokevirtual 35, 3) := by decide +kernel
theorem dL_law_205 : decode cL_law 205 = .ok (.aload_n 2, 1) := by decide +kernel
theorem dL_law_206 : decode cL_law 206 = .ok (.aload_n 0, 1) := by decide +kernel
theorem dL_law_207 : decode cL_law 207 = .ok (.iload_n 3, 1) := by decide +kernel
theorem dL_law_208 : decode cL_law 208 = .ok (.iconst 1, 1) := by decide +kernel
theorem dL_law_209 : decode cL_law 209 = .ok (.iadd, 1) := by decide +kernel
theorem dL_law_210 : decode cL_law 210 = .ok (.iaload, 1) := by decide +kernel
theorem dL_law_211 : decode cL_law 211 = .ok (.aload_n 0, 1) := by decide +kernel
theorem dL_law_212 : decode cL_law 212 = .ok (.iload_n 3, 1) := by decide +kernel
theorem dL_law_213 : decode cL_law 213 = .ok (.iconst 2, 1) := by decide +kernel
theorem dL_law_214 : decode cL_law 214 = .ok (.iadd, 1) := by decide +kernel
theorem dL_law_215 : decode cL_law 215 = .ok (.iaload, 1) := by decide +kernel
theorem dL_law_216 : decode cL_law 216 = .ok (.invokevirtual 39, 3) := by decide +kernel
theorem dL_law_219 : decode cL_law 219 = .ok (.if_icmp .eq 400, 3) := by decide +kernel
theorem dL_law_222 : decode cL_law 222 = .ok (.iconst 0, 1) := by decide +kernel
theorem dL_law_223 : decode cL_law 223 = .ok (.ireturn, 1) := by decide +kernel
theorem dL_law_224 : decode cL_law 224 = .ok (.aload_n 1, 1) := by decide +kernel
theorem dL_law_225 : decode cL_law 225 = .ok (.aload_n 0, 1) := by decide +kernel
theorem dL_law_226 : decode cL_law 226 = .ok (.iload_n 3, 1) := by decide +kernel
theorem dL_law_227 : decode cL_law 227 = .ok (.iconst 1, 1) := by decide +kernel
theorem dL_law_228 : decode cL_law 228 = .ok (.iadd, 1) := by decide +kernel
theorem dL_law_229 : decode cL_law 229 = .ok (.iaload, 1) := by decide +kernel
theorem dL_law_230 : decode cL_law 230 = .ok (.invokevirtual 40, 3) := by decide +kernel
theorem dL_law_233 : decode cL_law 233 = .ok (.aload_n 2, 1) := by decide +kernel
theorem dL_law_234 : decode cL_law 234 = .ok (.aload_n 0, 1) := by decide +kernel
theorem dL_law_235 : decode cL_law 235 = .ok (.iload_n 3, 1) := by decide +kernel
theorem dL_law_236 : decode cL_law 236 = .ok (.iconst 1, 1) := by decide +kernel
theorem dL_law_237 : decode cL_law 237 = .ok (.iadd, 1) := by decide +kernel
theorem dL_law_238 : decode cL_law 238 = .ok (.iaload, 1) := by decide +kernel
theorem dL_law_239 : decode cL_law 239 = .ok (.invokevirtual 43, 3) := by decide +kernel
theorem dL_law_242 : decode cL_law 242 = .ok (.if_icmp .eq 377, 3) := by decide +kernel
theorem dL_law_245 : decode cL_law 245 = .ok (.iconst 0, 1) := by decide +kernel
theorem dL_law_246 : decode cL_law 246 = .ok (.ireturn, 1) := by decide +kernel
theorem dL_law_247 : decode cL_law 247 = .ok (.aload_n 1, 1) := by decide +kernel
theorem dL_law_248 : decode cL_law 248 = .ok (.aload_n 0, 1) := by decide +kernel
theorem dL_law_249 : decode cL_law 249 = .ok (.iload_n 3, 1) := by decide +kernel
theorem dL_law_250 : decode cL_law 250 = .ok (.iconst 1, 1) := by decide +kernel
theorem dL_law_251 : decode cL_law 251 = .ok (.iadd, 1) := by decide +kernel
theorem dL_law_252 : decode cL_law 252 = .ok (.iaload, 1) := by decide +kernel
theorem dL_law_253 : decode cL_law 253 = .ok (.invokevirtual 44, 3) := by decide +kernel
theorem dL_law_256 : decode cL_law 256 = .ok (.aload_n 2, 1) := by decide +kernel
theorem dL_law_257 : decode cL_law 257 = .ok (.aload_n 0, 1) := by decide +kernel
theorem dL_law_258 : decode cL_law 258 = .ok (.iload_n 3, 1) := by decide +kernel
theorem dL_law_259 : decode cL_law 259 = .ok (.iconst 1, 1) := by decide +kernel
theorem dL_law_260 : decode cL_law 260 = .ok (.iadd, 1) := by decide +kernel
theorem dL_law_261 : decode cL_law 261 = .ok (.iaload, 1) := by decide +kernel
theorem dL_law_262 : decode cL_law 262 = .ok (.invokevirtual 47, 3) := by decide +kernel
theorem dL_law_265 : decode cL_law 265 = .ok (.if_icmp .eq 354, 3) := by decide +kernel
theorem dL_law_268 : decode cL_law 268 = .ok (.iconst 0, 1) := by decide +kernel
theorem dL_law_269 : decode cL_law 269 = .ok (.ireturn, 1) := by decide +kernel
theorem dL_law_270 : decode cL_law 270 = .ok (.aload_n 1, 1) := by decide +kernel
theorem dL_law_271 : decode cL_law 271 = .ok (.aload_n 0, 1) := by decide +kernel
theorem dL_law_272 : decode cL_law 272 = .ok (.iload_n 3, 1) := by decide +kernel
theorem dL_law_273 : decode cL_law 273 = .ok (.iconst 1, 1) := by decide +kernel
theorem dL_law_274 : decode cL_law 274 = .ok (.iadd, 1) := by decide +kernel
theorem dL_law_275 : decode cL_law 275 = .ok (.iaload, 1) := by decide +kernel
theorem dL_law_276 : decode cL_law 276 = .ok (.invokevirtual 48, 3) := by decide +kernel
theorem dL_law_279 : decode cL_law 279 = .ok (.aload_n 2, 1) := by decide +kernel
theorem dL_law_280 : decode cL_law 280 = .ok (.aload_n 0, 1) := by decide +kernel
theorem dL_law_281 : decode cL_law 281 = .ok (.iload_n 3, 1) := by decide +kernel
theorem dL_law_282 : decode cL_law 282 = .ok (.iconst 1, 1) := by decide +kernel
theorem dL_law_283 : decode cL_law 283 = .ok (.iadd, 1) := by decide +kernel
theorem dL_law_284 : decode cL_law 284 = .ok (.iaload, 1) := by decide +kernel
theorem dL_law_285 : decode cL_law 285 = .ok (.invokevirtual 51, 3) := by decide +kernel
theorem dL_law_288 : decode cL_law 288 = .ok (.if_icmp .eq 331, 3) := by decide +kernel
theorem dL_law_291 : decode cL_law 291 = .ok (.iconst 0, 1) := by decide +kernel
theorem dL_law_292 : decode cL_law 292 = .ok (.ireturn, 1) := by decide +kernel
theorem dL_law_293 : decode cL_law 293 = .ok (.aload_n 1, 1) := by decide +kernel
theorem dL_law_294 : decode cL_law 294 = .ok (.invokevirtual 52, 3) := by decide +kernel
theorem dL_law_297 : decode cL_law 297 = .ok (.aload_n 2, 1) := by decide +kernel
theorem dL_law_298 : decode cL_law 298 = .ok (.invokevirtual 55, 3) := by decide +kernel
theorem dL_law_301 : decode cL_law 301 = .ok (.if_icmp .eq 318, 3) := by decide +kernel
theorem dL_law_304 : decode cL_law 304 = .ok (.iconst 0, 1) := by decide +kernel
theorem dL_law_305 : decode cL_law 305 = .ok (.ireturn, 1) := by decide +kernel
theorem dL_law_306 : decode cL_law 306 = .ok (.aload_n 1, 1) := by decide +kernel
theorem dL_law_307 : decode cL_law 307 = .ok (.aload_n 0, 1) := by decide +kernel
theorem dL_law_308 : decode cL_law 308 = .ok (.iload_n 3, 1) := by decide +kernel
theorem dL_law_309 : decode cL_law 309 = .ok (.iconst 1, 1) := by decide +kernel
theorem dL_law_310 : decode cL_law 310 = .ok (.iadd, 1) := by decide +kernel
theorem dL_law_311 : decode cL_law 311 = .ok (.iaload, 1) := by decide +kernel
theorem dL_law_312 : decode cL_law 312 = .ok (.aload_n 0, 1) := by decide +kernel
theorem dL_law_313 : decode cL_law 313 = .ok (.iload_n 3, 1) := by decide +kernel
theorem dL_law_314 : decode cL_law 314 = .ok (.iconst 2, 1) := by decide +kernel
theorem dL_law_315 : decode cL_law 315 = .ok (.iadd, 1) := by decide +kernel
theorem dL_law_316 : decode cL_law 316 = .ok (.iaload, 1) := by decide +kernel
theorem dL_law_317 : decode cL_law 317 = .ok (.invokevirtual 56, 3) := by decide +kernel
theorem dL_law_320 : decode cL_law 320 = .ok (.aload_n 2, 1) := by decide +kernel
theorem dL_law_321 : decode cL_law 321 = .ok (.aload_n 0, 1) := by decide +kernel
theorem dL_law_322 : decode cL_law 322 = .ok (.iload_n 3, 1) := by decide +kernel
theorem dL_law_323 : decode cL_law 323 = .ok (.iconst 1, 1) := by decide +kernel
theorem dL_law_324 : decode cL_law 324 = .ok (.iadd, 1) := by decide +kernel
theorem dL_law_325 : decode cL_law 325 = .ok (.iaload, 1) := by decide +kernel
theorem dL_law_326 : decode cL_law 326 = .ok (.aload_n 0, 1) := by decide +kernel
theorem dL_law_327 : decode cL_law 327 = .ok (.iload_n 3, 1) := by decide +kernel
theorem dL_law_328 : decode cL_law 328 = .ok (.iconst 2, 1) := by decide +kernel
theorem dL_law_329 : decode cL_law 329 = .ok (.iadd, 1) := by decide +kernel
theorem dL_law_330 : decode cL_law 330 = .ok (.iaload, 1) := by decide +kernel
theorem dL_law_331 : decode cL_law 331 = .ok (.invokevirtual 59, 3) := by decide +kernel
theorem dL_law_334 : decode cL_law 334 = .ok (.if_icmp .eq 285, 3) := by decide +kernel
theorem dL_law_337 : decode cL_law 337 = .ok (.iconst 0, 1) := by decide +kernel
theorem dL_law_338 : decode cL_law 338 = .ok (.ireturn, 1) := by decide +kernel
theorem dL_law_339 : decode cL_law 339 = .ok (.aload_n 1, 1) := by decide +kernel
theorem dL_law_340 : decode cL_law 340 = .ok (.aload_n 0, 1) := by decide +kernel
theorem dL_law_341 : decode cL_law 341 = .ok (.iload_n 3, 1) := by decide +kernel
theorem dL_law_342 : decode cL_law 342 = .ok (.iconst 1, 1) := by decide +kernel
theorem dL_law_343 : decode cL_law 343 = .ok (.iadd, 1) := by decide +kernel
theorem dL_law_344 : decode cL_law 344 = .ok (.iaload, 1) := by decide +kernel
theorem dL_law_345 : decode cL_law 345 = .ok (.i2l, 1) := by decide +kernel
theorem dL_law_346 : decode cL_law 346 = .ok (.bipush 32, 2) := by decide +kernel
theorem dL_law_348 : decode cL_law 348 = .ok (.lshl, 1) := by decide +kernel
theorem dL_law_349 : decode cL_law 349 = .ok (.aload_n 0, 1) := by decide +kernel
theorem dL_law_350 : decode cL_law 350 = .ok (.iload_n 3, 1) := by decide +kernel
theorem dL_law_351 : decode cL_law 351 = .ok (.iconst 2, 1) := by decide +kernel
theorem dL_law_352 : decode cL_law 352 = .ok (.iadd, 1) := by decide +kernel
theorem dL_law_353 : decode cL_law 353 = .ok (.iaload, 1) := by decide +kernel
theorem dL_law_354 : decode cL_law 354 = .ok (.i2l, 1) := by decide +kernel
theorem dL_law_355 : decode cL_law 355 = .ok (.ldc2_w 60, 3) := by decide +kernel
theorem dL_law_358 : decode cL_law 358 = .ok (.land, 1) := by decide +kernel
theorem dL_law_359 : decode cL_law 359 = .ok (.lor, 1) := by decide +kernel
theorem dL_law_360 : decode cL_law 360 = .ok (.aload_n 0, 1) := by decide +kernel
theorem dL_law_361 : decode cL_law 361 = .ok (.iload_n 3, 1) := by decide +kernel
theorem dL_law_362 : decode cL_law 362 = .ok (.iconst 3, 1) := by decide +kernel
theorem dL_law_363 : decode cL_law 363 = .ok (.iadd, 1) := by decide +kernel
theorem dL_law_364 : decode cL_law 364 = .ok (.iaload, 1) := by decide +kernel
theorem dL_law_365 : decode cL_law 365 = .ok (.invokevirtual 62, 3) := by decide +kernel
theorem dL_law_368 : decode cL_law 368 = .ok (.aload_n 2, 1) := by decide +kernel
theorem dL_law_369 : decode cL_law 369 = .ok (.aload_n 0, 1) := by decide +kernel
theorem dL_law_370 : decode cL_law 370 = .ok (.iload_n 3, 1) := by decide +kernel
theorem dL_law_371 : decode cL_law 371 = .ok (.iconst 1, 1) := by decide +kernel
theorem dL_law_372 : decode cL_law 372 = .ok (.iadd, 1) := by decide +kernel
theorem dL_law_373 : decode cL_law 373 = .ok (.iaload, 1) := by decide +kernel
theorem dL_law_374 : decode cL_law 374 = .ok (.i2l, 1) := by decide +kernel
theorem dL_law_375 : decode cL_law 375 = .ok (.bipush 32, 2) := by decide +kernel
theorem dL_law_377 : decode cL_law 377 = .ok (.lshl, 1) := by decide +kernel
theorem dL_law_378 : decode cL_law 378 = .ok (.aload_n 0, 1) := by decide +kernel
theorem dL_law_379 : decode cL_law 379 = .ok (.iload_n 3, 1) := by decide +kernel
theorem dL_law_380 : decode cL_law 380 = .ok (.iconst 2, 1) := by decide +kernel
theorem dL_law_381 : decode cL_law 381 = .ok (.iadd, 1) := by decide +kernel
theorem dL_law_382 : decode cL_law 382 = .ok (.iaload, 1) := by decide +kernel
theorem dL_law_383 : decode cL_law 383 = .ok (.i2l, 1) := by decide +kernel
theorem dL_law_384 : decode cL_law 384 = .ok (.ldc2_w 60, 3) := by decide +kernel
theorem dL_law_387 : decode cL_law 387 = .ok (.land, 1) := by decide +kernel
theorem dL_law_388 : decode cL_law 388 = .ok (.lor, 1) := by decide +kernel
theorem dL_law_389 : decode cL_law 389 = .ok (.aload_n 0, 1) := by decide +kernel
theorem dL_law_390 : decode cL_law 390 = .ok (.iload_n 3, 1) := by decide +kernel
theorem dL_law_391 : decode cL_law 391 = .ok (.iconst 3, 1) := by decide +kernel
theorem dL_law_392 : decode cL_law 392 = .ok (.iadd, 1) := by decide +kernel
theorem dL_law_393 : decode cL_law 393 = .ok (.iaload, 1) := by decide +kernel
theorem dL_law_394 : decode cL_law 394 = .ok (.invokevirtual 66, 3) := by decide +kernel
theorem dL_law_397 : decode cL_law 397 = .ok (.if_icmp .eq 222, 3) := by decide +kernel
theorem dL_law_400 : decode cL_law 400 = .ok (.iconst 0, 1) := by decide +kernel
theorem dL_law_401 : decode cL_law 401 = .ok (.ireturn, 1) := by decide +kernel
theorem dL_law_402 : decode cL_law 402 = .ok (.aload_n 1, 1) := by decide +kernel
theorem dL_law_403 : decode cL_law 403 = .ok (.invokevirtual 67, 3) := by decide +kernel
theorem dL_law_406 : decode cL_law 406 = .ok (.aload_n 2, 1) := by decide +kernel
theorem dL_law_407 : decode cL_law 407 = .ok (.invokevirtual 70, 3) := by decide +kernel
theorem dL_law_410 : decode cL_law 410 = .ok (.if_icmp .eq 209, 3) := by decide +kernel
theorem dL_law_413 : decode cL_law 413 = .ok (.iconst 0, 1) := by decide +kernel
theorem dL_law_414 : decode cL_law 414 = .ok (.ireturn, 1) := by decide +kernel
theorem dL_law_415 : decode cL_law 415 = .ok (.aload_n 1, 1) := by decide +kernel
theorem dL_law_416 : decode cL_law 416 = .ok (.invokevirtual 71, 3) := by decide +kernel
theorem dL_law_419 : decode cL_law 419 = .ok (.aload_n 2, 1) := by decide +kernel
theorem dL_law_420 : decode cL_law 420 = .ok (.invokevirtual 74, 3) := by decide +kernel
theorem dL_law_423 : decode cL_law 423 = .ok (.if_icmp .eq 196, 3) := by decide +kernel
theorem dL_law_426 : decode cL_law 426 = .ok (.iconst 0, 1) := by decide +kernel
theorem dL_law_427 : decode cL_law 427 = .ok (.ireturn, 1) := by decide +kernel
theorem dL_law_428 : decode cL_law 428 = .ok (.aload_n 1, 1) := by decide +kernel
theorem dL_law_429 : decode cL_law 429 = .ok (.aload_n 0, 1) := by decide +kernel
theorem dL_law_430 : decode cL_law 430 = .ok (.iload_n 3, 1) := by decide +kernel
theorem dL_law_431 : decode cL_law 431 = .ok (.iconst 1, 1) := by decide +kernel
theorem dL_law_432 : decode cL_law 432 = .ok (.iadd, 1) := by decide +kernel
theorem dL_law_433 : decode cL_law 433 = .ok (.iaload, 1) := by decide +kernel
theorem dL_law_434 : decode cL_law 434 = .ok (.aload_n 0, 1) := by decide +kernel
theorem dL_law_435 : decode cL_law 435 = .ok (.iload_n 3, 1) := by decide +kernel
theorem dL_law_436 : decode cL_law 436 = .ok (.iconst 2, 1) := by decide +kernel
theorem dL_law_437 : decode cL_law 437 = .ok (.iadd, 1) := by decide +kernel
theorem dL_law_438 : decode cL_law 438 = .ok (.iaload, 1) := by decide +kernel
theorem dL_law_439 : decode cL_law 439 = .ok (.aload_n 0, 1) := by decide +kernel
theorem dL_law_440 : decode cL_law 440 = .ok (.iload_n 3, 1) := by decide +kernel
theorem dL_law_441 : decode cL_law 441 = .ok (.iconst 3, 1) := by decide +kernel
theorem dL_law_442 : decode cL_law 442 = .ok (.iadd, 1) := by decide +kernel
theorem dL_law_443 : decode cL_law 443 = .ok (.iaload, 1) := by decide +kernel
theorem dL_law_444 : decode cL_law 444 = .ok (.invokevirtual 75, 3) := by decide +kernel
theorem dL_law_447 : decode cL_law 447 = .ok (.aload_n 2, 1) := by decide +kernel
theorem dL_law_448 : decode cL_law 448 = .ok (.aload_n 0, 1) := by decide +kernel
theorem dL_law_449 : decode cL_law 449 = .ok (.iload_n 3, 1) := by decide +kernel
theorem dL_law_450 : decode cL_law 450 = .ok (.iconst 1, 1) := by decide +kernel
theorem dL_law_451 : decode cL_law 451 = .ok (.iadd, 1) := by decide +kernel
theorem dL_law_452 : decode cL_law 452 = .ok (.iaload, 1) := by decide +kernel
theorem dL_law_453 : decode cL_law 453 = .ok (.aload_n 0, 1) := by decide +kernel
theorem dL_law_454 : decode cL_law 454 = .ok (.iload_n 3, 1) := by decide +kernel
theorem dL_law_455 : decode cL_law 455 = .ok (.iconst 2, 1) := by decide +kernel
theorem dL_law_456 : decode cL_law 456 = .ok (.iadd, 1) := by decide +kernel
theorem dL_law_457 : decode cL_law 457 = .ok (.iaload, 1) := by decide +kernel
theorem dL_law_458 : decode cL_law 458 = .ok (.aload_n 0, 1) := by decide +kernel
theorem dL_law_459 : decode cL_law 459 = .ok (.iload_n 3, 1) := by decide +kernel
theorem dL_law_460 : decode cL_law 460 = .ok (.iconst 3, 1) := by decide +kernel
theorem dL_law_461 : decode cL_law 461 = .ok (.iadd, 1) := by decide +kernel
theorem dL_law_462 : decode cL_law 462 = .ok (.iaload, 1) := by decide +kernel
theorem dL_law_463 : decode cL_law 463 = .ok (.invokevirtual 79, 3) := by decide +kernel
theorem dL_law_466 : decode cL_law 466 = .ok (.if_icmp .eq 153, 3) := by decide +kernel
theorem dL_law_469 : decode cL_law 469 = .ok (.iconst 0, 1) := by decide +kernel
theorem dL_law_470 : decode cL_law 470 = .ok (.ireturn, 1) := by decide +kernel
theorem dL_law_471 : decode cL_law 471 = .ok (.aload_n 1, 1) := by decide +kernel
theorem dL_law_472 : decode cL_law 472 = .ok (.aload_n 0, 1) := by decide +kernel
theorem dL_law_473 : decode cL_law 473 = .ok (.iload_n 3, 1) := by decide +kernel
theorem dL_law_474 : decode cL_law 474 = .ok (.iconst 1, 1) := by decide +kernel
theorem dL_law_475 : decode cL_law 475 = .ok (.iadd, 1) := by decide +kernel
theorem dL_law_476 : decode cL_law 476 = .ok (.iaload, 1) := by decide +kernel
theorem dL_law_477 : decode cL_law 477 = .ok (.aload_n 0, 1) := by decide +kernel
theorem dL_law_478 : decode cL_law 478 = .ok (.iload_n 3, 1) := by decide +kernel
theorem dL_law_479 : decode cL_law 479 = .ok (.iconst 2, 1) := by decide +kernel
theorem dL_law_480 : decode cL_law 480 = .ok (.iadd, 1) := by decide +kernel
theorem dL_law_481 : decode cL_law 481 = .ok (.iaload, 1) := by decide +kernel
theorem dL_law_482 : decode cL_law 482 = .ok (.aload_n 0, 1) := by decide +kernel
theorem dL_law_483 : decode cL_law 483 = .ok (.iload_n 3, 1) := by decide +kernel
theorem dL_law_484 : decode cL_law 484 = .ok (.iconst 3, 1) := by decide +kernel
theorem dL_law_485 : decode cL_law 485 = .ok (.iadd, 1) := by decide +kernel
theorem dL_law_486 : decode cL_law 486 = .ok (.iaload, 1) := by decide +kernel
theorem dL_law_487 : decode cL_law 487 = .ok (.invokevirtual 80, 3) := by decide +kernel
theorem dL_law_490 : decode cL_law 490 = .ok (.aload_n 2, 1) := by decide +kernel
theorem dL_law_491 : decode cL_law 491 = .ok (.aload_n 0, 1) := by decide +kernel
theorem dL_law_492 : decode cL_law 492 = .ok (.iload_n 3, 1) := by decide +kernel
theorem dL_law_493 : decode cL_law 493 = .ok (.iconst 1, 1) := by decide +kernel
theorem dL_law_494 : decode cL_law 494 = .ok (.iadd, 1) := by decide +kernel
theorem dL_law_495 : decode cL_law 495 = .ok (.iaload, 1) := by decide +kernel
theorem dL_law_496 : decode cL_law 496 = .ok (.aload_n 0, 1) := by decide +kernel
theorem dL_law_497 : decode cL_law 497 = .ok (.iload_n 3, 1) := by decide +kernel
theorem dL_law_498 : decode cL_law 498 = .ok (.iconst 2, 1) := by decide +kernel
theorem dL_law_499 : decode cL_law 499 = .ok (.iadd, 1) := by decide +kernel
theorem dL_law_500 : decode cL_law 500 = .ok (.iaload, 1) := by decide +kernel
theorem dL_law_501 : decode cL_law 501 = .ok (.aload_n 0, 1) := by decide +kernel
theorem dL_law_502 : decode cL_law 502 = .ok (.iload_n 3, 1) := by decide +kernel
theorem dL_law_503 : decode cL_law 503 = .ok (.iconst 3, 1) := by decide +kernel
theorem dL_law_504 : decode cL_law 504 = .ok (.iadd, 1) := by decide +kernel
theorem dL_law_505 : decode cL_law 505 = .ok (.iaload, 1) := by decide +kernel
theorem dL_law_506 : decode cL_law 506 = .ok (.invokevirtual 83, 3) := by decide +kernel
theorem dL_law_509 : decode cL_law 509 = .ok (.if_icmp .eq 110, 3) := by decide +kernel
theorem dL_law_512 : decode cL_law 512 = .ok (.iconst 0, 1) := by decide +kernel
theorem dL_law_513 : decode cL_law 513 = .ok (.ireturn, 1) := by decide +kernel
theorem dL_law_514 : decode cL_law 514 = .ok (.aload_n 1, 1) := by decide +kernel
theorem dL_law_515 : decode cL_law 515 = .ok (.invokevirtual 84, 3) := by decide +kernel
theorem dL_law_518 : decode cL_law 518 = .ok (.aload_n 2, 1) := by decide +kernel
theorem dL_law_519 : decode cL_law 519 = .ok (.invokevirtual 87, 3) := by decide +kernel
theorem dL_law_522 : decode cL_law 522 = .ok (.if_icmp .eq 97, 3) := by decide +kernel
theorem dL_law_525 : decode cL_law 525 = .ok (.iconst 0, 1) := by decide +kernel
theorem dL_law_526 : decode cL_law 526 = .ok (.ireturn, 1) := by decide +kernel
theorem dL_law_527 : decode cL_law 527 = .ok (.aload_n 1, 1) := by decide +kernel
theorem dL_law_528 : decode cL_law 528 = .ok (.aload_n 0, 1) := by decide +kernel
theorem dL_law_529 : decode cL_law 529 = .ok (.iload_n 3, 1) := by decide +kernel
theorem dL_law_530 : decode cL_law 530 = .ok (.iconst 1, 1) := by decide +kernel
theorem dL_law_531 : decode cL_law 531 = .ok (.iadd, 1) := by decide +kernel
theorem dL_law_532 : decode cL_law 532 = .ok (.iaload, 1) := by decide +kernel
theorem dL_law_533 : decode cL_law 533 = .ok (.invokevirtual 88, 3) := by decide +kernel
theorem dL_law_536 : decode cL_law 536 = .ok (.aload_n 2, 1) := by decide +kernel
theorem dL_law_537 : decode cL_law 537 = .ok (.aload_n 0, 1) := by decide +kernel
theorem dL_law_538 : decode cL_law 538 = .ok (.iload_n 3, 1) := by decide +kernel
theorem dL_law_539 : decode cL_law 539 = .ok (.iconst 1, 1) := by decide +kernel
theorem dL_law_540 : decode cL_law 540 = .ok (.iadd, 1) := by decide +kernel
theorem dL_law_541 : decode cL_law 541 = .ok (.iaload, 1) := by decide +kernel
theorem dL_law_542 : decode cL_law 542 = .ok (.invokevirtual 91, 3) := by decide +kernel
theorem dL_law_545 : decode cL_law 545 = .ok (.if_icmp .eq 74, 3) := by decide +kernel
theorem dL_law_548 : decode cL_law 548 = .ok (.iconst 0, 1) := by decide +kernel
theorem dL_law_549 : decode cL_law 549 = .ok (.ireturn, 1) := by decide +kernel
theorem dL_law_550 : decode cL_law 550 = .ok (.aload_n 1, 1) := by decide +kernel
theorem dL_law_551 : decode cL_law 551 = .ok (.aload_n 0, 1) := by decide +kernel
theorem dL_law_552 : decode cL_law 552 = .ok (.iload_n 3, 1) := by decide +kernel
theorem dL_law_553 : decode cL_law 553 = .ok (.iconst 1, 1) := by decide +kernel
theorem dL_law_554 : decode cL_law 554 = .ok (.iadd, 1) := by decide +kernel
theorem dL_law_555 : decode cL_law 555 = .ok (.iaload, 1) := by decide +kernel
theorem dL_law_556 : decode cL_law 556 = .ok (.invokevirtual 92, 3) := by decide +kernel
theorem dL_law_559 : decode cL_law 559 = .ok (.aload_n 2, 1) := by decide +kernel
theorem dL_law_560 : decode cL_law 560 = .ok (.aload_n 0, 1) := by decide +kernel
theorem dL_law_561 : decode cL_law 561 = .ok (.iload_n 3, 1) := by decide +kernel
theorem dL_law_562 : decode cL_law 562 = .ok (.iconst 1, 1) := by decide +kernel
theorem dL_law_563 : decode cL_law 563 = .ok (.iadd, 1) := by decide +kernel
theorem dL_law_564 : decode cL_law 564 = .ok (.iaload, 1) := by decide +kernel
theorem dL_law_565 : decode cL_law 565 = .ok (.invokevirtual 95, 3) := by decide +kernel
theorem dL_law_568 : decode cL_law 568 = .ok (.if_icmp .eq 51, 3) := by decide +kernel
theorem dL_law_571 : decode cL_law 571 = .ok (.iconst 0, 1) := by decide +kernel
theorem dL_law_572 : decode cL_law 572 = .ok (.ireturn, 1) := by decide +kernel
theorem dL_law_573 : decode cL_law 573 = .ok (.aload_n 1, 1) := by decide +kernel
theorem dL_law_574 : decode cL_law 574 = .ok (.aload_n 0, 1) := by decide +kernel
theorem dL_law_575 : decode cL_law 575 = .ok (.iload_n 3, 1) := by decide +kernel
theorem dL_law_576 : decode cL_law 576 = .ok (.iconst 1, 1) := by decide +kernel
theorem dL_law_577 : decode cL_law 577 = .ok (.iadd, 1) := by decide +kernel
theorem dL_law_578 : decode cL_law 578 = .ok (.iaload, 1) := by decide +kernel
theorem dL_law_579 : decode cL_law 579 = .ok (.invokevirtual 96, 3) := by decide +kernel
theorem dL_law_582 : decode cL_law 582 = .ok (.aload_n 2, 1) := by decide +kernel
theorem dL_law_583 : decode cL_law 583 = .ok (.aload_n 0, 1) := by decide +kernel
theorem dL_law_584 : decode cL_law 584 = .ok (.iload_n 3, 1) := by decide +kernel
theorem dL_law_585 : decode cL_law 585 = .ok (.iconst 1, 1) := by decide +kernel
theorem dL_law_586 : decode cL_law 586 = .ok (.iadd, 1) := by decide +kernel
theorem dL_law_587 : decode cL_law 587 = .ok (.iaload, 1) := by decide +kernel
theorem dL_law_588 : decode cL_law 588 = .ok (.invokevirtual 99, 3) := by decide +kernel
theorem dL_law_591 : decode cL_law 591 = .ok (.if_icmp .eq 28, 3) := by decide +kernel
theorem dL_law_594 : decode cL_law 594 = .ok (.iconst 0, 1) := by decide +kernel
theorem dL_law_595 : decode cL_law 595 = .ok (.ireturn, 1) := by decide +kernel
theorem dL_law_596 : decode cL_law 596 = .ok (.aload_n 1, 1) := by decide +kernel
theorem dL_law_597 : decode cL_law 597 = .ok (.aload_n 0, 1) := by decide +kernel
theorem dL_law_598 : decode cL_law 598 = .ok (.iload_n 3, 1) := by decide +kernel
theorem dL_law_599 : decode cL_law 599 = .ok (.iconst 1, 1) := by decide +kernel
theorem dL_law_600 : decode cL_law 600 = .ok (.iadd, 1) := by decide +kernel
theorem dL_law_601 : decode cL_law 601 = .ok (.iaload, 1) := by decide +kernel
theorem dL_law_602 : decode cL_law 602 = .ok (.invokevirtual 100, 3) := by decide +kernel
theorem dL_law_605 : decode cL_law 605 = .ok (.aload_n 2, 1) := by decide +kernel
theorem dL_law_606 : decode cL_law 606 = .ok (.aload_n 0, 1) := by decide +kernel
theorem dL_law_607 : decode cL_law 607 = .ok (.iload_n 3, 1) := by decide +kernel
theorem dL_law_608 : decode cL_law 608 = .ok (.iconst 1, 1) := by decide +kernel
theorem dL_law_609 : decode cL_law 609 = .ok (.iadd, 1) := by decide +kernel
theorem dL_law_610 : decode cL_law 610 = .ok (.iaload, 1) := by decide +kernel
theorem dL_law_611 : decode cL_law 611 = .ok (.invokevirtual 103, 3) := by decide +kernel
theorem dL_law_614 : decode cL_law 614 = .ok (.if_icmp .eq 5, 3) := by decide +kernel
theorem dL_law_617 : decode cL_law 617 = .ok (.iconst 0, 1) := by decide +kernel
theorem dL_law_618 : decode cL_law 618 = .ok (.ireturn, 1) := by decide +kernel
theorem dL_law_619 : decode cL_law 619 = .ok (.iinc 3 4, 3) := by decide +kernel
theorem dL_law_622 : decode cL_law 622 = .ok (.goto (-594), 3) := by decide +kernel
theorem dL_law_625 : decode cL_law 625 = .ok (.iconst 1, 1) := by decide +kernel
theorem dL_law_626 : decode cL_law 626 = .ok (.ireturn, 1) := by decide +kernel
end
section
/-- fields of nest mates that are touched: own class, pool place, class, name, kind, host -/
def nsF : List (String × Nat × String × String × String × String) := [(RX6, 74, RX3, "places", "I", RX7), (RX0, 47, RX3, "places", "I", RX7), (RX7, 118, RX3, "places", "I", RX7), (RX7, 170, RX6, "size", "I", RX7), (RX7, 128, RX5, "length", "I", RX7), (RX2, 46, RX5, "token", "I", RX7), (RX7, 135, RX5, "from", "I", RX7), (RX2, 57, RX5, "value", "I", RX7), (RX7, 145, RX1, "size", "I", RX7)]
def nsM : List (String × Nat × MethodName × String) := [(RX7, 45, yX5_init, RX7), (RX7, 61, yX1_init, RX7), (RX4, 11, yX7_outside, RX7), (RX1, 39, yX7_outside, RX7), (RX5, 75, yX7_outside, RX7), (RX6, 81, yX7_outside, RX7), (RX0, 30, yX7_outside, RX7)]
def sIxs : List Nat := [54, 60, 62, 64]
def sTxs : List String := ["see", "near", "far", "stay"]
def sLens : List Nat := [3, 4, 3, 4]
def sByts : List (List Int32) := [[115, 101, 101], [110, 101, 97, 114], [102, 97, 114], [115, 116, 97, 121]]
/-! one word list for all methods -/
def BIG : List Cond := lw_tbl.filter goodWord
theorem bigI {w : Cond} (i : Nat) (h : lw_tbl[i]? = some w) (g : goodWord w = true) : w ∈ BIG := List.mem_filter.mpr ⟨List.mem_of_getElem? h, g⟩
theorem bigL (ws : List Cond) (ps : List Nat) (hp : ws = ps.filterMap (fun i => lw_tbl[i]?)) (h : ws.all goodWord = true) : ∀ w ∈ ws, w ∈ BIG := by
  intro w hw
  have h1 := List.all_eq_true.mp h w hw
  rw [hp] at hw
  obtain ⟨i, -, hi⟩ := List.mem_filterMap.mp hw
  exact bigI i hi h1
theorem big_good : GoodIn BIG BIG := fun w h => ⟨h, good_of_word (List.mem_filter.mp h).2⟩
def wS (y : MethodName) (b : ByteArray) (n : Nat) (r : Option FieldType) : List Cond := .code y b n r :: BIG
theorem wS_good {y : MethodName} {b : ByteArray} {n : Nat} {r : Option FieldType} (h : Cond.code y b n r ∈ BIG) : GoodIn BIG (wS y b n r) := fun w hw => (List.mem_cons.mp hw).elim (fun e => by rw [e]; exact big_good _ h) (fun h => big_good w h)
abbrev vCl : List vw_C := [(RX0, TX0, 3), (RX1, TX1, 3), (RX2, TX2, 5), (RX3, TX3, 2), (RX5, TX5, 6), (RX6, TX6, 11), (RX7, TX7, 9), (RX8, TX8, 41)]
/-! what nest mates may touch, and the four texts: these ride beside the words -/
def NW (U : State) : Prop := (∀ a ∈ nsF, va_Nw (.fieldLinkNest a.1 a.2.1 a.2.2.1 a.2.2.2.1 a.2.2.2.2.1 a.2.2.2.2.2) U) ∧ (∀ a ∈ nsM, va_Nw (.methodLinkNest a.1 a.2.1 a.2.2.1 a.2.2.2) U)
theorem NW.warm {s U : State} (hW : s.WarmedH U.vm) (h : NW s) : NW U := ⟨fun a ha => va_Nw.warmF hW (h.1 a ha), fun a ha => va_Nw.warmM hW (h.2 a ha)⟩
theorem NW.same {u U : State} (hv : u.vm = U.vm) (h : NW u) : NW U := ⟨fun a ha => va_Nw.same rfl hv (h.1 a ha), fun a ha => va_Nw.same rfl hv (h.2 a ha)⟩
abbrev GG : Type := va_G × (ClassId × ClassId × ClassId) × (Nat → Nat) × (Nat → Nat)
def tyG (g : GG) : List (ClassId × FieldType) := [(g.2.1.1, .int), (g.2.1.2.1, .long), (g.2.1.2.2, .boolean)]
def sIx (i : Nat) : Nat := sIxs.getD i 0
def sTx (i : Nat) : String := sTxs.getD i ""
def EV (g : GG) (A : Nat → Prop) (U : State) : Prop := va_K g.1 vCl (tyG g) U ∧ NW U ∧ vk_S 4 sLens sByts g.2.2.1 g.2.2.2 A U U.heap ∧ ∀ i, i < 4 → vk_R RX5 (sIx i) (sTx i) (g.2.2.1 i) U
theorem EV.to {g : GG} {A : Nat → Prop} {s U : State} {H : Heap} {locs : List Loc} (h : EV g A s) (hS : va_S A s.heap H locs) (hU : U.heap = H) (hW : s.WarmedH U.vm) : EV g A U := by
  obtain ⟨h1, h2, h3, h4⟩ := h
  refine ⟨va_K.moved hW.alike h1, h2.warm hW, ?_, fun i hi => vk_R.warm hW (h4 i hi)⟩
  rw [hU]
  exact vk_S.moved hW.alike (h3.kept hS.2.1)
theorem EV.same {g : GG} {A : Nat → Prop} {u U : State} (hv : u.vm = U.vm) (hH : u.heap = U.heap) (h : EV g A u) : EV g A U := by
  obtain ⟨h1, h2, h3, h4⟩ := h
  have hal : u.vm.Alike U.vm := by rw [hv]; exact Vm.Alike.refl U.vm
  refine ⟨va_K.moved hal h1, h2.same hv, ?_, fun i hi => vk_R.same hv.symm (h4 i hi)⟩
  rw [← hH]
  exact vk_S.moved hal h3
/-! a world at a method's ends (VB) and within it (VJ) -/
def VB (g : GG) (A : Nat → Prop) (ws : va_W) (U : State) : Prop := va_P g.1 vCl ws U.heap ∧ va_D A ws ∧ EV g A U
def VJ (g : GG) (A : Nat → Prop) (H0 : Heap) (ws : va_W) (H : Heap) (locs : List Loc) : Prop := va_P g.1 vCl ws H ∧ va_D A ws ∧ va_S A H0 H locs
theorem VB.same {g : GG} {A : Nat → Prop} {ws : va_W} {u U : State} (hv : u.vm = U.vm) (hH : u.heap = U.heap) (h : VB g A ws u) : VB g A ws U := ⟨by rw [← hH]; exact h.1, h.2.1, h.2.2.same hv hH⟩
theorem VJ.out {g : GG} {A : Nat → Prop} {ws : va_W} {s U : State} {H : Heap} {locs : List Loc} (J : VJ g A s.heap ws H locs) (E : EV g A s) (hU : U.heap = H) (hW : s.WarmedH U.vm) : VB g A ws U := ⟨by rw [hU]; exact J.1, J.2.1, E.to J.2.2 hU hW⟩
theorem VB.blind {g : GG} {A : Nat → Prop} {ws : va_W} {av : List Value} : FrameBlind (va_Pc av (VB g A ws)) := fun a U f mk h => ⟨h.1, h.2.same rfl rfl⟩
/-! small steps on the mirror's side -/
theorem ob {α β : Type} {o : Option α} {f : α → Option β} {r : β} (h : Option.bind o f = some r) : ∃ a, o = some a ∧ f a = some r := Option.bind_eq_some_iff.mp h
theorem obs {α β : Type} {x : α} {f : α → Option β} {r : β} (h : Option.bind (some x) f = some r) : ∃ a, x = a ∧ f a = some r := ⟨x, rfl, h⟩
theorem itp {α : Type} {c : Prop} [i : Decidable c] {a b : Option α} {r : α} (hc : c) (h : (if c then a else b) = some r) : a = some r := by rw [if_pos hc] at h; exact h
theorem itn {α : Type} {c : Prop} [i : Decidable c] {a b : Option α} {r : α} (hc : ¬ c) (h : (if c then a else b) = some r) : b = some r := by rw [if_neg hc] at h; exact h
def gd {α : Type} (b : Bool) (e : Option α) : Option α := match b with
  | true => e
  | false => none
theorem gdt {α : Type} {b : Bool} {e : Option α} {r : α} (h : gd b e = some r) : b = true ∧ e = some r := by
  cases b with
  | true => exact ⟨rfl, h⟩
  | false => cases h
def inb (i : Int32) (n : Nat) : Bool := decide (¬ (i < 0 ∨ n ≤ i.toNatClampNeg))
theorem inbt {i : Int32} {n : Nat} (h : inb i n = true) : vp_in i n := by
  show ¬ (i < 0 ∨ n ≤ i.toNatClampNeg)
  exact of_decide_eq_true h
def nz (y : Int32) : Bool := decide (¬ y = 0)
theorem nzt {y : Int32} (h : nz y = true) : ¬ y = 0 := of_decide_eq_true h
abbrev jrem (x y : Int32) : Int32 := x - x / y * y
abbrev jshl (x y : Int32) : Int32 := x <<< (y &&& 31)
abbrev jshr (x y : Int32) : Int32 := x >>> (y &&& 31)
abbrev jushr (x y : Int32) : Int32 := (x.toUInt32 >>> (y.toUInt32 &&& Int32.toUInt32 31)).toInt32
abbrev jlshl (x : Int64) (y : Int32) : Int64 := x <<< (y.toInt64 &&& 63)
abbrev jlshr (x : Int64) (y : Int32) : Int64 := x >>> (y.toInt64 &&& 63)
abbrev jlushr (x : Int64) (y : Int32) : Int64 := (x.toUInt64 >>> (y.toInt64.toUInt64 &&& Int64.toUInt64 63)).toInt64
def FU : Nat := 1000000
def zB (r : Int32) : Prop := r = 0 ∨ r = 1
theorem zB0 : zB 0 := Or.inl rfl
theorem zB1 : zB 1 := Or.inr rfl
theorem zB.nar {r : Int32} (h : zB r) : narrow .boolean (.int r) = .int r := by
  rcases h with h | h <;> subst h <;> rfl
/-! contracts from walks -/
section MET
variable {l : Launch} {y : MethodName} {cc : ByteArray} {maxL : Nat} {rm : Room} {g : GG} {A : Nat → Prop} {ws ws' : va_W} {av : List Value} {own : String}
theorem met_in {p : Program} {e : Env} {s : State} {m : MethodId} {args : Array Value} {below : List Frame} {meth : Method} {c : Code} {s₁ : State} {ret : Option FieldType} (hcls : y.cls = own) (B : BodyLoose p l y (headSpec (wS y cc maxL ret) rm) cc maxL ret e s m args below meth c s₁) (hml : c.maxLocals = maxL) : CallFix p m c cc maxL s args BIG own := by
  subst hcls
  exact ⟨B.exec, B.bytes, hml, findClass_of_methodNamed B.named, fun w hw => atoms_spec (ws := wS y cc maxL ret) B.pre w (List.mem_cons_of_mem _ hw)⟩
theorem MetI {res : Int32} (hy : plainName y.cls = true) (hcls : y.cls = own) (hav : (lg_sl av).length ≤ maxL)
    (body : ∀ (p : Program) (e : Env) (s : State) (m : MethodId) (args : Array Value) (below : List Frame) (meth : Method) (c : Code) (Q : State → Prop) (F : CallFix p m c cc maxL s args BIG own) (E : EV g A s)
      (ret : ∀ (H : Heap) (locs : List Loc) (pc : Nat) (ls : Array Slot), VJ g A s.heap ws' H locs → decode cc pc = .ok (.ireturn, 1) → W p l e rm s m args below meth c H locs 0 0 Q (F0 m pc ls [.int res])) (ls : Array Slot) (J : VJ g A s.heap ws s.heap []) (hl : lv_has ls maxL (lv_args 0 av)),
      W p l e rm s m args below meth c s.heap [] 0 0 Q (F0 m 0 ls [])) : Met l y (wS y cc maxL (some .int)) rm (va_Pc av (VB g A ws)) (va_Qi (fun r (_ : Unit) => r = res) (fun _ => VB g A ws') A) 0 0 A := by
  refine Met.ofW (cc := cc) (maxL := maxL) (ret := some .int) hy rfl ?_
  intro p e s m args below meth c s₁ B hml hv
  obtain ⟨rfl, hP, hD, E⟩ := hv
  have F := met_in hcls B hml
  have hr := B.returns
  have hlocks := B.notSynchronized
  rw [lg_entry_eq]
  exact body p e s m _ below meth c _ F E (fun H locs pc ls J hd => W.iret F.1 F.2.1 hr (fun t ht hW => ⟨⟨res, (), rfl, rfl, J.out E ht hW⟩, J.2.2.F ht⟩) J.2.2.2.2 hd) _ ⟨hP, hD, va_S.rf⟩ (lv_entry av hav)
theorem MetZ {res : Int32} (hy : plainName y.cls = true) (hcls : y.cls = own) (hav : (lg_sl av).length ≤ maxL)
    (body : ∀ (p : Program) (e : Env) (s : State) (m : MethodId) (args : Array Value) (below : List Frame) (meth : Method) (c : Code) (Q : State → Prop) (F : CallFix p m c cc maxL s args BIG own) (E : EV g A s)
      (ret : ∀ (H : Heap) (locs : List Loc) (pc : Nat) (ls : Array Slot), zB res → VJ g A s.heap ws' H locs → decode cc pc = .ok (.ireturn, 1) → W p l e rm s m args below meth c H locs 0 0 Q (F0 m pc ls [.int res])) (ls : Array Slot) (J : VJ g A s.heap ws s.heap []) (hl : lv_has ls maxL (lv_args 0 av)),
      W p l e rm s m args below meth c s.heap [] 0 0 Q (F0 m 0 ls [])) : Met l y (wS y cc maxL (some .boolean)) rm (va_Pc av (VB g A ws)) (va_Qi (fun r (_ : Unit) => r = res ∧ zB r) (fun _ => VB g A ws') A) 0 0 A := by
  refine Met.ofW (cc := cc) (maxL := maxL) (ret := some .boolean) hy rfl ?_
  intro p e s m args below meth c s₁ B hml hv
  obtain ⟨rfl, hP, hD, E⟩ := hv
  have F := met_in hcls B hml
  have hr := B.returns
  have hlocks := B.notSynchronized
  rw [lg_entry_eq]
  exact body p e s m _ below meth c _ F E (fun H locs pc ls hz J hd => W.zret F.1 F.2.1 hr hz.nar (fun t ht hW => ⟨⟨res, (), rfl, ⟨rfl, hz⟩, J.out E ht hW⟩, J.2.2.F ht⟩) J.2.2.2.2 hd) _ ⟨hP, hD, va_S.rf⟩ (lv_entry av hav)
theorem MetL {res : Int64} (hy : plainName y.cls = true) (hcls : y.cls = own) (hav : (lg_sl av).length ≤ maxL)
    (body : ∀ (p : Program) (e : Env) (s : State) (m : MethodId) (args : Array Value) (below : List Frame) (meth : Method) (c : Code) (Q : State → Prop) (F : CallFix p m c cc maxL s args BIG own) (E : EV g A s)
      (ret : ∀ (H : Heap) (locs : List Loc) (pc : Nat) (ls : Array Slot), VJ g A s.heap ws' H locs → decode cc pc = .ok (.lreturn, 1) → W p l e rm s m args below meth c H locs 0 0 Q (F0 m pc ls [.long res])) (ls : Array Slot) (J : VJ g A s.heap ws s.heap []) (hl : lv_has ls maxL (lv_args 0 av)),
      W p l e rm s m args below meth c s.heap [] 0 0 Q (F0 m 0 ls [])) : Met l y (wS y cc maxL (some .long)) rm (va_Pc av (VB g A ws)) (va_Ql (fun r (_ : Unit) => r = res) (fun _ => VB g A ws') A) 0 0 A := by
  refine Met.ofW (cc := cc) (maxL := maxL) (ret := some .long) hy rfl ?_
  intro p e s m args below meth c s₁ B hml hv
  obtain ⟨rfl, hP, hD, E⟩ := hv
  have F := met_in hcls B hml
  have hr := B.returns
  have hlocks := B.notSynchronized
  rw [lg_entry_eq]
  exact body p e s m _ below meth c _ F E (fun H locs pc ls J hd => W.lret F.1 F.2.1 hr (fun t ht hW => ⟨⟨res, (), rfl, rfl, J.out E ht hW⟩, J.2.2.F ht⟩) J.2.2.2.2 hd) _ ⟨hP, hD, va_S.rf⟩ (lv_entry av hav)
theorem MetV (hy : plainName y.cls = true) (hcls : y.cls = own) (hav : (lg_sl av).length ≤ maxL)
    (body : ∀ (p : Program) (e : Env) (s : State) (m : MethodId) (args : Array Value) (below : List Frame) (meth : Method) (c : Code) (Q : State → Prop) (F : CallFix p m c cc maxL s args BIG own) (E : EV g A s)
      (ret : ∀ (H : Heap) (locs : List Loc) (pc : Nat) (ls : Array Slot), VJ g A s.heap ws' H locs → decode cc pc = .ok (.return_, 1) → W p l e rm s m args below meth c H locs 0 0 Q (F0 m pc ls [])) (ls : Array Slot) (J : VJ g A s.heap ws s.heap []) (hl : lv_has ls maxL (lv_args 0 av)),
      W p l e rm s m args below meth c s.heap [] 0 0 Q (F0 m 0 ls [])) : Met l y (wS y cc maxL none) rm (va_Pc av (VB g A ws)) (va_Qv (fun (_ : Unit) => True) (fun _ => VB g A ws') A) 0 0 A := by
  refine Met.ofW (cc := cc) (maxL := maxL) (ret := none) hy rfl ?_
  intro p e s m args below meth c s₁ B hml hv
  obtain ⟨rfl, hP, hD, E⟩ := hv
  have F := met_in hcls B hml
  have hr := B.returns
  have hlocks := B.notSynchronized
  rw [lg_entry_eq]
  exact body p e s m _ below meth c _ F E (fun H locs pc ls J hd => W.vret F.1 F.2.1 hr (fun t ht hW => ⟨⟨(), rfl, trivial, J.out E ht hW⟩, J.2.2.F ht⟩) J.2.2.2.2 hd) _ ⟨hP, hD, va_S.rf⟩ (lv_entry av hav)
end MET
theorem elimR {α β γ : Type} {f : α → Option γ} {k : β → Option γ} {b : β} {r : γ} (h : Sum.elim f k (.inr b) = some r) : k b = some r := h
theorem elimL {α β γ : Type} {f : α → Option γ} {k : β → Option γ} {b : α} {r : γ} (h : Sum.elim f k (.inl b) = some r) : f b = some r := h
/-! calls -/
def CWH (y : MethodName) (n : Nat) : Prop := y.cls ≠ "java/lang/invoke/MethodHandle" ∧ y.cls ≠ "java/lang/invoke/VarHandle" ∧ (parseMethodDescriptor y.desc).map (fun d => d.parameters.length) = some n
def CWV (own : String) (index : Nat) (y : MethodName) (bytes : ByteArray) (maxL : Nat) (ret : Option FieldType) (n : Nat) : Prop := Cond.methodLink own index y ∈ BIG ∧ Cond.instanceMethod y ∈ BIG ∧ Cond.selects y.cls y y ∈ BIG ∧ Cond.initialized y.cls ∈ BIG ∧ Cond.code y bytes maxL ret ∈ BIG ∧ CWH y n
def CWS (own : String) (index : Nat) (y : MethodName) (bytes : ByteArray) (maxL : Nat) (ret : Option FieldType) (n : Nat) : Prop := Cond.methodLink own index y ∈ BIG ∧ Cond.static y ∈ BIG ∧ Cond.initialized y.cls ∈ BIG ∧ Cond.code y bytes maxL ret ∈ BIG ∧ CWH y n
def CWN (own : String) (index : Nat) (y : MethodName) (host : String) (bytes : ByteArray) (maxL : Nat) (ret : Option FieldType) (n : Nat) : Prop := (own, index, y, host) ∈ nsM ∧ Cond.static y ∈ BIG ∧ Cond.initialized y.cls ∈ BIG ∧ Cond.code y bytes maxL ret ∈ BIG ∧ CWH y n
def RC (ws : va_W) (o : Nat) (C : String) : Prop := ∃ (q0 ci : Nat) (fs : List Value) (r : vw_C), vCl[ci]? = some r ∧ r.1 = C ∧ ws[q0]? = some (o, .inr (ci, fs))
def RMo (rm R : Room) (maxL : Nat) : Prop := rm.cells = 0 ∧ rm.slots = 0 ∧ rm.frames + 1 ≤ R.frames ∧ 8 + (maxL + 11) + rm.locals ≤ R.locals
section CALLS
variable {p : Program} {l : Launch} {e : Env} {R : Room} {s : State} {m : MethodId} {args : Array Value} {below : List Frame} {meth : Method} {c : Code} {H : Heap} {locs : List Loc} {Q : State → Prop}
variable {g : GG} {A : Nat → Prop} {ws ws' : va_W} {cc bytes : ByteArray} {nL maxL n index pc : Nat} {own host : String} {y : MethodName} {rm : Room} {ls : Array Slot} {st0 As rest : List Value} {o : Nat} {ret : Option FieldType}
theorem runV {Qc : Array Value → State → Outcome → State → Prop} (F : CallFix p m c cc nL s args BIG own) (E : EV g A s) (J : VJ g A s.heap ws H locs) (M : Met l y (wS y bytes maxL ret) rm (va_Pc (.ref o :: As) (VB g A ws)) Qc 0 0 A) (cw : CWV own index y bytes maxL ret n) (hR : RMo rm R maxL) (hrc : RC ws o y.cls)
    (hn : As.length = n) (hl : ls.size = nL) (hst : st0 = As.reverse ++ .ref o :: rest) (hW : (rest.map fun v => v.category).sum ≤ 8) (hdg : decode cc pc = .ok (.invokevirtual index, 3)) :
    va_Run p l e R s m args below meth c H locs 0 0 0 0 (F0 m pc ls st0) rest (Qc (Value.ref o :: As).toArray) A := by
  have ht := F.2.2.2.2
  obtain ⟨w1, w2, w3, w4, w5, w6⟩ := cw
  obtain ⟨q0, ci, fs, r, r1, r2, r3⟩ := hrc
  refine va_runV (C := y.cls) (bytes := bytes) (maxL := maxL) (ret := ret) (n := n) F M ⟨callB_of n ht (wS_good w5) rfl hR.1 hR.2.1 (ht _ w4) (ht _ w1) w6 hR.2.2, ht _ w2, ht _ w3⟩ ⟨VB.blind, by rw [← r2]; exact va_recv E.1 J.1 r1 r3, fun U hU hWm => ⟨rfl, J.out E hU hWm⟩⟩ rfl hn hl hst (lv_room hW) hdg ⟨Nat.zero_le _, Nat.zero_le _⟩
theorem runS {Qc : Array Value → State → Outcome → State → Prop} (F : CallFix p m c cc nL s args BIG own) (E : EV g A s) (J : VJ g A s.heap ws H locs) (M : Met l y (wS y bytes maxL ret) rm (va_Pc As (VB g A ws)) Qc 0 0 A) (cw : CWS own index y bytes maxL ret n) (hR : RMo rm R maxL)
    (hn : As.length = n) (hl : ls.size = nL) (hst : st0 = As.reverse ++ rest) (hW : (rest.map fun v => v.category).sum ≤ 8) (hdg : decode cc pc = .ok (.invokestatic index, 3)) :
    va_Run p l e R s m args below meth c H locs 0 0 0 0 (F0 m pc ls st0) rest (Qc As.toArray) A := by
  have ht := F.2.2.2.2
  obtain ⟨w1, w2, w4, w5, w6⟩ := cw
  refine va_runS (bytes := bytes) (maxL := maxL) (ret := ret) (n := n) F M ⟨callB_of n ht (wS_good w5) rfl hR.1 hR.2.1 (ht _ w4) (ht _ w1) w6 hR.2.2, ht _ w2⟩ ⟨VB.blind, fun U hU hWm => ⟨rfl, J.out E hU hWm⟩⟩ rfl hn hl hst (lv_room hW) hdg ⟨Nat.zero_le _, Nat.zero_le _⟩
theorem runN {Qc : Array Value → State → Outcome → State → Prop} (F : CallFix p m c cc nL s args BIG own) (E : EV g A s) (J : VJ g A s.heap ws H locs) (M : Met l y (wS y bytes maxL ret) rm (va_Pc As (VB g A ws)) Qc 0 0 A) (cw : CWN own index y host bytes maxL ret n) (hR : RMo rm R maxL)
    (hn : As.length = n) (hl : ls.size = nL) (hst : st0 = As.reverse ++ rest) (hW : (rest.map fun v => v.category).sum ≤ 8) (hdg : decode cc pc = .ok (.invokestatic index, 3)) :
    va_Run p l e R s m args below meth c H locs 0 0 0 0 (F0 m pc ls st0) rest (Qc As.toArray) A := by
  have ht := F.2.2.2.2
  obtain ⟨w1, w2, w4, w5, w6⟩ := cw
  refine va_runSN (host := host) (bytes := bytes) (maxL := maxL) (ret := ret) (n := n) F M ⟨va_cnB n ht (wS_good w5) rfl hR.1 hR.2.1 (E.2.1.2 _ w1) (ht _ w4) w6 hR.2.2, ht _ w2, trivial⟩ ⟨VB.blind, fun U hU hWm => ⟨rfl, J.out E hU hWm⟩⟩ rfl hn hl hst (lv_room hW) hdg ⟨Nat.zero_le _, Nat.zero_le _⟩
theorem onI {res : Int32} {a : Array Value} (hr : va_Run p l e R s m args below meth c H locs 0 0 0 0 (F0 m pc ls st0) rest (va_Qi (fun r (_ : Unit) => r = res) (fun _ => VB g A ws') A a) A) (J : VJ g A s.heap ws H locs)
    (kk : ∀ (H1 : Heap) (locs1 : List Loc), VJ g A s.heap ws' H1 locs1 → W p l e R s m args below meth c H1 locs1 0 0 Q (F0 m (pc + 3) ls (.int res :: rest))) : W p l e R s m args below meth c H locs 0 0 Q (F0 m pc ls st0) :=
  va_calli hr J.2.2 (fun _ _ h => h) (fun _ h => h) (fun r u t H1 locs1 ht hvm hw hB _ _ hS => by
    subst hw
    exact kk H1 locs1 ⟨by rw [← ht]; exact hB.1, hB.2.1, hS⟩)
theorem onZ {res : Int32} {a : Array Value} (hr : va_Run p l e R s m args below meth c H locs 0 0 0 0 (F0 m pc ls st0) rest (va_Qi (fun r (_ : Unit) => r = res ∧ zB r) (fun _ => VB g A ws') A a) A) (J : VJ g A s.heap ws H locs)
    (kk : ∀ (_ : zB res) (H1 : Heap) (locs1 : List Loc), VJ g A s.heap ws' H1 locs1 → W p l e R s m args below meth c H1 locs1 0 0 Q (F0 m (pc + 3) ls (.int res :: rest))) : W p l e R s m args below meth c H locs 0 0 Q (F0 m pc ls st0) :=
  va_calli hr J.2.2 (fun _ _ h => h) (fun _ h => h) (fun r u t H1 locs1 ht hvm hw hB _ _ hS => by
    obtain ⟨hw, hz⟩ := hw
    subst hw
    exact kk hz H1 locs1 ⟨by rw [← ht]; exact hB.1, hB.2.1, hS⟩)
theorem onL {res : Int64} {a : Array Value} (hr : va_Run p l e R s m args below meth c H locs 0 0 0 0 (F0 m pc ls st0) rest (va_Ql (fun r (_ : Unit) => r = res) (fun _ => VB g A ws') A a) A) (J : VJ g A s.heap ws H locs)
    (kk : ∀ (H1 : Heap) (locs1 : List Loc), VJ g A s.heap ws' H1 locs1 → W p l e R s m args below meth c H1 locs1 0 0 Q (F0 m (pc + 3) ls (.long res :: rest))) : W p l e R s m args below meth c H locs 0 0 Q (F0 m pc ls st0) :=
  va_calll hr J.2.2 (fun _ _ h => h) (fun _ h => h) (fun r u t H1 locs1 ht hvm hw hB _ _ hS => by
    subst hw
    exact kk H1 locs1 ⟨by rw [← ht]; exact hB.1, hB.2.1, hS⟩)
theorem onV {a : Array Value} (hr : va_Run p l e R s m args below meth c H locs 0 0 0 0 (F0 m pc ls st0) rest (va_Qv (fun (_ : Unit) => True) (fun _ => VB g A ws') A a) A) (J : VJ g A s.heap ws H locs)
    (kk : ∀ (H1 : Heap) (locs1 : List Loc), VJ g A s.heap ws' H1 locs1 → W p l e R s m args below meth c H1 locs1 0 0 Q (F0 m (pc + 3) ls rest)) : W p l e R s m args below meth c H locs 0 0 Q (F0 m pc ls st0) :=
  va_callv hr J.2.2 (fun _ _ h => h) (fun _ h => h) (fun u t H1 locs1 ht hvm hw hB _ _ hS =>
    kk H1 locs1 ⟨by rw [← ht]; exact hB.1, hB.2.1, hS⟩)
/-! a name for what stands on top -/
theorem nmI {x v : Int32} (h : x = v) (k : W p l e R s m args below meth c H locs 0 0 Q (F0 m pc ls (.int v :: rest))) : W p l e R s m args below meth c H locs 0 0 Q (F0 m pc ls (.int x :: rest)) := by rw [h]; exact k
theorem nmL {x v : Int64} (h : x = v) (k : W p l e R s m args below meth c H locs 0 0 Q (F0 m pc ls (.long v :: rest))) : W p l e R s m args below meth c H locs 0 0 Q (F0 m pc ls (.long x :: rest)) := by rw [h]; exact k
end CALLS
/-! fields and arrays of a world, by their places: the rows for each cell are made of these -/
section CELLS
variable {p : Program} {l : Launch} {e : Env} {R : Room} {s : State} {m : MethodId} {args : Array Value} {below : List Frame} {meth : Method} {c : Code} {H : Heap} {locs : List Loc} {Q : State → Prop}
variable {g : GG} {A : Nat → Prop} {ws ws' : va_W} {cc : ByteArray} {nL n index pc : Nat} {own : String} {ls : Array Slot} {rest : List Value} {a : Nat} {C fn fd ref host : String} {T : u_T} {N ci : Nat}
theorem cGet (hin : ∀ w ∈ u_ws C T N, w ∈ BIG) (q0 : Nat) {fs : List Value} (he : ws[q0]? = some (a, .inr (ci, fs))) (hc : vCl[ci]? = some (C, T, N)) (k : Nat) (hk : k < N) {v : Value} (hv : fs[k]? = some v) (hT : T k = (C, fn, fd, (T k).2.2.2))
    (F : CallFix p m c cc nL s args BIG own) (E : EV g A s) (J : VJ g A s.heap ws H locs) (hl : Cond.fieldLink own index C fn fd ∈ BIG) (hdg : decode cc pc = .ok (.getfield index, 3))
    (kk : W p l e R s m args below meth c H locs 0 0 Q (F0 m (pc + 3) ls (v :: rest))) : W p l e R s m args below meth c H locs 0 0 Q (F0 m pc ls (.ref a :: rest)) := by
  have e1 : (T k).1 = C := by rw [hT]
  have e2 : (T k).2.1 = fn := by rw [hT]
  have e3 : (T k).2.2.1 = fd := by rw [hT]
  refine va_get (D := g.1) (ref := C) (C := C) (T := T) (N := N) F.1 F.2.1 F.2.2.2.2 hin F.2.2.2.1 E.1 J.1 q0 he hc k hk ?_ (fun _ h => ?_) hv hdg kk
  · rw [e2, e3]; exact F.2.2.2.2 _ hl
  · rw [e1] at h; exact h
theorem cGetN (hin : ∀ w ∈ u_ws C T N, w ∈ BIG) (q0 : Nat) {fs : List Value} (he : ws[q0]? = some (a, .inr (ci, fs))) (hc : vCl[ci]? = some (C, T, N)) (k : Nat) (hk : k < N) {v : Value} (hv : fs[k]? = some v) (hT : T k = (C, fn, fd, (T k).2.2.2))
    (F : CallFix p m c cc nL s args BIG own) (E : EV g A s) (J : VJ g A s.heap ws H locs) (hl : (own, index, C, fn, fd, host) ∈ nsF) (hdg : decode cc pc = .ok (.getfield index, 3))
    (kk : W p l e R s m args below meth c H locs 0 0 Q (F0 m (pc + 3) ls (v :: rest))) : W p l e R s m args below meth c H locs 0 0 Q (F0 m pc ls (.ref a :: rest)) := by
  have e1 : (T k).1 = C := by rw [hT]
  have e2 : (T k).2.1 = fn := by rw [hT]
  have e3 : (T k).2.2.1 = fd := by rw [hT]
  refine va_getN (host := host) (D := g.1) (ref := C) (C := C) (T := T) (N := N) F.1 F.2.1 F.2.2.2.2 hin F.2.2.2.1 E.1 J.1 q0 he hc k hk ?_ (fun _ h => ?_) hv hdg kk
  · rw [e2, e3]; exact va_Nw.use rfl (E.2.1.1 _ hl)
  · rw [e1] at h; exact h
theorem cPut (hin : ∀ w ∈ u_ws C T N, w ∈ BIG) (ty0 : Nat → FieldType) (hty : ∀ k, k < N → parseFieldDescriptor (T k).2.2.1 = some (ty0 k)) (hnm : ∀ a, a < N → ∀ b, b < N → a ≠ b → (T a).2.1 ≠ (T b).2.1) (q0 : Nat) {fs : List Value} (he : ws[q0]? = some (a, .inr (ci, fs))) (hc : vCl[ci]? = some (C, T, N)) (k : Nat) (hk : k < N) {ty : FieldType} {v : Value} (hT : T k = (C, fn, fd, false)) (hd : parseFieldDescriptor fd = some ty) (hn : narrow ty v = v) (hfit : fits ty v = true) (hlen : k < fs.length)
    (hws : ws.set q0 (a, .inr (ci, fs.set k v)) = ws')
    (F : CallFix p m c cc nL s args BIG own) (E : EV g A s) (J : VJ g A s.heap ws H locs) (hl : Cond.fieldLink own index C fn fd ∈ BIG) (hdg : decode cc pc = .ok (.putfield index, 3))
    (kk : ∀ (H1 : Heap) (locs1 : List Loc), VJ g A s.heap ws' H1 locs1 → W p l e R s m args below meth c H1 locs1 0 0 Q (F0 m (pc + 3) ls rest)) : W p l e R s m args below meth c H locs 0 0 Q (F0 m pc ls (v :: .ref a :: rest)) := by
  subst hws
  have e1 : (T k).1 = C := by rw [hT]
  have e2 : (T k).2.1 = fn := by rw [hT]
  have e3 : (T k).2.2.1 = fd := by rw [hT]
  refine va_put (D := g.1) (ref := C) (C := C) (T := T) (N := N) (ty := ty) F.1 F.2.1 F.2.2.2.2 hin ty0 hty hnm F.2.2.2.1 E.1 J.1 J.2.1 J.2.2 q0 he hc k hk ?_ (fun _ h => ?_) (by rw [hT]) (by rw [e3]; exact hd) hn hfit hlen hdg (fun H1 locs1 h1 h2 h3 => kk H1 locs1 ⟨h1, h2, h3⟩)
  · rw [e2, e3]; exact F.2.2.2.2 _ hl
  · rw [e1] at h; exact h
end CELLS
end
section
theorem uX0 : ∀ w ∈ u_ws RX0 TX0 3, w ∈ BIG := bigL _ [160, 162, 164] (by decide +kernel) (by decide +kernel)
theorem uX1 : ∀ w ∈ u_ws RX1 TX1 3, w ∈ BIG := bigL _ [228, 230, 232] (by decide +kernel) (by decide +kernel)
theorem uX2 : ∀ w ∈ u_ws RX2 TX2 5, w ∈ BIG := bigL _ [207, 209, 211, 213, 215] (by decide +kernel) (by decide +kernel)
theorem uX3 : ∀ w ∈ u_ws RX3 TX3 2, w ∈ BIG := bigL _ [102, 104] (by decide +kernel) (by decide +kernel)
theorem uX5 : ∀ w ∈ u_ws RX5 TX5 6, w ∈ BIG := bigL _ [183, 185, 187, 189, 191, 193] (by decide +kernel) (by decide +kernel)
theorem uX6 : ∀ w ∈ u_ws RX6 TX6 11, w ∈ BIG := bigL _ [125, 127, 129, 131, 133, 135, 137, 139, 141, 143, 145] (by decide +kernel) (by decide +kernel)
theorem uX7 : ∀ w ∈ u_ws RX7 TX7 9, w ∈ BIG := bigL _ [244, 246, 248, 250, 252, 254, 256, 258, 260] (by decide +kernel) (by decide +kernel)
theorem uX8 : ∀ w ∈ u_ws RX8 TX8 41, w ∈ BIG := bigL _ [781, 783, 785, 787, 789, 791, 793, 795, 797, 799, 801, 803, 805, 807, 809, 811, 813, 815, 817, 819, 821, 823, 825, 827, 829, 831, 833, 835, 837, 839, 841, 843, 845, 847, 849, 851, 853, 855, 857, 859, 861] (by decide +kernel) (by decide +kernel)
theorem fl_X3_9 : Cond.fieldLink RX3 9 RX3 "places" "I" ∈ BIG := bigI 97 (by decide +kernel) rfl
theorem fl_X3_15 : Cond.fieldLink RX3 15 RX3 "mask" "I" ∈ BIG := bigI 101 (by decide +kernel) rfl
theorem fl_X6_45 : Cond.fieldLink RX6 45 RX6 "ring" "LRingCrowd$Ring;" ∈ BIG := bigI 113 (by decide +kernel) rfl
theorem fl_X6_11 : Cond.fieldLink RX6 11 RX6 "names" "[I" ∈ BIG := bigI 114 (by decide +kernel) rfl
theorem fl_X6_15 : Cond.fieldLink RX6 15 RX6 "goals" "[J" ∈ BIG := bigI 115 (by decide +kernel) rfl
theorem fl_X6_19 : Cond.fieldLink RX6 19 RX6 "links" "[J" ∈ BIG := bigI 116 (by decide +kernel) rfl
theorem fl_X6_22 : Cond.fieldLink RX6 22 RX6 "linked" "[Z" ∈ BIG := bigI 117 (by decide +kernel) rfl
theorem fl_X6_26 : Cond.fieldLink RX6 26 RX6 "ups" "[I" ∈ BIG := bigI 118 (by decide +kernel) rfl
theorem fl_X6_29 : Cond.fieldLink RX6 29 RX6 "downs" "[I" ∈ BIG := bigI 119 (by decide +kernel) rfl
theorem fl_X6_32 : Cond.fieldLink RX6 32 RX6 "next" "[I" ∈ BIG := bigI 120 (by decide +kernel) rfl
theorem fl_X6_35 : Cond.fieldLink RX6 35 RX6 "robots" "I" ∈ BIG := bigI 121 (by decide +kernel) rfl
theorem fl_X6_39 : Cond.fieldLink RX6 39 RX6 "size" "I" ∈ BIG := bigI 122 (by decide +kernel) rfl
theorem fl_X6_42 : Cond.fieldLink RX6 42 RX6 "nexts" "I" ∈ BIG := bigI 124 (by decide +kernel) rfl
theorem fl_X0_19 : Cond.fieldLink RX0 19 RX0 "ring" "LRingCrowd$Ring;" ∈ BIG := bigI 157 (by decide +kernel) rfl
theorem fl_X0_9 : Cond.fieldLink RX0 9 RX0 "begun" "[I" ∈ BIG := bigI 158 (by decide +kernel) rfl
theorem fl_X0_15 : Cond.fieldLink RX0 15 RX0 "length" "I" ∈ BIG := bigI 159 (by decide +kernel) rfl
theorem fl_X5_9 : Cond.fieldLink RX5 9 RX5 "bytes" "[I" ∈ BIG := bigI 173 (by decide +kernel) rfl
theorem fl_X5_15 : Cond.fieldLink RX5 15 RX5 "length" "I" ∈ BIG := bigI 174 (by decide +kernel) rfl
theorem fl_X5_19 : Cond.fieldLink RX5 19 RX5 "token" "I" ∈ BIG := bigI 176 (by decide +kernel) rfl
theorem fl_X5_22 : Cond.fieldLink RX5 22 RX5 "from" "I" ∈ BIG := bigI 178 (by decide +kernel) rfl
theorem fl_X5_25 : Cond.fieldLink RX5 25 RX5 "value" "I" ∈ BIG := bigI 180 (by decide +kernel) rfl
theorem fl_X5_28 : Cond.fieldLink RX5 28 RX5 "behind" "I" ∈ BIG := bigI 182 (by decide +kernel) rfl
theorem fl_X2_25 : Cond.fieldLink RX2 25 RX2 "tape" "LRingCrowd$Tape;" ∈ BIG := bigI 202 (by decide +kernel) rfl
theorem fl_X2_11 : Cond.fieldLink RX2 11 RX2 "wants" "I" ∈ BIG := bigI 203 (by decide +kernel) rfl
theorem fl_X2_15 : Cond.fieldLink RX2 15 RX2 "pairs" "I" ∈ BIG := bigI 204 (by decide +kernel) rfl
theorem fl_X2_18 : Cond.fieldLink RX2 18 RX2 "sees" "I" ∈ BIG := bigI 205 (by decide +kernel) rfl
theorem fl_X2_21 : Cond.fieldLink RX2 21 RX2 "row" "J" ∈ BIG := bigI 206 (by decide +kernel) rfl
theorem fl_X1_9 : Cond.fieldLink RX1 9 RX1 "rows" "[J" ∈ BIG := bigI 224 (by decide +kernel) rfl
theorem fl_X1_15 : Cond.fieldLink RX1 15 RX1 "acts" "[I" ∈ BIG := bigI 225 (by decide +kernel) rfl
theorem fl_X1_19 : Cond.fieldLink RX1 19 RX1 "size" "I" ∈ BIG := bigI 226 (by decide +kernel) rfl
theorem fl_X7_23 : Cond.fieldLink RX7 23 RX7 "ring" "LRingCrowd$Ring;" ∈ BIG := bigI 235 (by decide +kernel) rfl
theorem fl_X7_32 : Cond.fieldLink RX7 32 RX7 "ways" "LRingCrowd$Ways;" ∈ BIG := bigI 236 (by decide +kernel) rfl
theorem fl_X7_39 : Cond.fieldLink RX7 39 RX7 "asks" "LRingCrowd$Asks;" ∈ BIG := bigI 237 (by decide +kernel) rfl
theorem fl_X7_46 : Cond.fieldLink RX7 46 RX7 "tape" "LRingCrowd$Tape;" ∈ BIG := bigI 238 (by decide +kernel) rfl
theorem fl_X7_55 : Cond.fieldLink RX7 55 RX7 "reader" "LRingCrowd$Reader;" ∈ BIG := bigI 239 (by decide +kernel) rfl
theorem fl_X7_62 : Cond.fieldLink RX7 62 RX7 "book" "LRingCrowd$Book;" ∈ BIG := bigI 240 (by decide +kernel) rfl
theorem fl_X7_66 : Cond.fieldLink RX7 66 RX7 "spare" "LRingCrowd$Book;" ∈ BIG := bigI 241 (by decide +kernel) rfl
theorem fl_X7_69 : Cond.fieldLink RX7 69 RX7 "crowd" "I" ∈ BIG := bigI 242 (by decide +kernel) rfl
theorem fl_X7_73 : Cond.fieldLink RX7 73 RX7 "latestFault" "I" ∈ BIG := bigI 243 (by decide +kernel) rfl
theorem kc_X7_80 : Cond.constant RX7 80 (-1000001) ∈ BIG := bigI 274 (by decide +kernel) rfl
theorem kc_X7_85 : Cond.constant RX7 85 (-1000003) ∈ BIG := bigI 283 (by decide +kernel) rfl
theorem kc_X7_92 : Cond.constant RX7 92 (-1000000) ∈ BIG := bigI 301 (by decide +kernel) rfl
theorem kc_X4_15 : Cond.constant RX4 15 (-1000000) ∈ BIG := bigI 324 (by decide +kernel) rfl
theorem kc_X7_117 : Cond.constant RX7 117 (-1000002) ∈ BIG := bigI 386 (by decide +kernel) rfl
theorem kc_X7_141 : Cond.constant RX7 141 (-1000100) ∈ BIG := bigI 536 (by decide +kernel) rfl
theorem kc_X6_136 : Cond.constantLong RX6 136 (-1) ∈ BIG := bigI 632 (by decide +kernel) rfl
theorem kc_X6_146 : Cond.constant RX6 146 (-1000000) ∈ BIG := bigI 633 (by decide +kernel) rfl
theorem kc_J13_314 : Cond.constantLong RJ13 314 6148914691236517205 ∈ BIG := bigI 645 (by decide +kernel) rfl
theorem kc_J13_316 : Cond.constantLong RJ13 316 3689348814741910323 ∈ BIG := bigI 646 (by decide +kernel) rfl
theorem kc_J13_318 : Cond.constantLong RJ13 318 1085102592571150095 ∈ BIG := bigI 647 (by decide +kernel) rfl
theorem kc_X7_183 : Cond.constant RX7 183 (-1000004) ∈ BIG := bigI 681 (by decide +kernel) rfl
theorem kc_X0_34 : Cond.constant RX0 34 (-1000000) ∈ BIG := bigI 723 (by decide +kernel) rfl
theorem fl_X8_1 : Cond.fieldLink RX8 1 RX8 "thrown" "I" ∈ BIG := bigI 740 (by decide +kernel) rfl
theorem fl_X8_87 : Cond.fieldLink RX8 87 RX8 "n" "I" ∈ BIG := bigI 741 (by decide +kernel) rfl
theorem fl_X8_99 : Cond.fieldLink RX8 99 RX8 "robots" "I" ∈ BIG := bigI 742 (by decide +kernel) rfl
theorem fl_X8_13 : Cond.fieldLink RX8 13 RX8 "here" "[I" ∈ BIG := bigI 743 (by decide +kernel) rfl
theorem fl_X8_17 : Cond.fieldLink RX8 17 RX8 "hand" "[I" ∈ BIG := bigI 744 (by decide +kernel) rfl
theorem fl_X8_107 : Cond.fieldLink RX8 107 RX8 "viewed" "I" ∈ BIG := bigI 745 (by decide +kernel) rfl
theorem fl_X8_20 : Cond.fieldLink RX8 20 RX8 "view" "[I" ∈ BIG := bigI 746 (by decide +kernel) rfl
theorem fl_X8_23 : Cond.fieldLink RX8 23 RX8 "up" "[I" ∈ BIG := bigI 747 (by decide +kernel) rfl
theorem fl_X8_26 : Cond.fieldLink RX8 26 RX8 "down" "[I" ∈ BIG := bigI 748 (by decide +kernel) rfl
theorem fl_X8_118 : Cond.fieldLink RX8 118 RX8 "rules" "I" ∈ BIG := bigI 749 (by decide +kernel) rfl
theorem fl_X8_29 : Cond.fieldLink RX8 29 RX8 "ruleSize" "[I" ∈ BIG := bigI 750 (by decide +kernel) rfl
theorem fl_X8_32 : Cond.fieldLink RX8 32 RX8 "ruleRow" "[I" ∈ BIG := bigI 751 (by decide +kernel) rfl
theorem fl_X8_35 : Cond.fieldLink RX8 35 RX8 "ruleDoes" "[I" ∈ BIG := bigI 752 (by decide +kernel) rfl
theorem fl_X8_38 : Cond.fieldLink RX8 38 RX8 "name" "[I" ∈ BIG := bigI 753 (by decide +kernel) rfl
theorem fl_X8_41 : Cond.fieldLink RX8 41 RX8 "goes" "[I" ∈ BIG := bigI 754 (by decide +kernel) rfl
theorem fl_X8_44 : Cond.fieldLink RX8 44 RX8 "tape" "[I" ∈ BIG := bigI 755 (by decide +kernel) rfl
theorem fl_X8_140 : Cond.fieldLink RX8 140 RX8 "taped" "I" ∈ BIG := bigI 756 (by decide +kernel) rfl
theorem fl_X8_217 : Cond.fieldLink RX8 217 RX8 "latest" "I" ∈ BIG := bigI 757 (by decide +kernel) rfl
theorem fl_X8_145 : Cond.fieldLink RX8 145 RX8 "size" "I" ∈ BIG := bigI 758 (by decide +kernel) rfl
theorem fl_X8_148 : Cond.fieldLink RX8 148 RX8 "at" "I" ∈ BIG := bigI 759 (by decide +kernel) rfl
theorem fl_X8_157 : Cond.fieldLink RX8 157 RX8 "sort" "I" ∈ BIG := bigI 760 (by decide +kernel) rfl
theorem fl_X8_154 : Cond.fieldLink RX8 154 RX8 "place" "I" ∈ BIG := bigI 761 (by decide +kernel) rfl
theorem fl_X8_166 : Cond.fieldLink RX8 166 RX8 "end" "I" ∈ BIG := bigI 762 (by decide +kernel) rfl
theorem fl_X8_169 : Cond.fieldLink RX8 169 RX8 "fault" "I" ∈ BIG := bigI 763 (by decide +kernel) rfl
theorem fl_X8_172 : Cond.fieldLink RX8 172 RX8 "faultAt" "I" ∈ BIG := bigI 764 (by decide +kernel) rfl
theorem fl_X8_190 : Cond.fieldLink RX8 190 RX8 "read" "I" ∈ BIG := bigI 765 (by decide +kernel) rfl
theorem fl_X8_47 : Cond.fieldLink RX8 47 RX8 "readSize" "[I" ∈ BIG := bigI 766 (by decide +kernel) rfl
theorem fl_X8_50 : Cond.fieldLink RX8 50 RX8 "readRow" "[I" ∈ BIG := bigI 767 (by decide +kernel) rfl
theorem fl_X8_53 : Cond.fieldLink RX8 53 RX8 "readDoes" "[I" ∈ BIG := bigI 768 (by decide +kernel) rfl
theorem fl_X8_56 : Cond.fieldLink RX8 56 RX8 "own" "[I" ∈ BIG := bigI 769 (by decide +kernel) rfl
theorem fl_X8_221 : Cond.fieldLink RX8 221 RX8 "crowds" "I" ∈ BIG := bigI 770 (by decide +kernel) rfl
theorem fl_X8_59 : Cond.fieldLink RX8 59 RX8 "crowd" "[I" ∈ BIG := bigI 771 (by decide +kernel) rfl
theorem fl_X8_62 : Cond.fieldLink RX8 62 RX8 "isStep" "[Z" ∈ BIG := bigI 772 (by decide +kernel) rfl
theorem fl_X8_66 : Cond.fieldLink RX8 66 RX8 "isOfGoal" "[Z" ∈ BIG := bigI 773 (by decide +kernel) rfl
theorem fl_X8_69 : Cond.fieldLink RX8 69 RX8 "isMet" "[Z" ∈ BIG := bigI 774 (by decide +kernel) rfl
theorem fl_X8_72 : Cond.fieldLink RX8 72 RX8 "most" "[I" ∈ BIG := bigI 775 (by decide +kernel) rfl
theorem fl_X8_75 : Cond.fieldLink RX8 75 RX8 "stands" "[I" ∈ BIG := bigI 776 (by decide +kernel) rfl
theorem fl_X8_78 : Cond.fieldLink RX8 78 RX8 "doesHere" "[I" ∈ BIG := bigI 777 (by decide +kernel) rfl
theorem fl_X8_81 : Cond.fieldLink RX8 81 RX8 "from" "[I" ∈ BIG := bigI 778 (by decide +kernel) rfl
theorem fl_X8_84 : Cond.fieldLink RX8 84 RX8 "trace" "[I" ∈ BIG := bigI 779 (by decide +kernel) rfl
theorem fl_X8_248 : Cond.fieldLink RX8 248 RX8 "traced" "I" ∈ BIG := bigI 780 (by decide +kernel) rfl
theorem kc_X8_98 : Cond.constant RX8 98 (-1000001) ∈ BIG := bigI 875 (by decide +kernel) rfl
theorem kc_X8_102 : Cond.constant RX8 102 (-1000003) ∈ BIG := bigI 876 (by decide +kernel) rfl
theorem kc_X8_110 : Cond.constant RX8 110 (-1000000) ∈ BIG := bigI 889 (by decide +kernel) rfl
theorem kc_X8_131 : Cond.constantLong RX8 131 2 ∈ BIG := bigI 926 (by decide +kernel) rfl
theorem kc_X8_137 : Cond.constant RX8 137 (-1000002) ∈ BIG := bigI 935 (by decide +kernel) rfl
theorem kc_X8_138 : Cond.constantLong RX8 138 8 ∈ BIG := bigI 944 (by decide +kernel) rfl
theorem kc_X8_143 : Cond.constantLong RX8 143 255 ∈ BIG := bigI 945 (by decide +kernel) rfl
theorem kc_X8_197 : Cond.constantLong RX8 197 7562597 ∈ BIG := bigI 972 (by decide +kernel) rfl
theorem kc_X8_205 : Cond.constantLong RX8 205 1852137842 ∈ BIG := bigI 993 (by decide +kernel) rfl
theorem kc_X8_207 : Cond.constantLong RX8 207 6709618 ∈ BIG := bigI 994 (by decide +kernel) rfl
theorem kc_X8_209 : Cond.constantLong RX8 209 1937006969 ∈ BIG := bigI 995 (by decide +kernel) rfl
theorem kc_X8_220 : Cond.constant RX8 220 (-1000100) ∈ BIG := bigI 1000 (by decide +kernel) rfl
theorem kc_X8_234 : Cond.constantLong RX8 234 4 ∈ BIG := bigI 1009 (by decide +kernel) rfl
theorem kc_X8_245 : Cond.constantLong RX8 245 3 ∈ BIG := bigI 1046 (by decide +kernel) rfl
theorem kc_X8_247 : Cond.constant RX8 247 (-1000004) ∈ BIG := bigI 1047 (by decide +kernel) rfl
theorem kc_L_60 : Cond.constantLong RL 60 4294967295 ∈ BIG := bigI 1072 (by decide +kernel) rfl
theorem mw_X0_answer : Cond.instanceMethod yX0_answer ∈ BIG ∧ Cond.selects yX0_answer.cls yX0_answer yX0_answer ∈ BIG ∧ Cond.initialized yX0_answer.cls ∈ BIG ∧ Cond.code yX0_answer cX0_answer 3 (some .int) ∈ BIG ∧ CWH yX0_answer 2 := ⟨bigI 687 (by decide +kernel) rfl, bigI 688 (by decide +kernel) rfl, bigI 66 (by decide +kernel) rfl, bigI 689 (by decide +kernel) rfl, ⟨by decide +kernel, by decide +kernel, by decide +kernel⟩⟩
theorem mw_X0_traced : Cond.instanceMethod yX0_traced ∈ BIG ∧ Cond.selects yX0_traced.cls yX0_traced yX0_traced ∈ BIG ∧ Cond.initialized yX0_traced.cls ∈ BIG ∧ Cond.code yX0_traced cX0_traced 2 (some .int) ∈ BIG ∧ CWH yX0_traced 1 := ⟨bigI 719 (by decide +kernel) rfl, bigI 720 (by decide +kernel) rfl, bigI 66 (by decide +kernel) rfl, bigI 721 (by decide +kernel) rfl, ⟨by decide +kernel, by decide +kernel, by decide +kernel⟩⟩
theorem mw_X0_begin : Cond.instanceMethod yX0_begin ∈ BIG ∧ Cond.selects yX0_begin.cls yX0_begin yX0_begin ∈ BIG ∧ Cond.initialized yX0_begin.cls ∈ BIG ∧ Cond.code yX0_begin cX0_begin 2 none ∈ BIG ∧ CWH yX0_begin 1 := ⟨bigI 697 (by decide +kernel) rfl, bigI 30 (by decide +kernel) rfl, bigI 66 (by decide +kernel) rfl, bigI 698 (by decide +kernel) rfl, ⟨by decide +kernel, by decide +kernel, by decide +kernel⟩⟩
theorem mw_X0_sizeOf : Cond.instanceMethod yX0_sizeOf ∈ BIG ∧ Cond.selects yX0_sizeOf.cls yX0_sizeOf yX0_sizeOf ∈ BIG ∧ Cond.initialized yX0_sizeOf.cls ∈ BIG ∧ Cond.code yX0_sizeOf cX0_sizeOf 2 (some .int) ∈ BIG ∧ CWH yX0_sizeOf 1 := ⟨bigI 692 (by decide +kernel) rfl, bigI 29 (by decide +kernel) rfl, bigI 66 (by decide +kernel) rfl, bigI 693 (by decide +kernel) rfl, ⟨by decide +kernel, by decide +kernel, by decide +kernel⟩⟩
theorem mw_X0_lentSize : Cond.instanceMethod yX0_lentSize ∈ BIG ∧ Cond.selects yX0_lentSize.cls yX0_lentSize yX0_lentSize ∈ BIG ∧ Cond.initialized yX0_lentSize.cls ∈ BIG ∧ Cond.code yX0_lentSize cX0_lentSize 2 (some .int) ∈ BIG ∧ CWH yX0_lentSize 1 := ⟨bigI 701 (by decide +kernel) rfl, bigI 31 (by decide +kernel) rfl, bigI 66 (by decide +kernel) rfl, bigI 702 (by decide +kernel) rfl, ⟨by decide +kernel, by decide +kernel, by decide +kernel⟩⟩
theorem mw_X0_markOf : Cond.instanceMethod yX0_markOf ∈ BIG ∧ Cond.selects yX0_markOf.cls yX0_markOf yX0_markOf ∈ BIG ∧ Cond.initialized yX0_markOf.cls ∈ BIG ∧ Cond.code yX0_markOf cX0_markOf 2 (some .int) ∈ BIG ∧ CWH yX0_markOf 1 := ⟨bigI 707 (by decide +kernel) rfl, bigI 32 (by decide +kernel) rfl, bigI 66 (by decide +kernel) rfl, bigI 708 (by decide +kernel) rfl, ⟨by decide +kernel, by decide +kernel, by decide +kernel⟩⟩
theorem mw_X0_lentMark : Cond.instanceMethod yX0_lentMark ∈ BIG ∧ Cond.selects yX0_lentMark.cls yX0_lentMark yX0_lentMark ∈ BIG ∧ Cond.initialized yX0_lentMark.cls ∈ BIG ∧ Cond.code yX0_lentMark cX0_lentMark 2 (some .int) ∈ BIG ∧ CWH yX0_lentMark 1 := ⟨bigI 711 (by decide +kernel) rfl, bigI 33 (by decide +kernel) rfl, bigI 66 (by decide +kernel) rfl, bigI 712 (by decide +kernel) rfl, ⟨by decide +kernel, by decide +kernel, by decide +kernel⟩⟩
theorem mw_X1_clear : Cond.instanceMethod yX1_clear ∈ BIG ∧ Cond.selects yX1_clear.cls yX1_clear yX1_clear ∈ BIG ∧ Cond.initialized yX1_clear.cls ∈ BIG ∧ Cond.code yX1_clear cX1_clear 1 none ∈ BIG ∧ CWH yX1_clear 0 := ⟨bigI 413 (by decide +kernel) rfl, bigI 414 (by decide +kernel) rfl, bigI 69 (by decide +kernel) rfl, bigI 415 (by decide +kernel) rfl, ⟨by decide +kernel, by decide +kernel, by decide +kernel⟩⟩
theorem mw_X1_put : Cond.instanceMethod yX1_put ∈ BIG ∧ Cond.selects yX1_put.cls yX1_put yX1_put ∈ BIG ∧ Cond.initialized yX1_put.cls ∈ BIG ∧ Cond.code yX1_put cX1_put 4 none ∈ BIG ∧ CWH yX1_put 2 := ⟨bigI 528 (by decide +kernel) rfl, bigI 529 (by decide +kernel) rfl, bigI 69 (by decide +kernel) rfl, bigI 530 (by decide +kernel) rfl, ⟨by decide +kernel, by decide +kernel, by decide +kernel⟩⟩
theorem mw_X1_has : Cond.instanceMethod yX1_has ∈ BIG ∧ Cond.selects yX1_has.cls yX1_has yX1_has ∈ BIG ∧ Cond.initialized yX1_has.cls ∈ BIG ∧ Cond.code yX1_has cX1_has 3 (some .boolean) ∈ BIG ∧ CWH yX1_has 1 := ⟨bigI 515 (by decide +kernel) rfl, bigI 516 (by decide +kernel) rfl, bigI 69 (by decide +kernel) rfl, bigI 517 (by decide +kernel) rfl, ⟨by decide +kernel, by decide +kernel, by decide +kernel⟩⟩
theorem mw_X1_find : Cond.instanceMethod yX1_find ∈ BIG ∧ Cond.selects yX1_find.cls yX1_find yX1_find ∈ BIG ∧ Cond.initialized yX1_find.cls ∈ BIG ∧ Cond.code yX1_find cX1_find 4 (some .int) ∈ BIG ∧ CWH yX1_find 1 := ⟨bigI 337 (by decide +kernel) rfl, bigI 1 (by decide +kernel) rfl, bigI 69 (by decide +kernel) rfl, bigI 338 (by decide +kernel) rfl, ⟨by decide +kernel, by decide +kernel, by decide +kernel⟩⟩
theorem mw_X1_moveAt : Cond.instanceMethod yX1_moveAt ∈ BIG ∧ Cond.selects yX1_moveAt.cls yX1_moveAt yX1_moveAt ∈ BIG ∧ Cond.initialized yX1_moveAt.cls ∈ BIG ∧ Cond.code yX1_moveAt cX1_moveAt 10 (some .int) ∈ BIG ∧ CWH yX1_moveAt 3 := ⟨bigI 330 (by decide +kernel) rfl, bigI 331 (by decide +kernel) rfl, bigI 69 (by decide +kernel) rfl, bigI 332 (by decide +kernel) rfl, ⟨by decide +kernel, by decide +kernel, by decide +kernel⟩⟩
theorem mw_X2_read : Cond.instanceMethod yX2_read ∈ BIG ∧ Cond.selects yX2_read.cls yX2_read yX2_read ∈ BIG ∧ Cond.initialized yX2_read.cls ∈ BIG ∧ Cond.code yX2_read cX2_read 4 (some .int) ∈ BIG ∧ CWH yX2_read 1 := ⟨bigI 409 (by decide +kernel) rfl, bigI 410 (by decide +kernel) rfl, bigI 68 (by decide +kernel) rfl, bigI 411 (by decide +kernel) rfl, ⟨by decide +kernel, by decide +kernel, by decide +kernel⟩⟩
theorem mw_X2_faultAgainst : Cond.instanceMethod yX2_faultAgainst ∈ BIG ∧ Cond.selects yX2_faultAgainst.cls yX2_faultAgainst yX2_faultAgainst ∈ BIG ∧ Cond.initialized yX2_faultAgainst.cls ∈ BIG ∧ Cond.code yX2_faultAgainst cX2_faultAgainst 2 (some .int) ∈ BIG ∧ CWH yX2_faultAgainst 1 := ⟨bigI 504 (by decide +kernel) rfl, bigI 9 (by decide +kernel) rfl, bigI 68 (by decide +kernel) rfl, bigI 505 (by decide +kernel) rfl, ⟨by decide +kernel, by decide +kernel, by decide +kernel⟩⟩
theorem mw_X2_isPlaced : Cond.instanceMethod yX2_isPlaced ∈ BIG ∧ Cond.selects yX2_isPlaced.cls yX2_isPlaced yX2_isPlaced ∈ BIG ∧ Cond.initialized yX2_isPlaced.cls ∈ BIG ∧ Cond.code yX2_isPlaced cX2_isPlaced 1 (some .boolean) ∈ BIG ∧ CWH yX2_isPlaced 0 := ⟨bigI 508 (by decide +kernel) rfl, bigI 10 (by decide +kernel) rfl, bigI 68 (by decide +kernel) rfl, bigI 509 (by decide +kernel) rfl, ⟨by decide +kernel, by decide +kernel, by decide +kernel⟩⟩
theorem mw_X2_isTooMuch : Cond.instanceMethod yX2_isTooMuch ∈ BIG ∧ Cond.selects yX2_isTooMuch.cls yX2_isTooMuch yX2_isTooMuch ∈ BIG ∧ Cond.initialized yX2_isTooMuch.cls ∈ BIG ∧ Cond.code yX2_isTooMuch cX2_isTooMuch 2 (some .boolean) ∈ BIG ∧ CWH yX2_isTooMuch 1 := ⟨bigI 512 (by decide +kernel) rfl, bigI 11 (by decide +kernel) rfl, bigI 68 (by decide +kernel) rfl, bigI 513 (by decide +kernel) rfl, ⟨by decide +kernel, by decide +kernel, by decide +kernel⟩⟩
theorem mw_X2_take : Cond.instanceMethod yX2_take ∈ BIG ∧ Cond.selects yX2_take.cls yX2_take yX2_take ∈ BIG ∧ Cond.initialized yX2_take.cls ∈ BIG ∧ Cond.code yX2_take cX2_take 2 none ∈ BIG ∧ CWH yX2_take 1 := ⟨bigI 520 (by decide +kernel) rfl, bigI 12 (by decide +kernel) rfl, bigI 68 (by decide +kernel) rfl, bigI 521 (by decide +kernel) rfl, ⟨by decide +kernel, by decide +kernel, by decide +kernel⟩⟩
theorem mw_X2_takeNumber : Cond.instanceMethod yX2_takeNumber ∈ BIG ∧ Cond.selects yX2_takeNumber.cls yX2_takeNumber yX2_takeNumber ∈ BIG ∧ Cond.initialized yX2_takeNumber.cls ∈ BIG ∧ Cond.code yX2_takeNumber cX2_takeNumber 1 none ∈ BIG ∧ CWH yX2_takeNumber 0 := ⟨bigI 524 (by decide +kernel) rfl, bigI 13 (by decide +kernel) rfl, bigI 68 (by decide +kernel) rfl, bigI 525 (by decide +kernel) rfl, ⟨by decide +kernel, by decide +kernel, by decide +kernel⟩⟩
theorem mw_X3_oneAt : Cond.instanceMethod yX3_oneAt ∈ BIG ∧ Cond.selects yX3_oneAt.cls yX3_oneAt yX3_oneAt ∈ BIG ∧ Cond.initialized yX3_oneAt.cls ∈ BIG ∧ Cond.code yX3_oneAt cX3_oneAt 2 (some .int) ∈ BIG ∧ CWH yX3_oneAt 1 := ⟨bigI 285 (by decide +kernel) rfl, bigI 286 (by decide +kernel) rfl, bigI 63 (by decide +kernel) rfl, bigI 287 (by decide +kernel) rfl, ⟨by decide +kernel, by decide +kernel, by decide +kernel⟩⟩
theorem mw_X3_manyAt : Cond.instanceMethod yX3_manyAt ∈ BIG ∧ Cond.selects yX3_manyAt.cls yX3_manyAt yX3_manyAt ∈ BIG ∧ Cond.initialized yX3_manyAt.cls ∈ BIG ∧ Cond.code yX3_manyAt cX3_manyAt 3 (some .int) ∈ BIG ∧ CWH yX3_manyAt 2 := ⟨bigI 280 (by decide +kernel) rfl, bigI 281 (by decide +kernel) rfl, bigI 63 (by decide +kernel) rfl, bigI 282 (by decide +kernel) rfl, ⟨by decide +kernel, by decide +kernel, by decide +kernel⟩⟩
theorem mw_X3_beside : Cond.instanceMethod yX3_beside ∈ BIG ∧ Cond.selects yX3_beside.cls yX3_beside yX3_beside ∈ BIG ∧ Cond.initialized yX3_beside.cls ∈ BIG ∧ Cond.code yX3_beside cX3_beside 4 (some .int) ∈ BIG ∧ CWH yX3_beside 2 := ⟨bigI 311 (by decide +kernel) rfl, bigI 312 (by decide +kernel) rfl, bigI 63 (by decide +kernel) rfl, bigI 313 (by decide +kernel) rfl, ⟨by decide +kernel, by decide +kernel, by decide +kernel⟩⟩
theorem mw_X3_shift : Cond.instanceMethod yX3_shift ∈ BIG ∧ Cond.selects yX3_shift.cls yX3_shift yX3_shift ∈ BIG ∧ Cond.initialized yX3_shift.cls ∈ BIG ∧ Cond.code yX3_shift cX3_shift 3 (some .int) ∈ BIG ∧ CWH yX3_shift 2 := ⟨bigI 388 (by decide +kernel) rfl, bigI 389 (by decide +kernel) rfl, bigI 63 (by decide +kernel) rfl, bigI 390 (by decide +kernel) rfl, ⟨by decide +kernel, by decide +kernel, by decide +kernel⟩⟩
theorem mw_X3_robotsIn : Cond.instanceMethod yX3_robotsIn ∈ BIG ∧ Cond.selects yX3_robotsIn.cls yX3_robotsIn yX3_robotsIn ∈ BIG ∧ Cond.initialized yX3_robotsIn.cls ∈ BIG ∧ Cond.code yX3_robotsIn cX3_robotsIn 4 (some .int) ∈ BIG ∧ CWH yX3_robotsIn 1 := ⟨bigI 276 (by decide +kernel) rfl, bigI 277 (by decide +kernel) rfl, bigI 63 (by decide +kernel) rfl, bigI 278 (by decide +kernel) rfl, ⟨by decide +kernel, by decide +kernel, by decide +kernel⟩⟩
theorem mw_X3_takenIn : Cond.instanceMethod yX3_takenIn ∈ BIG ∧ Cond.selects yX3_takenIn.cls yX3_takenIn yX3_takenIn ∈ BIG ∧ Cond.initialized yX3_takenIn.cls ∈ BIG ∧ Cond.code yX3_takenIn cX3_takenIn 4 (some .int) ∈ BIG ∧ CWH yX3_takenIn 1 := ⟨bigI 367 (by decide +kernel) rfl, bigI 368 (by decide +kernel) rfl, bigI 63 (by decide +kernel) rfl, bigI 369 (by decide +kernel) rfl, ⟨by decide +kernel, by decide +kernel, by decide +kernel⟩⟩
theorem mw_X3_turned : Cond.instanceMethod yX3_turned ∈ BIG ∧ Cond.selects yX3_turned.cls yX3_turned yX3_turned ∈ BIG ∧ Cond.initialized yX3_turned.cls ∈ BIG ∧ Cond.code yX3_turned cX3_turned 2 (some .int) ∈ BIG ∧ CWH yX3_turned 1 := ⟨bigI 354 (by decide +kernel) rfl, bigI 355 (by decide +kernel) rfl, bigI 63 (by decide +kernel) rfl, bigI 356 (by decide +kernel) rfl, ⟨by decide +kernel, by decide +kernel, by decide +kernel⟩⟩
theorem mw_X3_mirrored : Cond.instanceMethod yX3_mirrored ∈ BIG ∧ Cond.selects yX3_mirrored.cls yX3_mirrored yX3_mirrored ∈ BIG ∧ Cond.initialized yX3_mirrored.cls ∈ BIG ∧ Cond.code yX3_mirrored cX3_mirrored 4 (some .int) ∈ BIG ∧ CWH yX3_mirrored 1 := ⟨bigI 349 (by decide +kernel) rfl, bigI 350 (by decide +kernel) rfl, bigI 63 (by decide +kernel) rfl, bigI 351 (by decide +kernel) rfl, ⟨by decide +kernel, by decide +kernel, by decide +kernel⟩⟩
theorem mw_X3_nameOf : Cond.instanceMethod yX3_nameOf ∈ BIG ∧ Cond.selects yX3_nameOf.cls yX3_nameOf yX3_nameOf ∈ BIG ∧ Cond.initialized yX3_nameOf.cls ∈ BIG ∧ Cond.code yX3_nameOf cX3_nameOf 6 (some .int) ∈ BIG ∧ CWH yX3_nameOf 1 := ⟨bigI 345 (by decide +kernel) rfl, bigI 346 (by decide +kernel) rfl, bigI 63 (by decide +kernel) rfl, bigI 347 (by decide +kernel) rfl, ⟨by decide +kernel, by decide +kernel, by decide +kernel⟩⟩
theorem mw_X3_turnsOf : Cond.instanceMethod yX3_turnsOf ∈ BIG ∧ Cond.selects yX3_turnsOf.cls yX3_turnsOf yX3_turnsOf ∈ BIG ∧ Cond.initialized yX3_turnsOf.cls ∈ BIG ∧ Cond.code yX3_turnsOf cX3_turnsOf 2 (some .int) ∈ BIG ∧ CWH yX3_turnsOf 1 := ⟨bigI 666 (by decide +kernel) rfl, bigI 667 (by decide +kernel) rfl, bigI 63 (by decide +kernel) rfl, bigI 668 (by decide +kernel) rfl, ⟨by decide +kernel, by decide +kernel, by decide +kernel⟩⟩
theorem mw_X3_mirrorsOf : Cond.instanceMethod yX3_mirrorsOf ∈ BIG ∧ Cond.selects yX3_mirrorsOf.cls yX3_mirrorsOf yX3_mirrorsOf ∈ BIG ∧ Cond.initialized yX3_mirrorsOf.cls ∈ BIG ∧ Cond.code yX3_mirrorsOf cX3_mirrorsOf 2 (some .int) ∈ BIG ∧ CWH yX3_mirrorsOf 1 := ⟨bigI 674 (by decide +kernel) rfl, bigI 675 (by decide +kernel) rfl, bigI 63 (by decide +kernel) rfl, bigI 676 (by decide +kernel) rfl, ⟨by decide +kernel, by decide +kernel, by decide +kernel⟩⟩
theorem mw_X3_turnsBetween : Cond.instanceMethod yX3_turnsBetween ∈ BIG ∧ Cond.selects yX3_turnsBetween.cls yX3_turnsBetween yX3_turnsBetween ∈ BIG ∧ Cond.initialized yX3_turnsBetween.cls ∈ BIG ∧ Cond.code yX3_turnsBetween cX3_turnsBetween 6 (some .int) ∈ BIG ∧ CWH yX3_turnsBetween 2 := ⟨bigI 671 (by decide +kernel) rfl, bigI 28 (by decide +kernel) rfl, bigI 63 (by decide +kernel) rfl, bigI 672 (by decide +kernel) rfl, ⟨by decide +kernel, by decide +kernel, by decide +kernel⟩⟩
theorem mw_X3_kindOf : Cond.instanceMethod yX3_kindOf ∈ BIG ∧ Cond.selects yX3_kindOf.cls yX3_kindOf yX3_kindOf ∈ BIG ∧ Cond.initialized yX3_kindOf.cls ∈ BIG ∧ Cond.code yX3_kindOf cX3_kindOf 2 (some .int) ∈ BIG ∧ CWH yX3_kindOf 1 := ⟨bigI 662 (by decide +kernel) rfl, bigI 663 (by decide +kernel) rfl, bigI 63 (by decide +kernel) rfl, bigI 664 (by decide +kernel) rfl, ⟨by decide +kernel, by decide +kernel, by decide +kernel⟩⟩
theorem mw_X3_rowFrom : Cond.instanceMethod yX3_rowFrom ∈ BIG ∧ Cond.selects yX3_rowFrom.cls yX3_rowFrom yX3_rowFrom ∈ BIG ∧ Cond.initialized yX3_rowFrom.cls ∈ BIG ∧ Cond.code yX3_rowFrom cX3_rowFrom 10 (some .long) ∈ BIG ∧ CWH yX3_rowFrom 3 := ⟨bigI 307 (by decide +kernel) rfl, bigI 308 (by decide +kernel) rfl, bigI 63 (by decide +kernel) rfl, bigI 309 (by decide +kernel) rfl, ⟨by decide +kernel, by decide +kernel, by decide +kernel⟩⟩
theorem mw_X3_viewFrom : Cond.instanceMethod yX3_viewFrom ∈ BIG ∧ Cond.selects yX3_viewFrom.cls yX3_viewFrom yX3_viewFrom ∈ BIG ∧ Cond.initialized yX3_viewFrom.cls ∈ BIG ∧ Cond.code yX3_viewFrom cX3_viewFrom 3 (some .long) ∈ BIG ∧ CWH yX3_viewFrom 2 := ⟨bigI 303 (by decide +kernel) rfl, bigI 304 (by decide +kernel) rfl, bigI 63 (by decide +kernel) rfl, bigI 305 (by decide +kernel) rfl, ⟨by decide +kernel, by decide +kernel, by decide +kernel⟩⟩
theorem mw_X3_isOfGoal : Cond.instanceMethod yX3_isOfGoal ∈ BIG ∧ Cond.selects yX3_isOfGoal.cls yX3_isOfGoal yX3_isOfGoal ∈ BIG ∧ Cond.initialized yX3_isOfGoal.cls ∈ BIG ∧ Cond.code yX3_isOfGoal cX3_isOfGoal 5 (some .boolean) ∈ BIG ∧ CWH yX3_isOfGoal 2 := ⟨bigI 362 (by decide +kernel) rfl, bigI 363 (by decide +kernel) rfl, bigI 63 (by decide +kernel) rfl, bigI 364 (by decide +kernel) rfl, ⟨by decide +kernel, by decide +kernel, by decide +kernel⟩⟩
theorem mw_X3_isSpread : Cond.instanceMethod yX3_isSpread ∈ BIG ∧ Cond.selects yX3_isSpread.cls yX3_isSpread yX3_isSpread ∈ BIG ∧ Cond.initialized yX3_isSpread.cls ∈ BIG ∧ Cond.code yX3_isSpread cX3_isSpread 5 (some .boolean) ∈ BIG ∧ CWH yX3_isSpread 2 := ⟨bigI 372 (by decide +kernel) rfl, bigI 2 (by decide +kernel) rfl, bigI 63 (by decide +kernel) rfl, bigI 373 (by decide +kernel) rfl, ⟨by decide +kernel, by decide +kernel, by decide +kernel⟩⟩
theorem mw_X3_gapAbove : Cond.instanceMethod yX3_gapAbove ∈ BIG ∧ Cond.selects yX3_gapAbove.cls yX3_gapAbove yX3_gapAbove ∈ BIG ∧ Cond.initialized yX3_gapAbove.cls ∈ BIG ∧ Cond.code yX3_gapAbove cX3_gapAbove 5 (some .int) ∈ BIG ∧ CWH yX3_gapAbove 2 := ⟨bigI 376 (by decide +kernel) rfl, bigI 3 (by decide +kernel) rfl, bigI 63 (by decide +kernel) rfl, bigI 377 (by decide +kernel) rfl, ⟨by decide +kernel, by decide +kernel, by decide +kernel⟩⟩
theorem mw_X3_isSideBySide : Cond.instanceMethod yX3_isSideBySide ∈ BIG ∧ Cond.selects yX3_isSideBySide.cls yX3_isSideBySide yX3_isSideBySide ∈ BIG ∧ Cond.initialized yX3_isSideBySide.cls ∈ BIG ∧ Cond.code yX3_isSideBySide cX3_isSideBySide 4 (some .boolean) ∈ BIG ∧ CWH yX3_isSideBySide 1 := ⟨bigI 380 (by decide +kernel) rfl, bigI 4 (by decide +kernel) rfl, bigI 63 (by decide +kernel) rfl, bigI 381 (by decide +kernel) rfl, ⟨by decide +kernel, by decide +kernel, by decide +kernel⟩⟩
theorem mw_X4_with : Cond.static yX4_with ∈ BIG ∧ Cond.initialized yX4_with.cls ∈ BIG ∧ Cond.code yX4_with cX4_with 3 (some .long) ∈ BIG ∧ CWH yX4_with 2 := ⟨bigI 315 (by decide +kernel) rfl, bigI 71 (by decide +kernel) rfl, bigI 316 (by decide +kernel) rfl, ⟨by decide +kernel, by decide +kernel, by decide +kernel⟩⟩
theorem mw_X4_item : Cond.static yX4_item ∈ BIG ∧ Cond.initialized yX4_item.cls ∈ BIG ∧ Cond.code yX4_item cX4_item 6 (some .int) ∈ BIG ∧ CWH yX4_item 2 := ⟨bigI 321 (by decide +kernel) rfl, bigI 71 (by decide +kernel) rfl, bigI 322 (by decide +kernel) rfl, ⟨by decide +kernel, by decide +kernel, by decide +kernel⟩⟩
theorem mw_X5_clear : Cond.instanceMethod yX5_clear ∈ BIG ∧ Cond.selects yX5_clear.cls yX5_clear yX5_clear ∈ BIG ∧ Cond.initialized yX5_clear.cls ∈ BIG ∧ Cond.code yX5_clear cX5_clear 1 none ∈ BIG ∧ CWH yX5_clear 0 := ⟨bigI 532 (by decide +kernel) rfl, bigI 533 (by decide +kernel) rfl, bigI 67 (by decide +kernel) rfl, bigI 534 (by decide +kernel) rfl, ⟨by decide +kernel, by decide +kernel, by decide +kernel⟩⟩
theorem mw_X5_rewind : Cond.instanceMethod yX5_rewind ∈ BIG ∧ Cond.selects yX5_rewind.cls yX5_rewind yX5_rewind ∈ BIG ∧ Cond.initialized yX5_rewind.cls ∈ BIG ∧ Cond.code yX5_rewind cX5_rewind 1 none ∈ BIG ∧ CWH yX5_rewind 0 := ⟨bigI 417 (by decide +kernel) rfl, bigI 418 (by decide +kernel) rfl, bigI 67 (by decide +kernel) rfl, bigI 419 (by decide +kernel) rfl, ⟨by decide +kernel, by decide +kernel, by decide +kernel⟩⟩
theorem mw_X5_append : Cond.instanceMethod yX5_append ∈ BIG ∧ Cond.selects yX5_append.cls yX5_append yX5_append ∈ BIG ∧ Cond.initialized yX5_append.cls ∈ BIG ∧ Cond.code yX5_append cX5_append 5 (some .boolean) ∈ BIG ∧ CWH yX5_append 2 := ⟨bigI 401 (by decide +kernel) rfl, bigI 402 (by decide +kernel) rfl, bigI 67 (by decide +kernel) rfl, bigI 403 (by decide +kernel) rfl, ⟨by decide +kernel, by decide +kernel, by decide +kernel⟩⟩
theorem mw_X5_readToken : Cond.instanceMethod yX5_readToken ∈ BIG ∧ Cond.selects yX5_readToken.cls yX5_readToken yX5_readToken ∈ BIG ∧ Cond.initialized yX5_readToken.cls ∈ BIG ∧ Cond.code yX5_readToken cX5_readToken 2 none ∈ BIG ∧ CWH yX5_readToken 0 := ⟨bigI 421 (by decide +kernel) rfl, bigI 422 (by decide +kernel) rfl, bigI 67 (by decide +kernel) rfl, bigI 423 (by decide +kernel) rfl, ⟨by decide +kernel, by decide +kernel, by decide +kernel⟩⟩
theorem mw_X5_readNumber : Cond.instanceMethod yX5_readNumber ∈ BIG ∧ Cond.selects yX5_readNumber.cls yX5_readNumber yX5_readNumber ∈ BIG ∧ Cond.initialized yX5_readNumber.cls ∈ BIG ∧ Cond.code yX5_readNumber cX5_readNumber 2 none ∈ BIG ∧ CWH yX5_readNumber 0 := ⟨bigI 437 (by decide +kernel) rfl, bigI 6 (by decide +kernel) rfl, bigI 67 (by decide +kernel) rfl, bigI 438 (by decide +kernel) rfl, ⟨by decide +kernel, by decide +kernel, by decide +kernel⟩⟩
theorem mw_X5_readName : Cond.instanceMethod yX5_readName ∈ BIG ∧ Cond.selects yX5_readName.cls yX5_readName yX5_readName ∈ BIG ∧ Cond.initialized yX5_readName.cls ∈ BIG ∧ Cond.code yX5_readName cX5_readName 1 none ∈ BIG ∧ CWH yX5_readName 0 := ⟨bigI 444 (by decide +kernel) rfl, bigI 7 (by decide +kernel) rfl, bigI 67 (by decide +kernel) rfl, bigI 445 (by decide +kernel) rfl, ⟨by decide +kernel, by decide +kernel, by decide +kernel⟩⟩
theorem mw_X5_spells : Cond.instanceMethod yX5_spells ∈ BIG ∧ Cond.selects yX5_spells.cls yX5_spells yX5_spells ∈ BIG ∧ Cond.initialized yX5_spells.cls ∈ BIG ∧ Cond.code yX5_spells cX5_spells 3 (some .boolean) ∈ BIG ∧ CWH yX5_spells 1 := ⟨bigI 449 (by decide +kernel) rfl, bigI 8 (by decide +kernel) rfl, bigI 67 (by decide +kernel) rfl, bigI 450 (by decide +kernel) rfl, ⟨by decide +kernel, by decide +kernel, by decide +kernel⟩⟩
theorem mw_X5_byteAt : Cond.instanceMethod yX5_byteAt ∈ BIG ∧ Cond.selects yX5_byteAt.cls yX5_byteAt yX5_byteAt ∈ BIG ∧ Cond.initialized yX5_byteAt.cls ∈ BIG ∧ Cond.code yX5_byteAt cX5_byteAt 2 (some .int) ∈ BIG ∧ CWH yX5_byteAt 1 := ⟨bigI 426 (by decide +kernel) rfl, bigI 5 (by decide +kernel) rfl, bigI 67 (by decide +kernel) rfl, bigI 427 (by decide +kernel) rfl, ⟨by decide +kernel, by decide +kernel, by decide +kernel⟩⟩
theorem mw_X5_isBlank : Cond.static yX5_isBlank ∈ BIG ∧ Cond.initialized yX5_isBlank.cls ∈ BIG ∧ Cond.code yX5_isBlank cX5_isBlank 1 (some .boolean) ∈ BIG ∧ CWH yX5_isBlank 1 := ⟨bigI 430 (by decide +kernel) rfl, bigI 67 (by decide +kernel) rfl, bigI 431 (by decide +kernel) rfl, ⟨by decide +kernel, by decide +kernel, by decide +kernel⟩⟩
theorem mw_X5_isFigure : Cond.static yX5_isFigure ∈ BIG ∧ Cond.initialized yX5_isFigure.cls ∈ BIG ∧ Cond.code yX5_isFigure cX5_isFigure 1 (some .boolean) ∈ BIG ∧ CWH yX5_isFigure 1 := ⟨bigI 433 (by decide +kernel) rfl, bigI 67 (by decide +kernel) rfl, bigI 434 (by decide +kernel) rfl, ⟨by decide +kernel, by decide +kernel, by decide +kernel⟩⟩
theorem mw_X5_isLetter : Cond.static yX5_isLetter ∈ BIG ∧ Cond.initialized yX5_isLetter.cls ∈ BIG ∧ Cond.code yX5_isLetter cX5_isLetter 1 (some .boolean) ∈ BIG ∧ CWH yX5_isLetter 1 := ⟨bigI 440 (by decide +kernel) rfl, bigI 67 (by decide +kernel) rfl, bigI 441 (by decide +kernel) rfl, ⟨by decide +kernel, by decide +kernel, by decide +kernel⟩⟩
theorem mw_X6_forgetRules : Cond.instanceMethod yX6_forgetRules ∈ BIG ∧ Cond.selects yX6_forgetRules.cls yX6_forgetRules yX6_forgetRules ∈ BIG ∧ Cond.initialized yX6_forgetRules.cls ∈ BIG ∧ Cond.code yX6_forgetRules cX6_forgetRules 2 none ∈ BIG ∧ CWH yX6_forgetRules 0 := ⟨bigI 538 (by decide +kernel) rfl, bigI 539 (by decide +kernel) rfl, bigI 65 (by decide +kernel) rfl, bigI 540 (by decide +kernel) rfl, ⟨by decide +kernel, by decide +kernel, by decide +kernel⟩⟩
theorem mw_X6_gatherFor : Cond.instanceMethod yX6_gatherFor ∈ BIG ∧ Cond.selects yX6_gatherFor.cls yX6_gatherFor yX6_gatherFor ∈ BIG ∧ Cond.initialized yX6_gatherFor.cls ∈ BIG ∧ Cond.code yX6_gatherFor cX6_gatherFor 2 none ∈ BIG ∧ CWH yX6_gatherFor 1 := ⟨bigI 551 (by decide +kernel) rfl, bigI 552 (by decide +kernel) rfl, bigI 65 (by decide +kernel) rfl, bigI 553 (by decide +kernel) rfl, ⟨by decide +kernel, by decide +kernel, by decide +kernel⟩⟩
theorem mw_X6_gather : Cond.instanceMethod yX6_gather ∈ BIG ∧ Cond.selects yX6_gather.cls yX6_gather yX6_gather ∈ BIG ∧ Cond.initialized yX6_gather.cls ∈ BIG ∧ Cond.code yX6_gather cX6_gather 5 none ∈ BIG ∧ CWH yX6_gather 3 := ⟨bigI 558 (by decide +kernel) rfl, bigI 14 (by decide +kernel) rfl, bigI 65 (by decide +kernel) rfl, bigI 559 (by decide +kernel) rfl, ⟨by decide +kernel, by decide +kernel, by decide +kernel⟩⟩
theorem mw_X6_markGoals : Cond.instanceMethod yX6_markGoals ∈ BIG ∧ Cond.selects yX6_markGoals.cls yX6_markGoals yX6_markGoals ∈ BIG ∧ Cond.initialized yX6_markGoals.cls ∈ BIG ∧ Cond.code yX6_markGoals cX6_markGoals 3 none ∈ BIG ∧ CWH yX6_markGoals 0 := ⟨bigI 563 (by decide +kernel) rfl, bigI 15 (by decide +kernel) rfl, bigI 65 (by decide +kernel) rfl, bigI 564 (by decide +kernel) rfl, ⟨by decide +kernel, by decide +kernel, by decide +kernel⟩⟩
theorem mw_X6_numberOf : Cond.instanceMethod yX6_numberOf ∈ BIG ∧ Cond.selects yX6_numberOf.cls yX6_numberOf yX6_numberOf ∈ BIG ∧ Cond.initialized yX6_numberOf.cls ∈ BIG ∧ Cond.code yX6_numberOf cX6_numberOf 4 (some .int) ∈ BIG ∧ CWH yX6_numberOf 1 := ⟨bigI 608 (by decide +kernel) rfl, bigI 609 (by decide +kernel) rfl, bigI 65 (by decide +kernel) rfl, bigI 610 (by decide +kernel) rfl, ⟨by decide +kernel, by decide +kernel, by decide +kernel⟩⟩
theorem mw_X6_linkBy : Cond.instanceMethod yX6_linkBy ∈ BIG ∧ Cond.selects yX6_linkBy.cls yX6_linkBy yX6_linkBy ∈ BIG ∧ Cond.initialized yX6_linkBy.cls ∈ BIG ∧ Cond.code yX6_linkBy cX6_linkBy 4 none ∈ BIG ∧ CWH yX6_linkBy 2 := ⟨bigI 568 (by decide +kernel) rfl, bigI 569 (by decide +kernel) rfl, bigI 65 (by decide +kernel) rfl, bigI 570 (by decide +kernel) rfl, ⟨by decide +kernel, by decide +kernel, by decide +kernel⟩⟩
theorem mw_X6_numbersOfNext : Cond.instanceMethod yX6_numbersOfNext ∈ BIG ∧ Cond.selects yX6_numbersOfNext.cls yX6_numbersOfNext yX6_numbersOfNext ∈ BIG ∧ Cond.initialized yX6_numbersOfNext.cls ∈ BIG ∧ Cond.code yX6_numbersOfNext cX6_numbersOfNext 4 (some .long) ∈ BIG ∧ CWH yX6_numbersOfNext 0 := ⟨bigI 605 (by decide +kernel) rfl, bigI 23 (by decide +kernel) rfl, bigI 65 (by decide +kernel) rfl, bigI 606 (by decide +kernel) rfl, ⟨by decide +kernel, by decide +kernel, by decide +kernel⟩⟩
theorem mw_X6_findMoves : Cond.instanceMethod yX6_findMoves ∈ BIG ∧ Cond.selects yX6_findMoves.cls yX6_findMoves yX6_findMoves ∈ BIG ∧ Cond.initialized yX6_findMoves.cls ∈ BIG ∧ Cond.code yX6_findMoves cX6_findMoves 5 none ∈ BIG ∧ CWH yX6_findMoves 2 := ⟨bigI 574 (by decide +kernel) rfl, bigI 16 (by decide +kernel) rfl, bigI 65 (by decide +kernel) rfl, bigI 575 (by decide +kernel) rfl, ⟨by decide +kernel, by decide +kernel, by decide +kernel⟩⟩
theorem mw_X6_addNext : Cond.instanceMethod yX6_addNext ∈ BIG ∧ Cond.selects yX6_addNext.cls yX6_addNext yX6_addNext ∈ BIG ∧ Cond.initialized yX6_addNext.cls ∈ BIG ∧ Cond.code yX6_addNext cX6_addNext 2 none ∈ BIG ∧ CWH yX6_addNext 1 := ⟨bigI 589 (by decide +kernel) rfl, bigI 19 (by decide +kernel) rfl, bigI 65 (by decide +kernel) rfl, bigI 590 (by decide +kernel) rfl, ⟨by decide +kernel, by decide +kernel, by decide +kernel⟩⟩
theorem mw_X6_addMoved : Cond.instanceMethod yX6_addMoved ∈ BIG ∧ Cond.selects yX6_addMoved.cls yX6_addMoved yX6_addMoved ∈ BIG ∧ Cond.initialized yX6_addMoved.cls ∈ BIG ∧ Cond.code yX6_addMoved cX6_addMoved 4 none ∈ BIG ∧ CWH yX6_addMoved 3 := ⟨bigI 585 (by decide +kernel) rfl, bigI 18 (by decide +kernel) rfl, bigI 65 (by decide +kernel) rfl, bigI 586 (by decide +kernel) rfl, ⟨by decide +kernel, by decide +kernel, by decide +kernel⟩⟩
theorem mw_X6_wakeOne : Cond.instanceMethod yX6_wakeOne ∈ BIG ∧ Cond.selects yX6_wakeOne.cls yX6_wakeOne yX6_wakeOne ∈ BIG ∧ Cond.initialized yX6_wakeOne.cls ∈ BIG ∧ Cond.code yX6_wakeOne cX6_wakeOne 3 none ∈ BIG ∧ CWH yX6_wakeOne 1 := ⟨bigI 581 (by decide +kernel) rfl, bigI 17 (by decide +kernel) rfl, bigI 65 (by decide +kernel) rfl, bigI 582 (by decide +kernel) rfl, ⟨by decide +kernel, by decide +kernel, by decide +kernel⟩⟩
theorem mw_X6_wakeSome : Cond.instanceMethod yX6_wakeSome ∈ BIG ∧ Cond.selects yX6_wakeSome.cls yX6_wakeSome yX6_wakeSome ∈ BIG ∧ Cond.initialized yX6_wakeSome.cls ∈ BIG ∧ Cond.code yX6_wakeSome cX6_wakeSome 8 none ∈ BIG ∧ CWH yX6_wakeSome 2 := ⟨bigI 593 (by decide +kernel) rfl, bigI 20 (by decide +kernel) rfl, bigI 65 (by decide +kernel) rfl, bigI 594 (by decide +kernel) rfl, ⟨by decide +kernel, by decide +kernel, by decide +kernel⟩⟩
theorem mw_X6_wakeAgain : Cond.instanceMethod yX6_wakeAgain ∈ BIG ∧ Cond.selects yX6_wakeAgain.cls yX6_wakeAgain yX6_wakeAgain ∈ BIG ∧ Cond.initialized yX6_wakeAgain.cls ∈ BIG ∧ Cond.code yX6_wakeAgain cX6_wakeAgain 6 none ∈ BIG ∧ CWH yX6_wakeAgain 3 := ⟨bigI 597 (by decide +kernel) rfl, bigI 21 (by decide +kernel) rfl, bigI 65 (by decide +kernel) rfl, bigI 598 (by decide +kernel) rfl, ⟨by decide +kernel, by decide +kernel, by decide +kernel⟩⟩
theorem mw_X6_dropFirst : Cond.instanceMethod yX6_dropFirst ∈ BIG ∧ Cond.selects yX6_dropFirst.cls yX6_dropFirst yX6_dropFirst ∈ BIG ∧ Cond.initialized yX6_dropFirst.cls ∈ BIG ∧ Cond.code yX6_dropFirst cX6_dropFirst 3 none ∈ BIG ∧ CWH yX6_dropFirst 1 := ⟨bigI 601 (by decide +kernel) rfl, bigI 22 (by decide +kernel) rfl, bigI 65 (by decide +kernel) rfl, bigI 602 (by decide +kernel) rfl, ⟨by decide +kernel, by decide +kernel, by decide +kernel⟩⟩
theorem mw_X6_setLinks : Cond.instanceMethod yX6_setLinks ∈ BIG ∧ Cond.selects yX6_setLinks.cls yX6_setLinks yX6_setLinks ∈ BIG ∧ Cond.initialized yX6_setLinks.cls ∈ BIG ∧ Cond.code yX6_setLinks cX6_setLinks 6 none ∈ BIG ∧ CWH yX6_setLinks 3 := ⟨bigI 613 (by decide +kernel) rfl, bigI 24 (by decide +kernel) rfl, bigI 65 (by decide +kernel) rfl, bigI 614 (by decide +kernel) rfl, ⟨by decide +kernel, by decide +kernel, by decide +kernel⟩⟩
theorem mw_X6_linksOf : Cond.instanceMethod yX6_linksOf ∈ BIG ∧ Cond.selects yX6_linksOf.cls yX6_linksOf yX6_linksOf ∈ BIG ∧ Cond.initialized yX6_linksOf.cls ∈ BIG ∧ Cond.code yX6_linksOf cX6_linksOf 4 (some .long) ∈ BIG ∧ CWH yX6_linksOf 2 := ⟨bigI 630 (by decide +kernel) rfl, bigI 27 (by decide +kernel) rfl, bigI 65 (by decide +kernel) rfl, bigI 631 (by decide +kernel) rfl, ⟨by decide +kernel, by decide +kernel, by decide +kernel⟩⟩
theorem mw_X6_ofGoal : Cond.instanceMethod yX6_ofGoal ∈ BIG ∧ Cond.selects yX6_ofGoal.cls yX6_ofGoal yX6_ofGoal ∈ BIG ∧ Cond.initialized yX6_ofGoal.cls ∈ BIG ∧ Cond.code yX6_ofGoal cX6_ofGoal 2 (some .long) ∈ BIG ∧ CWH yX6_ofGoal 1 := ⟨bigI 622 (by decide +kernel) rfl, bigI 25 (by decide +kernel) rfl, bigI 65 (by decide +kernel) rfl, bigI 623 (by decide +kernel) rfl, ⟨by decide +kernel, by decide +kernel, by decide +kernel⟩⟩
theorem mw_X6_safeByOne : Cond.instanceMethod yX6_safeByOne ∈ BIG ∧ Cond.selects yX6_safeByOne.cls yX6_safeByOne yX6_safeByOne ∈ BIG ∧ Cond.initialized yX6_safeByOne.cls ∈ BIG ∧ Cond.code yX6_safeByOne cX6_safeByOne 9 (some .long) ∈ BIG ∧ CWH yX6_safeByOne 2 := ⟨bigI 626 (by decide +kernel) rfl, bigI 26 (by decide +kernel) rfl, bigI 65 (by decide +kernel) rfl, bigI 627 (by decide +kernel) rfl, ⟨by decide +kernel, by decide +kernel, by decide +kernel⟩⟩
theorem mw_X6_working : Cond.instanceMethod yX6_working ∈ BIG ∧ Cond.selects yX6_working.cls yX6_working yX6_working ∈ BIG ∧ Cond.initialized yX6_working.cls ∈ BIG ∧ Cond.code yX6_working cX6_working 8 (some .long) ∈ BIG ∧ CWH yX6_working 2 := ⟨bigI 653 (by decide +kernel) rfl, bigI 654 (by decide +kernel) rfl, bigI 65 (by decide +kernel) rfl, bigI 655 (by decide +kernel) rfl, ⟨by decide +kernel, by decide +kernel, by decide +kernel⟩⟩
theorem mw_X6_mostSteps : Cond.instanceMethod yX6_mostSteps ∈ BIG ∧ Cond.selects yX6_mostSteps.cls yX6_mostSteps yX6_mostSteps ∈ BIG ∧ Cond.initialized yX6_mostSteps.cls ∈ BIG ∧ Cond.code yX6_mostSteps cX6_mostSteps 7 (some .int) ∈ BIG ∧ CWH yX6_mostSteps 3 := ⟨bigI 617 (by decide +kernel) rfl, bigI 618 (by decide +kernel) rfl, bigI 65 (by decide +kernel) rfl, bigI 619 (by decide +kernel) rfl, ⟨by decide +kernel, by decide +kernel, by decide +kernel⟩⟩
theorem mw_X6_reachedFrom : Cond.instanceMethod yX6_reachedFrom ∈ BIG ∧ Cond.selects yX6_reachedFrom.cls yX6_reachedFrom yX6_reachedFrom ∈ BIG ∧ Cond.initialized yX6_reachedFrom.cls ∈ BIG ∧ Cond.code yX6_reachedFrom cX6_reachedFrom 10 (some .long) ∈ BIG ∧ CWH yX6_reachedFrom 3 := ⟨bigI 635 (by decide +kernel) rfl, bigI 636 (by decide +kernel) rfl, bigI 65 (by decide +kernel) rfl, bigI 637 (by decide +kernel) rfl, ⟨by decide +kernel, by decide +kernel, by decide +kernel⟩⟩
theorem mw_X6_countReached : Cond.instanceMethod yX6_countReached ∈ BIG ∧ Cond.selects yX6_countReached.cls yX6_countReached yX6_countReached ∈ BIG ∧ Cond.initialized yX6_countReached.cls ∈ BIG ∧ Cond.code yX6_countReached cX6_countReached 8 (some .int) ∈ BIG ∧ CWH yX6_countReached 4 := ⟨bigI 639 (by decide +kernel) rfl, bigI 640 (by decide +kernel) rfl, bigI 65 (by decide +kernel) rfl, bigI 641 (by decide +kernel) rfl, ⟨by decide +kernel, by decide +kernel, by decide +kernel⟩⟩
theorem mw_X7_robot : Cond.instanceMethod yX7_robot ∈ BIG ∧ Cond.selects yX7_robot.cls yX7_robot yX7_robot ∈ BIG ∧ Cond.initialized yX7_robot.cls ∈ BIG ∧ Cond.code yX7_robot cX7_robot 3 (some .int) ∈ BIG ∧ CWH yX7_robot 1 := ⟨bigI 264 (by decide +kernel) rfl, bigI 265 (by decide +kernel) rfl, bigI 62 (by decide +kernel) rfl, bigI 266 (by decide +kernel) rfl, ⟨by decide +kernel, by decide +kernel, by decide +kernel⟩⟩
theorem mw_X7_wipe : Cond.instanceMethod yX7_wipe ∈ BIG ∧ Cond.selects yX7_wipe.cls yX7_wipe yX7_wipe ∈ BIG ∧ Cond.initialized yX7_wipe.cls ∈ BIG ∧ Cond.code yX7_wipe cX7_wipe 2 (some .int) ∈ BIG ∧ CWH yX7_wipe 0 := ⟨bigI 289 (by decide +kernel) rfl, bigI 290 (by decide +kernel) rfl, bigI 62 (by decide +kernel) rfl, bigI 291 (by decide +kernel) rfl, ⟨by decide +kernel, by decide +kernel, by decide +kernel⟩⟩
theorem mw_X7_at : Cond.instanceMethod yX7_at ∈ BIG ∧ Cond.selects yX7_at.cls yX7_at yX7_at ∈ BIG ∧ Cond.initialized yX7_at.cls ∈ BIG ∧ Cond.code yX7_at cX7_at 2 (some .int) ∈ BIG ∧ CWH yX7_at 1 := ⟨bigI 293 (by decide +kernel) rfl, bigI 294 (by decide +kernel) rfl, bigI 62 (by decide +kernel) rfl, bigI 295 (by decide +kernel) rfl, ⟨by decide +kernel, by decide +kernel, by decide +kernel⟩⟩
theorem mw_X7_view : Cond.instanceMethod yX7_view ∈ BIG ∧ Cond.selects yX7_view.cls yX7_view yX7_view ∈ BIG ∧ Cond.initialized yX7_view.cls ∈ BIG ∧ Cond.code yX7_view cX7_view 3 (some .int) ∈ BIG ∧ CWH yX7_view 2 := ⟨bigI 298 (by decide +kernel) rfl, bigI 299 (by decide +kernel) rfl, bigI 62 (by decide +kernel) rfl, bigI 300 (by decide +kernel) rfl, ⟨by decide +kernel, by decide +kernel, by decide +kernel⟩⟩
theorem mw_X7_does : Cond.instanceMethod yX7_does ∈ BIG ∧ Cond.selects yX7_does.cls yX7_does yX7_does ∈ BIG ∧ Cond.initialized yX7_does.cls ∈ BIG ∧ Cond.code yX7_does cX7_does 2 (some .int) ∈ BIG ∧ CWH yX7_does 1 := ⟨bigI 326 (by decide +kernel) rfl, bigI 327 (by decide +kernel) rfl, bigI 62 (by decide +kernel) rfl, bigI 328 (by decide +kernel) rfl, ⟨by decide +kernel, by decide +kernel, by decide +kernel⟩⟩
theorem mw_X7_name : Cond.instanceMethod yX7_name ∈ BIG ∧ Cond.selects yX7_name.cls yX7_name yX7_name ∈ BIG ∧ Cond.initialized yX7_name.cls ∈ BIG ∧ Cond.code yX7_name cX7_name 2 (some .int) ∈ BIG ∧ CWH yX7_name 1 := ⟨bigI 341 (by decide +kernel) rfl, bigI 342 (by decide +kernel) rfl, bigI 62 (by decide +kernel) rfl, bigI 343 (by decide +kernel) rfl, ⟨by decide +kernel, by decide +kernel, by decide +kernel⟩⟩
theorem mw_X7_goal : Cond.instanceMethod yX7_goal ∈ BIG ∧ Cond.selects yX7_goal.cls yX7_goal yX7_goal ∈ BIG ∧ Cond.initialized yX7_goal.cls ∈ BIG ∧ Cond.code yX7_goal cX7_goal 2 (some .int) ∈ BIG ∧ CWH yX7_goal 1 := ⟨bigI 358 (by decide +kernel) rfl, bigI 359 (by decide +kernel) rfl, bigI 62 (by decide +kernel) rfl, bigI 360 (by decide +kernel) rfl, ⟨by decide +kernel, by decide +kernel, by decide +kernel⟩⟩
theorem mw_X7_step : Cond.instanceMethod yX7_step ∈ BIG ∧ Cond.selects yX7_step.cls yX7_step yX7_step ∈ BIG ∧ Cond.initialized yX7_step.cls ∈ BIG ∧ Cond.code yX7_step cX7_step 6 (some .int) ∈ BIG ∧ CWH yX7_step 0 := ⟨bigI 383 (by decide +kernel) rfl, bigI 384 (by decide +kernel) rfl, bigI 62 (by decide +kernel) rfl, bigI 385 (by decide +kernel) rfl, ⟨by decide +kernel, by decide +kernel, by decide +kernel⟩⟩
theorem mw_X7_go : Cond.instanceMethod yX7_go ∈ BIG ∧ Cond.selects yX7_go.cls yX7_go yX7_go ∈ BIG ∧ Cond.initialized yX7_go.cls ∈ BIG ∧ Cond.code yX7_go cX7_go 4 (some .int) ∈ BIG ∧ CWH yX7_go 2 := ⟨bigI 393 (by decide +kernel) rfl, bigI 394 (by decide +kernel) rfl, bigI 62 (by decide +kernel) rfl, bigI 395 (by decide +kernel) rfl, ⟨by decide +kernel, by decide +kernel, by decide +kernel⟩⟩
theorem mw_X7_feed : Cond.instanceMethod yX7_feed ∈ BIG ∧ Cond.selects yX7_feed.cls yX7_feed yX7_feed ∈ BIG ∧ Cond.initialized yX7_feed.cls ∈ BIG ∧ Cond.code yX7_feed cX7_feed 4 (some .int) ∈ BIG ∧ CWH yX7_feed 2 := ⟨bigI 397 (by decide +kernel) rfl, bigI 398 (by decide +kernel) rfl, bigI 62 (by decide +kernel) rfl, bigI 399 (by decide +kernel) rfl, ⟨by decide +kernel, by decide +kernel, by decide +kernel⟩⟩
theorem mw_X7_rules : Cond.instanceMethod yX7_rules ∈ BIG ∧ Cond.selects yX7_rules.cls yX7_rules yX7_rules ∈ BIG ∧ Cond.initialized yX7_rules.cls ∈ BIG ∧ Cond.code yX7_rules cX7_rules 4 (some .int) ∈ BIG ∧ CWH yX7_rules 0 := ⟨bigI 405 (by decide +kernel) rfl, bigI 406 (by decide +kernel) rfl, bigI 62 (by decide +kernel) rfl, bigI 407 (by decide +kernel) rfl, ⟨by decide +kernel, by decide +kernel, by decide +kernel⟩⟩
theorem mw_X7_fault : Cond.instanceMethod yX7_fault ∈ BIG ∧ Cond.selects yX7_fault.cls yX7_fault yX7_fault ∈ BIG ∧ Cond.initialized yX7_fault.cls ∈ BIG ∧ Cond.code yX7_fault cX7_fault 1 (some .int) ∈ BIG ∧ CWH yX7_fault 0 := ⟨bigI 543 (by decide +kernel) rfl, bigI 544 (by decide +kernel) rfl, bigI 62 (by decide +kernel) rfl, bigI 545 (by decide +kernel) rfl, ⟨by decide +kernel, by decide +kernel, by decide +kernel⟩⟩
theorem mw_X7_proves : Cond.instanceMethod yX7_proves ∈ BIG ∧ Cond.selects yX7_proves.cls yX7_proves yX7_proves ∈ BIG ∧ Cond.initialized yX7_proves.cls ∈ BIG ∧ Cond.code yX7_proves cX7_proves 5 (some .int) ∈ BIG ∧ CWH yX7_proves 3 := ⟨bigI 547 (by decide +kernel) rfl, bigI 548 (by decide +kernel) rfl, bigI 62 (by decide +kernel) rfl, bigI 549 (by decide +kernel) rfl, ⟨by decide +kernel, by decide +kernel, by decide +kernel⟩⟩
theorem mw_X7_starts : Cond.instanceMethod yX7_starts ∈ BIG ∧ Cond.selects yX7_starts.cls yX7_starts yX7_starts ∈ BIG ∧ Cond.initialized yX7_starts.cls ∈ BIG ∧ Cond.code yX7_starts cX7_starts 4 (some .int) ∈ BIG ∧ CWH yX7_starts 3 := ⟨bigI 649 (by decide +kernel) rfl, bigI 650 (by decide +kernel) rfl, bigI 62 (by decide +kernel) rfl, bigI 651 (by decide +kernel) rfl, ⟨by decide +kernel, by decide +kernel, by decide +kernel⟩⟩
theorem mw_X7_kind : Cond.instanceMethod yX7_kind ∈ BIG ∧ Cond.selects yX7_kind.cls yX7_kind yX7_kind ∈ BIG ∧ Cond.initialized yX7_kind.cls ∈ BIG ∧ Cond.code yX7_kind cX7_kind 1 (some .int) ∈ BIG ∧ CWH yX7_kind 0 := ⟨bigI 658 (by decide +kernel) rfl, bigI 659 (by decide +kernel) rfl, bigI 62 (by decide +kernel) rfl, bigI 660 (by decide +kernel) rfl, ⟨by decide +kernel, by decide +kernel, by decide +kernel⟩⟩
theorem mw_X7_as : Cond.instanceMethod yX7_as ∈ BIG ∧ Cond.selects yX7_as.cls yX7_as yX7_as ∈ BIG ∧ Cond.initialized yX7_as.cls ∈ BIG ∧ Cond.code yX7_as cX7_as 2 (some .int) ∈ BIG ∧ CWH yX7_as 1 := ⟨bigI 678 (by decide +kernel) rfl, bigI 679 (by decide +kernel) rfl, bigI 62 (by decide +kernel) rfl, bigI 680 (by decide +kernel) rfl, ⟨by decide +kernel, by decide +kernel, by decide +kernel⟩⟩
theorem mw_X7_ask : Cond.instanceMethod yX7_ask ∈ BIG ∧ Cond.selects yX7_ask.cls yX7_ask yX7_ask ∈ BIG ∧ Cond.initialized yX7_ask.cls ∈ BIG ∧ Cond.code yX7_ask cX7_ask 2 (some .int) ∈ BIG ∧ CWH yX7_ask 1 := ⟨bigI 683 (by decide +kernel) rfl, bigI 684 (by decide +kernel) rfl, bigI 62 (by decide +kernel) rfl, bigI 685 (by decide +kernel) rfl, ⟨by decide +kernel, by decide +kernel, by decide +kernel⟩⟩
theorem mw_X7_trace : Cond.instanceMethod yX7_trace ∈ BIG ∧ Cond.selects yX7_trace.cls yX7_trace yX7_trace ∈ BIG ∧ Cond.initialized yX7_trace.cls ∈ BIG ∧ Cond.code yX7_trace cX7_trace 2 (some .int) ∈ BIG ∧ CWH yX7_trace 1 := ⟨bigI 715 (by decide +kernel) rfl, bigI 716 (by decide +kernel) rfl, bigI 62 (by decide +kernel) rfl, bigI 717 (by decide +kernel) rfl, ⟨by decide +kernel, by decide +kernel, by decide +kernel⟩⟩
theorem mw_X7_count : Cond.instanceMethod yX7_count ∈ BIG ∧ Cond.selects yX7_count.cls yX7_count yX7_count ∈ BIG ∧ Cond.initialized yX7_count.cls ∈ BIG ∧ Cond.code yX7_count cX7_count 2 (some .int) ∈ BIG ∧ CWH yX7_count 1 := ⟨bigI 725 (by decide +kernel) rfl, bigI 726 (by decide +kernel) rfl, bigI 62 (by decide +kernel) rfl, bigI 727 (by decide +kernel) rfl, ⟨by decide +kernel, by decide +kernel, by decide +kernel⟩⟩
theorem mw_X7_noPlace : Cond.instanceMethod yX7_noPlace ∈ BIG ∧ Cond.selects yX7_noPlace.cls yX7_noPlace yX7_noPlace ∈ BIG ∧ Cond.initialized yX7_noPlace.cls ∈ BIG ∧ Cond.code yX7_noPlace cX7_noPlace 2 (some .boolean) ∈ BIG ∧ CWH yX7_noPlace 1 := ⟨bigI 269 (by decide +kernel) rfl, bigI 0 (by decide +kernel) rfl, bigI 62 (by decide +kernel) rfl, bigI 270 (by decide +kernel) rfl, ⟨by decide +kernel, by decide +kernel, by decide +kernel⟩⟩
theorem mw_X7_outside : Cond.static yX7_outside ∈ BIG ∧ Cond.initialized yX7_outside.cls ∈ BIG ∧ Cond.code yX7_outside cX7_outside 2 (some .boolean) ∈ BIG ∧ CWH yX7_outside 2 := ⟨bigI 272 (by decide +kernel) rfl, bigI 62 (by decide +kernel) rfl, bigI 273 (by decide +kernel) rfl, ⟨by decide +kernel, by decide +kernel, by decide +kernel⟩⟩
theorem mw_X8_in : Cond.static yX8_in ∈ BIG ∧ Cond.initialized yX8_in.cls ∈ BIG ∧ Cond.code yX8_in cX8_in 6 (some .boolean) ∈ BIG ∧ CWH yX8_in 3 := ⟨bigI 873 (by decide +kernel) rfl, bigI 70 (by decide +kernel) rfl, bigI 874 (by decide +kernel) rfl, ⟨by decide +kernel, by decide +kernel, by decide +kernel⟩⟩
theorem mw_X8_isPlace : Cond.instanceMethod yX8_isPlace ∈ BIG ∧ Cond.selects yX8_isPlace.cls yX8_isPlace yX8_isPlace ∈ BIG ∧ Cond.initialized yX8_isPlace.cls ∈ BIG ∧ Cond.code yX8_isPlace cX8_isPlace 2 (some .boolean) ∈ BIG ∧ CWH yX8_isPlace 1 := ⟨bigI 870 (by decide +kernel) rfl, bigI 34 (by decide +kernel) rfl, bigI 70 (by decide +kernel) rfl, bigI 871 (by decide +kernel) rfl, ⟨by decide +kernel, by decide +kernel, by decide +kernel⟩⟩
theorem mw_X8_robot : Cond.instanceMethod yX8_robot ∈ BIG ∧ Cond.selects yX8_robot.cls yX8_robot yX8_robot ∈ BIG ∧ Cond.initialized yX8_robot.cls ∈ BIG ∧ Cond.code yX8_robot cX8_robot 2 (some .int) ∈ BIG ∧ CWH yX8_robot 1 := ⟨bigI 865 (by decide +kernel) rfl, bigI 866 (by decide +kernel) rfl, bigI 70 (by decide +kernel) rfl, bigI 867 (by decide +kernel) rfl, ⟨by decide +kernel, by decide +kernel, by decide +kernel⟩⟩
theorem mw_X8_wipe : Cond.instanceMethod yX8_wipe ∈ BIG ∧ Cond.selects yX8_wipe.cls yX8_wipe yX8_wipe ∈ BIG ∧ Cond.initialized yX8_wipe.cls ∈ BIG ∧ Cond.code yX8_wipe cX8_wipe 3 (some .int) ∈ BIG ∧ CWH yX8_wipe 0 := ⟨bigI 878 (by decide +kernel) rfl, bigI 879 (by decide +kernel) rfl, bigI 70 (by decide +kernel) rfl, bigI 880 (by decide +kernel) rfl, ⟨by decide +kernel, by decide +kernel, by decide +kernel⟩⟩
theorem mw_X8_at : Cond.instanceMethod yX8_at ∈ BIG ∧ Cond.selects yX8_at.cls yX8_at yX8_at ∈ BIG ∧ Cond.initialized yX8_at.cls ∈ BIG ∧ Cond.code yX8_at cX8_at 2 (some .int) ∈ BIG ∧ CWH yX8_at 1 := ⟨bigI 882 (by decide +kernel) rfl, bigI 883 (by decide +kernel) rfl, bigI 70 (by decide +kernel) rfl, bigI 884 (by decide +kernel) rfl, ⟨by decide +kernel, by decide +kernel, by decide +kernel⟩⟩
theorem mw_X8_take : Cond.instanceMethod yX8_take ∈ BIG ∧ Cond.selects yX8_take.cls yX8_take yX8_take ∈ BIG ∧ Cond.initialized yX8_take.cls ∈ BIG ∧ Cond.code yX8_take cX8_take 2 none ∈ BIG ∧ CWH yX8_take 0 := ⟨bigI 892 (by decide +kernel) rfl, bigI 35 (by decide +kernel) rfl, bigI 70 (by decide +kernel) rfl, bigI 893 (by decide +kernel) rfl, ⟨by decide +kernel, by decide +kernel, by decide +kernel⟩⟩
theorem mw_X8_rowFrom : Cond.instanceMethod yX8_rowFrom ∈ BIG ∧ Cond.selects yX8_rowFrom.cls yX8_rowFrom yX8_rowFrom ∈ BIG ∧ Cond.initialized yX8_rowFrom.cls ∈ BIG ∧ Cond.code yX8_rowFrom cX8_rowFrom 8 (some .int) ∈ BIG ∧ CWH yX8_rowFrom 3 := ⟨bigI 900 (by decide +kernel) rfl, bigI 37 (by decide +kernel) rfl, bigI 70 (by decide +kernel) rfl, bigI 901 (by decide +kernel) rfl, ⟨by decide +kernel, by decide +kernel, by decide +kernel⟩⟩
theorem mw_X8_look : Cond.instanceMethod yX8_look ∈ BIG ∧ Cond.selects yX8_look.cls yX8_look yX8_look ∈ BIG ∧ Cond.initialized yX8_look.cls ∈ BIG ∧ Cond.code yX8_look cX8_look 5 (some .int) ∈ BIG ∧ CWH yX8_look 1 := ⟨bigI 896 (by decide +kernel) rfl, bigI 36 (by decide +kernel) rfl, bigI 70 (by decide +kernel) rfl, bigI 897 (by decide +kernel) rfl, ⟨by decide +kernel, by decide +kernel, by decide +kernel⟩⟩
theorem mw_X8_view : Cond.instanceMethod yX8_view ∈ BIG ∧ Cond.selects yX8_view.cls yX8_view yX8_view ∈ BIG ∧ Cond.initialized yX8_view.cls ∈ BIG ∧ Cond.code yX8_view cX8_view 4 (some .int) ∈ BIG ∧ CWH yX8_view 2 := ⟨bigI 886 (by decide +kernel) rfl, bigI 887 (by decide +kernel) rfl, bigI 70 (by decide +kernel) rfl, bigI 888 (by decide +kernel) rfl, ⟨by decide +kernel, by decide +kernel, by decide +kernel⟩⟩
theorem mw_X8_doing : Cond.instanceMethod yX8_doing ∈ BIG ∧ Cond.selects yX8_doing.cls yX8_doing yX8_doing ∈ BIG ∧ Cond.initialized yX8_doing.cls ∈ BIG ∧ Cond.code yX8_doing cX8_doing 7 (some .int) ∈ BIG ∧ CWH yX8_doing 1 := ⟨bigI 908 (by decide +kernel) rfl, bigI 38 (by decide +kernel) rfl, bigI 70 (by decide +kernel) rfl, bigI 909 (by decide +kernel) rfl, ⟨by decide +kernel, by decide +kernel, by decide +kernel⟩⟩
theorem mw_X8_does : Cond.instanceMethod yX8_does ∈ BIG ∧ Cond.selects yX8_does.cls yX8_does yX8_does ∈ BIG ∧ Cond.initialized yX8_does.cls ∈ BIG ∧ Cond.code yX8_does cX8_does 2 (some .int) ∈ BIG ∧ CWH yX8_does 1 := ⟨bigI 903 (by decide +kernel) rfl, bigI 904 (by decide +kernel) rfl, bigI 70 (by decide +kernel) rfl, bigI 905 (by decide +kernel) rfl, ⟨by decide +kernel, by decide +kernel, by decide +kernel⟩⟩
theorem mw_X8_seen : Cond.instanceMethod yX8_seen ∈ BIG ∧ Cond.selects yX8_seen.cls yX8_seen yX8_seen ∈ BIG ∧ Cond.initialized yX8_seen.cls ∈ BIG ∧ Cond.code yX8_seen cX8_seen 4 (some .int) ∈ BIG ∧ CWH yX8_seen 3 := ⟨bigI 920 (by decide +kernel) rfl, bigI 40 (by decide +kernel) rfl, bigI 70 (by decide +kernel) rfl, bigI 921 (by decide +kernel) rfl, ⟨by decide +kernel, by decide +kernel, by decide +kernel⟩⟩
theorem mw_X8_findName : Cond.instanceMethod yX8_findName ∈ BIG ∧ Cond.selects yX8_findName.cls yX8_findName yX8_findName ∈ BIG ∧ Cond.initialized yX8_findName.cls ∈ BIG ∧ Cond.code yX8_findName cX8_findName 5 none ∈ BIG ∧ CWH yX8_findName 0 := ⟨bigI 916 (by decide +kernel) rfl, bigI 39 (by decide +kernel) rfl, bigI 70 (by decide +kernel) rfl, bigI 917 (by decide +kernel) rfl, ⟨by decide +kernel, by decide +kernel, by decide +kernel⟩⟩
theorem mw_X8_same : Cond.instanceMethod yX8_same ∈ BIG ∧ Cond.selects yX8_same.cls yX8_same yX8_same ∈ BIG ∧ Cond.initialized yX8_same.cls ∈ BIG ∧ Cond.code yX8_same cX8_same 6 (some .int) ∈ BIG ∧ CWH yX8_same 1 := ⟨bigI 1040 (by decide +kernel) rfl, bigI 57 (by decide +kernel) rfl, bigI 70 (by decide +kernel) rfl, bigI 1041 (by decide +kernel) rfl, ⟨by decide +kernel, by decide +kernel, by decide +kernel⟩⟩
theorem mw_X8_name : Cond.instanceMethod yX8_name ∈ BIG ∧ Cond.selects yX8_name.cls yX8_name yX8_name ∈ BIG ∧ Cond.initialized yX8_name.cls ∈ BIG ∧ Cond.code yX8_name cX8_name 2 (some .int) ∈ BIG ∧ CWH yX8_name 1 := ⟨bigI 911 (by decide +kernel) rfl, bigI 912 (by decide +kernel) rfl, bigI 70 (by decide +kernel) rfl, bigI 913 (by decide +kernel) rfl, ⟨by decide +kernel, by decide +kernel, by decide +kernel⟩⟩
theorem mw_X8_isGoal : Cond.instanceMethod yX8_isGoal ∈ BIG ∧ Cond.selects yX8_isGoal.cls yX8_isGoal yX8_isGoal ∈ BIG ∧ Cond.initialized yX8_isGoal.cls ∈ BIG ∧ Cond.code yX8_isGoal cX8_isGoal 10 (some .boolean) ∈ BIG ∧ CWH yX8_isGoal 2 := ⟨bigI 929 (by decide +kernel) rfl, bigI 41 (by decide +kernel) rfl, bigI 70 (by decide +kernel) rfl, bigI 930 (by decide +kernel) rfl, ⟨by decide +kernel, by decide +kernel, by decide +kernel⟩⟩
theorem mw_X8_goal : Cond.instanceMethod yX8_goal ∈ BIG ∧ Cond.selects yX8_goal.cls yX8_goal yX8_goal ∈ BIG ∧ Cond.initialized yX8_goal.cls ∈ BIG ∧ Cond.code yX8_goal cX8_goal 2 (some .int) ∈ BIG ∧ CWH yX8_goal 1 := ⟨bigI 923 (by decide +kernel) rfl, bigI 924 (by decide +kernel) rfl, bigI 70 (by decide +kernel) rfl, bigI 925 (by decide +kernel) rfl, ⟨by decide +kernel, by decide +kernel, by decide +kernel⟩⟩
theorem mw_X8_step : Cond.instanceMethod yX8_step ∈ BIG ∧ Cond.selects yX8_step.cls yX8_step yX8_step ∈ BIG ∧ Cond.initialized yX8_step.cls ∈ BIG ∧ Cond.code yX8_step cX8_step 4 (some .int) ∈ BIG ∧ CWH yX8_step 0 := ⟨bigI 932 (by decide +kernel) rfl, bigI 933 (by decide +kernel) rfl, bigI 70 (by decide +kernel) rfl, bigI 934 (by decide +kernel) rfl, ⟨by decide +kernel, by decide +kernel, by decide +kernel⟩⟩
theorem mw_X8_go : Cond.instanceMethod yX8_go ∈ BIG ∧ Cond.selects yX8_go.cls yX8_go yX8_go ∈ BIG ∧ Cond.initialized yX8_go.cls ∈ BIG ∧ Cond.code yX8_go cX8_go 5 (some .int) ∈ BIG ∧ CWH yX8_go 2 := ⟨bigI 937 (by decide +kernel) rfl, bigI 938 (by decide +kernel) rfl, bigI 70 (by decide +kernel) rfl, bigI 939 (by decide +kernel) rfl, ⟨by decide +kernel, by decide +kernel, by decide +kernel⟩⟩
theorem mw_X8_feed : Cond.instanceMethod yX8_feed ∈ BIG ∧ Cond.selects yX8_feed.cls yX8_feed yX8_feed ∈ BIG ∧ Cond.initialized yX8_feed.cls ∈ BIG ∧ Cond.code yX8_feed cX8_feed 5 (some .int) ∈ BIG ∧ CWH yX8_feed 2 := ⟨bigI 941 (by decide +kernel) rfl, bigI 942 (by decide +kernel) rfl, bigI 70 (by decide +kernel) rfl, bigI 943 (by decide +kernel) rfl, ⟨by decide +kernel, by decide +kernel, by decide +kernel⟩⟩
theorem mw_X8_byteAt : Cond.instanceMethod yX8_byteAt ∈ BIG ∧ Cond.selects yX8_byteAt.cls yX8_byteAt yX8_byteAt ∈ BIG ∧ Cond.initialized yX8_byteAt.cls ∈ BIG ∧ Cond.code yX8_byteAt cX8_byteAt 2 (some .int) ∈ BIG ∧ CWH yX8_byteAt 1 := ⟨bigI 956 (by decide +kernel) rfl, bigI 43 (by decide +kernel) rfl, bigI 70 (by decide +kernel) rfl, bigI 957 (by decide +kernel) rfl, ⟨by decide +kernel, by decide +kernel, by decide +kernel⟩⟩
theorem mw_X8_isLetter : Cond.static yX8_isLetter ∈ BIG ∧ Cond.initialized yX8_isLetter.cls ∈ BIG ∧ Cond.code yX8_isLetter cX8_isLetter 1 (some .boolean) ∈ BIG ∧ CWH yX8_isLetter 1 := ⟨bigI 959 (by decide +kernel) rfl, bigI 70 (by decide +kernel) rfl, bigI 960 (by decide +kernel) rfl, ⟨by decide +kernel, by decide +kernel, by decide +kernel⟩⟩
theorem mw_X8_isFigure : Cond.static yX8_isFigure ∈ BIG ∧ Cond.initialized yX8_isFigure.cls ∈ BIG ∧ Cond.code yX8_isFigure cX8_isFigure 1 (some .boolean) ∈ BIG ∧ CWH yX8_isFigure 1 := ⟨bigI 962 (by decide +kernel) rfl, bigI 70 (by decide +kernel) rfl, bigI 963 (by decide +kernel) rfl, ⟨by decide +kernel, by decide +kernel, by decide +kernel⟩⟩
theorem mw_X8_next : Cond.instanceMethod yX8_next ∈ BIG ∧ Cond.selects yX8_next.cls yX8_next yX8_next ∈ BIG ∧ Cond.initialized yX8_next.cls ∈ BIG ∧ Cond.code yX8_next cX8_next 2 none ∈ BIG ∧ CWH yX8_next 0 := ⟨bigI 952 (by decide +kernel) rfl, bigI 42 (by decide +kernel) rfl, bigI 70 (by decide +kernel) rfl, bigI 953 (by decide +kernel) rfl, ⟨by decide +kernel, by decide +kernel, by decide +kernel⟩⟩
theorem mw_X8_bad : Cond.instanceMethod yX8_bad ∈ BIG ∧ Cond.selects yX8_bad.cls yX8_bad yX8_bad ∈ BIG ∧ Cond.initialized yX8_bad.cls ∈ BIG ∧ Cond.code yX8_bad cX8_bad 2 none ∈ BIG ∧ CWH yX8_bad 1 := ⟨bigI 975 (by decide +kernel) rfl, bigI 46 (by decide +kernel) rfl, bigI 70 (by decide +kernel) rfl, bigI 976 (by decide +kernel) rfl, ⟨by decide +kernel, by decide +kernel, by decide +kernel⟩⟩
theorem mw_X8_need : Cond.instanceMethod yX8_need ∈ BIG ∧ Cond.selects yX8_need.cls yX8_need yX8_need ∈ BIG ∧ Cond.initialized yX8_need.cls ∈ BIG ∧ Cond.code yX8_need cX8_need 2 none ∈ BIG ∧ CWH yX8_need 1 := ⟨bigI 979 (by decide +kernel) rfl, bigI 47 (by decide +kernel) rfl, bigI 70 (by decide +kernel) rfl, bigI 980 (by decide +kernel) rfl, ⟨by decide +kernel, by decide +kernel, by decide +kernel⟩⟩
theorem mw_X8_is : Cond.instanceMethod yX8_is ∈ BIG ∧ Cond.selects yX8_is.cls yX8_is yX8_is ∈ BIG ∧ Cond.initialized yX8_is.cls ∈ BIG ∧ Cond.code yX8_is cX8_is 2 (some .boolean) ∈ BIG ∧ CWH yX8_is 1 := ⟨bigI 991 (by decide +kernel) rfl, bigI 50 (by decide +kernel) rfl, bigI 70 (by decide +kernel) rfl, bigI 992 (by decide +kernel) rfl, ⟨by decide +kernel, by decide +kernel, by decide +kernel⟩⟩
theorem mw_X8_word : Cond.instanceMethod yX8_word ∈ BIG ∧ Cond.selects yX8_word.cls yX8_word yX8_word ∈ BIG ∧ Cond.initialized yX8_word.cls ∈ BIG ∧ Cond.code yX8_word cX8_word 4 (some .long) ∈ BIG ∧ CWH yX8_word 0 := ⟨bigI 970 (by decide +kernel) rfl, bigI 45 (by decide +kernel) rfl, bigI 70 (by decide +kernel) rfl, bigI 971 (by decide +kernel) rfl, ⟨by decide +kernel, by decide +kernel, by decide +kernel⟩⟩
theorem mw_X8_aNumber : Cond.instanceMethod yX8_aNumber ∈ BIG ∧ Cond.selects yX8_aNumber.cls yX8_aNumber yX8_aNumber ∈ BIG ∧ Cond.initialized yX8_aNumber.cls ∈ BIG ∧ Cond.code yX8_aNumber cX8_aNumber 3 (some .int) ∈ BIG ∧ CWH yX8_aNumber 0 := ⟨bigI 987 (by decide +kernel) rfl, bigI 49 (by decide +kernel) rfl, bigI 70 (by decide +kernel) rfl, bigI 988 (by decide +kernel) rfl, ⟨by decide +kernel, by decide +kernel, by decide +kernel⟩⟩
theorem mw_X8_readPair : Cond.instanceMethod yX8_readPair ∈ BIG ∧ Cond.selects yX8_readPair.cls yX8_readPair yX8_readPair ∈ BIG ∧ Cond.initialized yX8_readPair.cls ∈ BIG ∧ Cond.code yX8_readPair cX8_readPair 4 none ∈ BIG ∧ CWH yX8_readPair 1 := ⟨bigI 983 (by decide +kernel) rfl, bigI 48 (by decide +kernel) rfl, bigI 70 (by decide +kernel) rfl, bigI 984 (by decide +kernel) rfl, ⟨by decide +kernel, by decide +kernel, by decide +kernel⟩⟩
theorem mw_X8_isRead : Cond.instanceMethod yX8_isRead ∈ BIG ∧ Cond.selects yX8_isRead.cls yX8_isRead yX8_isRead ∈ BIG ∧ Cond.initialized yX8_isRead.cls ∈ BIG ∧ Cond.code yX8_isRead cX8_isRead 6 (some .boolean) ∈ BIG ∧ CWH yX8_isRead 1 := ⟨bigI 998 (by decide +kernel) rfl, bigI 51 (by decide +kernel) rfl, bigI 70 (by decide +kernel) rfl, bigI 999 (by decide +kernel) rfl, ⟨by decide +kernel, by decide +kernel, by decide +kernel⟩⟩
theorem mw_X8_readRule : Cond.instanceMethod yX8_readRule ∈ BIG ∧ Cond.selects yX8_readRule.cls yX8_readRule yX8_readRule ∈ BIG ∧ Cond.initialized yX8_readRule.cls ∈ BIG ∧ Cond.code yX8_readRule cX8_readRule 6 none ∈ BIG ∧ CWH yX8_readRule 0 := ⟨bigI 966 (by decide +kernel) rfl, bigI 44 (by decide +kernel) rfl, bigI 70 (by decide +kernel) rfl, bigI 967 (by decide +kernel) rfl, ⟨by decide +kernel, by decide +kernel, by decide +kernel⟩⟩
theorem mw_X8_rules : Cond.instanceMethod yX8_rules ∈ BIG ∧ Cond.selects yX8_rules.cls yX8_rules yX8_rules ∈ BIG ∧ Cond.initialized yX8_rules.cls ∈ BIG ∧ Cond.code yX8_rules cX8_rules 3 (some .int) ∈ BIG ∧ CWH yX8_rules 0 := ⟨bigI 947 (by decide +kernel) rfl, bigI 948 (by decide +kernel) rfl, bigI 70 (by decide +kernel) rfl, bigI 949 (by decide +kernel) rfl, ⟨by decide +kernel, by decide +kernel, by decide +kernel⟩⟩
theorem mw_X8_fault : Cond.instanceMethod yX8_fault ∈ BIG ∧ Cond.selects yX8_fault.cls yX8_fault yX8_fault ∈ BIG ∧ Cond.initialized yX8_fault.cls ∈ BIG ∧ Cond.code yX8_fault cX8_fault 1 (some .int) ∈ BIG ∧ CWH yX8_fault 0 := ⟨bigI 1002 (by decide +kernel) rfl, bigI 1003 (by decide +kernel) rfl, bigI 70 (by decide +kernel) rfl, bigI 1004 (by decide +kernel) rfl, ⟨by decide +kernel, by decide +kernel, by decide +kernel⟩⟩
theorem mw_X8_numberOfName : Cond.instanceMethod yX8_numberOfName ∈ BIG ∧ Cond.selects yX8_numberOfName.cls yX8_numberOfName yX8_numberOfName ∈ BIG ∧ Cond.initialized yX8_numberOfName.cls ∈ BIG ∧ Cond.code yX8_numberOfName cX8_numberOfName 5 (some .int) ∈ BIG ∧ CWH yX8_numberOfName 0 := ⟨bigI 1020 (by decide +kernel) rfl, bigI 54 (by decide +kernel) rfl, bigI 70 (by decide +kernel) rfl, bigI 1021 (by decide +kernel) rfl, ⟨by decide +kernel, by decide +kernel, by decide +kernel⟩⟩
theorem mw_X8_listCrowds : Cond.instanceMethod yX8_listCrowds ∈ BIG ∧ Cond.selects yX8_listCrowds.cls yX8_listCrowds yX8_listCrowds ∈ BIG ∧ Cond.initialized yX8_listCrowds.cls ∈ BIG ∧ Cond.code yX8_listCrowds cX8_listCrowds 6 none ∈ BIG ∧ CWH yX8_listCrowds 0 := ⟨bigI 1016 (by decide +kernel) rfl, bigI 53 (by decide +kernel) rfl, bigI 70 (by decide +kernel) rfl, bigI 1017 (by decide +kernel) rfl, ⟨by decide +kernel, by decide +kernel, by decide +kernel⟩⟩
theorem mw_X8_findSteps : Cond.instanceMethod yX8_findSteps ∈ BIG ∧ Cond.selects yX8_findSteps.cls yX8_findSteps yX8_findSteps ∈ BIG ∧ Cond.initialized yX8_findSteps.cls ∈ BIG ∧ Cond.code yX8_findSteps cX8_findSteps 9 none ∈ BIG ∧ CWH yX8_findSteps 2 := ⟨bigI 1024 (by decide +kernel) rfl, bigI 55 (by decide +kernel) rfl, bigI 70 (by decide +kernel) rfl, bigI 1025 (by decide +kernel) rfl, ⟨by decide +kernel, by decide +kernel, by decide +kernel⟩⟩
theorem mw_X8_prove : Cond.instanceMethod yX8_prove ∈ BIG ∧ Cond.selects yX8_prove.cls yX8_prove yX8_prove ∈ BIG ∧ Cond.initialized yX8_prove.cls ∈ BIG ∧ Cond.code yX8_prove cX8_prove 8 none ∈ BIG ∧ CWH yX8_prove 2 := ⟨bigI 1012 (by decide +kernel) rfl, bigI 52 (by decide +kernel) rfl, bigI 70 (by decide +kernel) rfl, bigI 1013 (by decide +kernel) rfl, ⟨by decide +kernel, by decide +kernel, by decide +kernel⟩⟩
theorem mw_X8_proves : Cond.instanceMethod yX8_proves ∈ BIG ∧ Cond.selects yX8_proves.cls yX8_proves yX8_proves ∈ BIG ∧ Cond.initialized yX8_proves.cls ∈ BIG ∧ Cond.code yX8_proves cX8_proves 10 (some .int) ∈ BIG ∧ CWH yX8_proves 3 := ⟨bigI 1006 (by decide +kernel) rfl, bigI 1007 (by decide +kernel) rfl, bigI 70 (by decide +kernel) rfl, bigI 1008 (by decide +kernel) rfl, ⟨by decide +kernel, by decide +kernel, by decide +kernel⟩⟩
theorem mw_X8_starts : Cond.instanceMethod yX8_starts ∈ BIG ∧ Cond.selects yX8_starts.cls yX8_starts yX8_starts ∈ BIG ∧ Cond.initialized yX8_starts.cls ∈ BIG ∧ Cond.code yX8_starts cX8_starts 6 (some .int) ∈ BIG ∧ CWH yX8_starts 3 := ⟨bigI 1027 (by decide +kernel) rfl, bigI 1028 (by decide +kernel) rfl, bigI 70 (by decide +kernel) rfl, bigI 1029 (by decide +kernel) rfl, ⟨by decide +kernel, by decide +kernel, by decide +kernel⟩⟩
theorem mw_X8_kindNow : Cond.instanceMethod yX8_kindNow ∈ BIG ∧ Cond.selects yX8_kindNow.cls yX8_kindNow yX8_kindNow ∈ BIG ∧ Cond.initialized yX8_kindNow.cls ∈ BIG ∧ Cond.code yX8_kindNow cX8_kindNow 1 (some .int) ∈ BIG ∧ CWH yX8_kindNow 0 := ⟨bigI 1036 (by decide +kernel) rfl, bigI 56 (by decide +kernel) rfl, bigI 70 (by decide +kernel) rfl, bigI 1037 (by decide +kernel) rfl, ⟨by decide +kernel, by decide +kernel, by decide +kernel⟩⟩
theorem mw_X8_kind : Cond.instanceMethod yX8_kind ∈ BIG ∧ Cond.selects yX8_kind.cls yX8_kind yX8_kind ∈ BIG ∧ Cond.initialized yX8_kind.cls ∈ BIG ∧ Cond.code yX8_kind cX8_kind 1 (some .int) ∈ BIG ∧ CWH yX8_kind 0 := ⟨bigI 1031 (by decide +kernel) rfl, bigI 1032 (by decide +kernel) rfl, bigI 70 (by decide +kernel) rfl, bigI 1033 (by decide +kernel) rfl, ⟨by decide +kernel, by decide +kernel, by decide +kernel⟩⟩
theorem mw_X8_as : Cond.instanceMethod yX8_as ∈ BIG ∧ Cond.selects yX8_as.cls yX8_as yX8_as ∈ BIG ∧ Cond.initialized yX8_as.cls ∈ BIG ∧ Cond.code yX8_as cX8_as 2 (some .int) ∈ BIG ∧ CWH yX8_as 1 := ⟨bigI 1043 (by decide +kernel) rfl, bigI 1044 (by decide +kernel) rfl, bigI 70 (by decide +kernel) rfl, bigI 1045 (by decide +kernel) rfl, ⟨by decide +kernel, by decide +kernel, by decide +kernel⟩⟩
theorem mw_X8_began : Cond.instanceMethod yX8_began ∈ BIG ∧ Cond.selects yX8_began.cls yX8_began yX8_began ∈ BIG ∧ Cond.initialized yX8_began.cls ∈ BIG ∧ Cond.code yX8_began cX8_began 2 none ∈ BIG ∧ CWH yX8_began 1 := ⟨bigI 1058 (by decide +kernel) rfl, bigI 59 (by decide +kernel) rfl, bigI 70 (by decide +kernel) rfl, bigI 1059 (by decide +kernel) rfl, ⟨by decide +kernel, by decide +kernel, by decide +kernel⟩⟩
theorem mw_X8_sized : Cond.instanceMethod yX8_sized ∈ BIG ∧ Cond.selects yX8_sized.cls yX8_sized yX8_sized ∈ BIG ∧ Cond.initialized yX8_sized.cls ∈ BIG ∧ Cond.code yX8_sized cX8_sized 2 (some .int) ∈ BIG ∧ CWH yX8_sized 1 := ⟨bigI 1054 (by decide +kernel) rfl, bigI 58 (by decide +kernel) rfl, bigI 70 (by decide +kernel) rfl, bigI 1055 (by decide +kernel) rfl, ⟨by decide +kernel, by decide +kernel, by decide +kernel⟩⟩
theorem mw_X8_places : Cond.instanceMethod yX8_places ∈ BIG ∧ Cond.selects yX8_places.cls yX8_places yX8_places ∈ BIG ∧ Cond.initialized yX8_places.cls ∈ BIG ∧ Cond.code yX8_places cX8_places 3 (some .int) ∈ BIG ∧ CWH yX8_places 0 := ⟨bigI 1062 (by decide +kernel) rfl, bigI 60 (by decide +kernel) rfl, bigI 70 (by decide +kernel) rfl, bigI 1063 (by decide +kernel) rfl, ⟨by decide +kernel, by decide +kernel, by decide +kernel⟩⟩
theorem mw_X8_ask : Cond.instanceMethod yX8_ask ∈ BIG ∧ Cond.selects yX8_ask.cls yX8_ask yX8_ask ∈ BIG ∧ Cond.initialized yX8_ask.cls ∈ BIG ∧ Cond.code yX8_ask cX8_ask 4 (some .int) ∈ BIG ∧ CWH yX8_ask 1 := ⟨bigI 1049 (by decide +kernel) rfl, bigI 1050 (by decide +kernel) rfl, bigI 70 (by decide +kernel) rfl, bigI 1051 (by decide +kernel) rfl, ⟨by decide +kernel, by decide +kernel, by decide +kernel⟩⟩
theorem mw_X8_trace : Cond.instanceMethod yX8_trace ∈ BIG ∧ Cond.selects yX8_trace.cls yX8_trace yX8_trace ∈ BIG ∧ Cond.initialized yX8_trace.cls ∈ BIG ∧ Cond.code yX8_trace cX8_trace 2 (some .int) ∈ BIG ∧ CWH yX8_trace 1 := ⟨bigI 1065 (by decide +kernel) rfl, bigI 1066 (by decide +kernel) rfl, bigI 70 (by decide +kernel) rfl, bigI 1067 (by decide +kernel) rfl, ⟨by decide +kernel, by decide +kernel, by decide +kernel⟩⟩
theorem mw_X8_count : Cond.instanceMethod yX8_count ∈ BIG ∧ Cond.selects yX8_count.cls yX8_count yX8_count ∈ BIG ∧ Cond.initialized yX8_count.cls ∈ BIG ∧ Cond.code yX8_count cX8_count 2 (some .int) ∈ BIG ∧ CWH yX8_count 1 := ⟨bigI 1069 (by decide +kernel) rfl, bigI 1070 (by decide +kernel) rfl, bigI 70 (by decide +kernel) rfl, bigI 1071 (by decide +kernel) rfl, ⟨by decide +kernel, by decide +kernel, by decide +kernel⟩⟩
theorem mw_J13_bitCount_95d88 : Cond.static yJ13_bitCount_95d88 ∈ BIG ∧ Cond.initialized yJ13_bitCount_95d88.cls ∈ BIG ∧ Cond.code yJ13_bitCount_95d88 cJ13_bitCount_95d88 2 (some .int) ∈ BIG ∧ CWH yJ13_bitCount_95d88 1 := ⟨bigI 643 (by decide +kernel) rfl, bigI 76 (by decide +kernel) rfl, bigI 644 (by decide +kernel) rfl, ⟨by decide +kernel, by decide +kernel, by decide +kernel⟩⟩
theorem mw_J9_max_7cf53 : Cond.static yJ9_max_7cf53 ∈ BIG ∧ Cond.initialized yJ9_max_7cf53.cls ∈ BIG ∧ Cond.code yJ9_max_7cf53 cJ9_max_7cf53 2 (some .int) ∈ BIG ∧ CWH yJ9_max_7cf53 2 := ⟨bigI 91 (by decide +kernel) rfl, bigI 64 (by decide +kernel) rfl, bigI 92 (by decide +kernel) rfl, ⟨by decide +kernel, by decide +kernel, by decide +kernel⟩⟩
theorem mw_J9_min_7cf53 : Cond.static yJ9_min_7cf53 ∈ BIG ∧ Cond.initialized yJ9_min_7cf53.cls ∈ BIG ∧ Cond.code yJ9_min_7cf53 cJ9_min_7cf53 2 (some .int) ∈ BIG ∧ CWH yJ9_min_7cf53 2 := ⟨bigI 88 (by decide +kernel) rfl, bigI 64 (by decide +kernel) rfl, bigI 89 (by decide +kernel) rfl, ⟨by decide +kernel, by decide +kernel, by decide +kernel⟩⟩
theorem mw_J9_min_f86c9 : Cond.static yJ9_min_f86c9 ∈ BIG ∧ Cond.initialized yJ9_min_f86c9.cls ∈ BIG ∧ Cond.code yJ9_min_f86c9 cJ9_min_f86c9 4 (some .long) ∈ BIG ∧ CWH yJ9_min_f86c9 2 := ⟨bigI 318 (by decide +kernel) rfl, bigI 64 (by decide +kernel) rfl, bigI 319 (by decide +kernel) rfl, ⟨by decide +kernel, by decide +kernel, by decide +kernel⟩⟩
theorem cw_X7_11 : CWS RX7 11 yJ9_min_7cf53 cJ9_min_7cf53 2 (some .int) 2 := ⟨bigI 87 (by decide +kernel) rfl, mw_J9_min_7cf53⟩
theorem cw_X7_17 : CWS RX7 17 yJ9_max_7cf53 cJ9_max_7cf53 2 (some .int) 2 := ⟨bigI 90 (by decide +kernel) rfl, mw_J9_max_7cf53⟩
theorem cw_L_21 : CWV RL 21 yX7_robot cX7_robot 3 (some .int) 1 := ⟨bigI 263 (by decide +kernel) rfl, mw_X7_robot⟩
theorem cw_X7_76 : CWV RX7 76 yX7_noPlace cX7_noPlace 2 (some .boolean) 1 := ⟨bigI 267 (by decide +kernel) rfl, mw_X7_noPlace⟩
theorem cw_X7_110 : CWS RX7 110 yX7_outside cX7_outside 2 (some .boolean) 2 := ⟨bigI 271 (by decide +kernel) rfl, mw_X7_outside⟩
theorem cw_X7_81 : CWV RX7 81 yX3_robotsIn cX3_robotsIn 4 (some .int) 1 := ⟨bigI 275 (by decide +kernel) rfl, mw_X3_robotsIn⟩
theorem cw_X3_26 : CWV RX3 26 yX3_manyAt cX3_manyAt 3 (some .int) 2 := ⟨bigI 279 (by decide +kernel) rfl, mw_X3_manyAt⟩
theorem cw_X7_86 : CWV RX7 86 yX3_oneAt cX3_oneAt 2 (some .int) 1 := ⟨bigI 284 (by decide +kernel) rfl, mw_X3_oneAt⟩
theorem cw_L_26 : CWV RL 26 yX7_wipe cX7_wipe 2 (some .int) 0 := ⟨bigI 288 (by decide +kernel) rfl, mw_X7_wipe⟩
theorem cw_L_31 : CWV RL 31 yX7_at cX7_at 2 (some .int) 1 := ⟨bigI 292 (by decide +kernel) rfl, mw_X7_at⟩
theorem cw_X7_89 : CWV RX7 89 yX3_manyAt cX3_manyAt 3 (some .int) 2 := ⟨bigI 296 (by decide +kernel) rfl, mw_X3_manyAt⟩
theorem cw_L_35 : CWV RL 35 yX7_view cX7_view 3 (some .int) 2 := ⟨bigI 297 (by decide +kernel) rfl, mw_X7_view⟩
theorem cw_X7_93 : CWV RX7 93 yX3_viewFrom cX3_viewFrom 3 (some .long) 2 := ⟨bigI 302 (by decide +kernel) rfl, mw_X3_viewFrom⟩
theorem cw_X3_55 : CWV RX3 55 yX3_rowFrom cX3_rowFrom 10 (some .long) 3 := ⟨bigI 306 (by decide +kernel) rfl, mw_X3_rowFrom⟩
theorem cw_X3_18 : CWV RX3 18 yX3_beside cX3_beside 4 (some .int) 2 := ⟨bigI 310 (by decide +kernel) rfl, mw_X3_beside⟩
theorem cw_X3_49 : CWS RX3 49 yX4_with cX4_with 3 (some .long) 2 := ⟨bigI 314 (by decide +kernel) rfl, mw_X4_with⟩
theorem cw_X3_59 : CWS RX3 59 yJ9_min_f86c9 cJ9_min_f86c9 4 (some .long) 2 := ⟨bigI 317 (by decide +kernel) rfl, mw_J9_min_f86c9⟩
theorem cw_X7_97 : CWS RX7 97 yX4_item cX4_item 6 (some .int) 2 := ⟨bigI 320 (by decide +kernel) rfl, mw_X4_item⟩
theorem cw_L_40 : CWV RL 40 yX7_does cX7_does 2 (some .int) 1 := ⟨bigI 325 (by decide +kernel) rfl, mw_X7_does⟩
theorem cw_X7_103 : CWV RX7 103 yX1_moveAt cX1_moveAt 10 (some .int) 3 := ⟨bigI 329 (by decide +kernel) rfl, mw_X1_moveAt⟩
theorem cw_X1_27 : CWV RX1 27 yX3_rowFrom cX3_rowFrom 10 (some .long) 3 := ⟨bigI 333 (by decide +kernel) rfl, mw_X3_rowFrom⟩
theorem cw_X1_33 : CWS RX1 33 yJ9_min_f86c9 cJ9_min_f86c9 4 (some .long) 2 := ⟨bigI 334 (by decide +kernel) rfl, mw_J9_min_f86c9⟩
theorem cw_X1_23 : CWV RX1 23 yX1_find cX1_find 4 (some .int) 1 := ⟨bigI 335 (by decide +kernel) rfl, mw_X1_find⟩
theorem cw_L_44 : CWV RL 44 yX7_name cX7_name 2 (some .int) 1 := ⟨bigI 340 (by decide +kernel) rfl, mw_X7_name⟩
theorem cw_X7_107 : CWV RX7 107 yX3_nameOf cX3_nameOf 6 (some .int) 1 := ⟨bigI 344 (by decide +kernel) rfl, mw_X3_nameOf⟩
theorem cw_X3_29 : CWV RX3 29 yX3_mirrored cX3_mirrored 4 (some .int) 1 := ⟨bigI 348 (by decide +kernel) rfl, mw_X3_mirrored⟩
theorem cw_X3_32 : CWS RX3 32 yJ9_max_7cf53 cJ9_max_7cf53 2 (some .int) 2 := ⟨bigI 352 (by decide +kernel) rfl, mw_J9_max_7cf53⟩
theorem cw_X3_37 : CWV RX3 37 yX3_turned cX3_turned 2 (some .int) 1 := ⟨bigI 353 (by decide +kernel) rfl, mw_X3_turned⟩
theorem cw_L_48 : CWV RL 48 yX7_goal cX7_goal 2 (some .int) 1 := ⟨bigI 357 (by decide +kernel) rfl, mw_X7_goal⟩
theorem cw_X7_114 : CWV RX7 114 yX3_isOfGoal cX3_isOfGoal 5 (some .boolean) 2 := ⟨bigI 361 (by decide +kernel) rfl, mw_X3_isOfGoal⟩
theorem cw_X3_63 : CWV RX3 63 yX3_robotsIn cX3_robotsIn 4 (some .int) 1 := ⟨bigI 365 (by decide +kernel) rfl, mw_X3_robotsIn⟩
theorem cw_X3_66 : CWV RX3 66 yX3_takenIn cX3_takenIn 4 (some .int) 1 := ⟨bigI 366 (by decide +kernel) rfl, mw_X3_takenIn⟩
theorem cw_X3_69 : CWV RX3 69 yX3_isSpread cX3_isSpread 5 (some .boolean) 2 := ⟨bigI 370 (by decide +kernel) rfl, mw_X3_isSpread⟩
theorem cw_X3_77 : CWV RX3 77 yX3_gapAbove cX3_gapAbove 5 (some .int) 2 := ⟨bigI 374 (by decide +kernel) rfl, mw_X3_gapAbove⟩
theorem cw_X3_73 : CWV RX3 73 yX3_isSideBySide cX3_isSideBySide 4 (some .boolean) 1 := ⟨bigI 378 (by decide +kernel) rfl, mw_X3_isSideBySide⟩
theorem cw_L_52 : CWV RL 52 yX7_step cX7_step 6 (some .int) 0 := ⟨bigI 382 (by decide +kernel) rfl, mw_X7_step⟩
theorem cw_X7_121 : CWV RX7 121 yX3_shift cX3_shift 3 (some .int) 2 := ⟨bigI 387 (by decide +kernel) rfl, mw_X3_shift⟩
theorem cw_X3_22 : CWV RX3 22 yX3_oneAt cX3_oneAt 2 (some .int) 1 := ⟨bigI 391 (by decide +kernel) rfl, mw_X3_oneAt⟩
theorem cw_L_56 : CWV RL 56 yX7_go cX7_go 4 (some .int) 2 := ⟨bigI 392 (by decide +kernel) rfl, mw_X7_go⟩
theorem cw_L_62 : CWV RL 62 yX7_feed cX7_feed 4 (some .int) 2 := ⟨bigI 396 (by decide +kernel) rfl, mw_X7_feed⟩
theorem cw_X7_124 : CWV RX7 124 yX5_append cX5_append 5 (some .boolean) 2 := ⟨bigI 400 (by decide +kernel) rfl, mw_X5_append⟩
theorem cw_L_67 : CWV RL 67 yX7_rules cX7_rules 4 (some .int) 0 := ⟨bigI 404 (by decide +kernel) rfl, mw_X7_rules⟩
theorem cw_X7_131 : CWV RX7 131 yX2_read cX2_read 4 (some .int) 1 := ⟨bigI 408 (by decide +kernel) rfl, mw_X2_read⟩
theorem cw_X2_29 : CWV RX2 29 yX1_clear cX1_clear 1 none 0 := ⟨bigI 412 (by decide +kernel) rfl, mw_X1_clear⟩
theorem cw_X2_34 : CWV RX2 34 yX5_rewind cX5_rewind 1 none 0 := ⟨bigI 416 (by decide +kernel) rfl, mw_X5_rewind⟩
theorem cw_X2_39 : CWV RX2 39 yX5_readToken cX5_readToken 2 none 0 := ⟨bigI 420 (by decide +kernel) rfl, mw_X5_readToken⟩
theorem cw_X5_34 : CWV RX5 34 yX5_byteAt cX5_byteAt 2 (some .int) 1 := ⟨bigI 424 (by decide +kernel) rfl, mw_X5_byteAt⟩
theorem cw_X5_38 : CWS RX5 38 yX5_isBlank cX5_isBlank 1 (some .boolean) 1 := ⟨bigI 429 (by decide +kernel) rfl, mw_X5_isBlank⟩
theorem cw_X5_42 : CWS RX5 42 yX5_isFigure cX5_isFigure 1 (some .boolean) 1 := ⟨bigI 432 (by decide +kernel) rfl, mw_X5_isFigure⟩
theorem cw_X5_45 : CWV RX5 45 yX5_readNumber cX5_readNumber 2 none 0 := ⟨bigI 435 (by decide +kernel) rfl, mw_X5_readNumber⟩
theorem cw_X5_48 : CWS RX5 48 yX5_isLetter cX5_isLetter 1 (some .boolean) 1 := ⟨bigI 439 (by decide +kernel) rfl, mw_X5_isLetter⟩
theorem cw_X5_51 : CWV RX5 51 yX5_readName cX5_readName 1 none 0 := ⟨bigI 442 (by decide +kernel) rfl, mw_X5_readName⟩
theorem cw_X5_56 : CWV RX5 56 yX5_spells cX5_spells 3 (some .boolean) 1 := ⟨bigI 447 (by decide +kernel) rfl, mw_X5_spells⟩
theorem cw_X2_42 : CWV RX2 42 yX2_faultAgainst cX2_faultAgainst 2 (some .int) 1 := ⟨bigI 502 (by decide +kernel) rfl, mw_X2_faultAgainst⟩
theorem cw_X2_53 : CWV RX2 53 yX2_isPlaced cX2_isPlaced 1 (some .boolean) 0 := ⟨bigI 506 (by decide +kernel) rfl, mw_X2_isPlaced⟩
theorem cw_X2_60 : CWV RX2 60 yX2_isTooMuch cX2_isTooMuch 2 (some .boolean) 1 := ⟨bigI 510 (by decide +kernel) rfl, mw_X2_isTooMuch⟩
theorem cw_X2_64 : CWV RX2 64 yX1_has cX1_has 3 (some .boolean) 1 := ⟨bigI 514 (by decide +kernel) rfl, mw_X1_has⟩
theorem cw_X2_49 : CWV RX2 49 yX2_take cX2_take 2 none 1 := ⟨bigI 518 (by decide +kernel) rfl, mw_X2_take⟩
theorem cw_X2_68 : CWV RX2 68 yX2_takeNumber cX2_takeNumber 1 none 0 := ⟨bigI 522 (by decide +kernel) rfl, mw_X2_takeNumber⟩
theorem cw_X2_75 : CWS RX2 75 yX4_with cX4_with 3 (some .long) 2 := ⟨bigI 526 (by decide +kernel) rfl, mw_X4_with⟩
theorem cw_X2_71 : CWV RX2 71 yX1_put cX1_put 4 none 2 := ⟨bigI 527 (by decide +kernel) rfl, mw_X1_put⟩
theorem cw_X7_138 : CWV RX7 138 yX5_clear cX5_clear 1 none 0 := ⟨bigI 531 (by decide +kernel) rfl, mw_X5_clear⟩
theorem cw_X5_31 : CWV RX5 31 yX5_rewind cX5_rewind 1 none 0 := ⟨bigI 535 (by decide +kernel) rfl, mw_X5_rewind⟩
theorem cw_X7_142 : CWV RX7 142 yX6_forgetRules cX6_forgetRules 2 none 0 := ⟨bigI 537 (by decide +kernel) rfl, mw_X6_forgetRules⟩
theorem cw_L_71 : CWV RL 71 yX7_fault cX7_fault 1 (some .int) 0 := ⟨bigI 542 (by decide +kernel) rfl, mw_X7_fault⟩
theorem cw_L_75 : CWV RL 75 yX7_proves cX7_proves 5 (some .int) 3 := ⟨bigI 546 (by decide +kernel) rfl, mw_X7_proves⟩
theorem cw_X7_148 : CWV RX7 148 yX6_gatherFor cX6_gatherFor 2 none 1 := ⟨bigI 550 (by decide +kernel) rfl, mw_X6_gatherFor⟩
theorem cw_X6_49 : CWV RX6 49 yX3_oneAt cX3_oneAt 2 (some .int) 1 := ⟨bigI 554 (by decide +kernel) rfl, mw_X3_oneAt⟩
theorem cw_X6_55 : CWS RX6 55 yJ9_min_7cf53 cJ9_min_7cf53 2 (some .int) 2 := ⟨bigI 555 (by decide +kernel) rfl, mw_J9_min_7cf53⟩
theorem cw_X6_61 : CWV RX6 61 yX6_gather cX6_gather 5 none 3 := ⟨bigI 556 (by decide +kernel) rfl, mw_X6_gather⟩
theorem cw_X6_71 : CWV RX6 71 yX3_nameOf cX3_nameOf 6 (some .int) 1 := ⟨bigI 560 (by decide +kernel) rfl, mw_X3_nameOf⟩
theorem cw_X6_65 : CWV RX6 65 yX6_markGoals cX6_markGoals 3 none 0 := ⟨bigI 561 (by decide +kernel) rfl, mw_X6_markGoals⟩
theorem cw_X6_77 : CWV RX6 77 yX3_isOfGoal cX3_isOfGoal 5 (some .boolean) 2 := ⟨bigI 565 (by decide +kernel) rfl, mw_X3_isOfGoal⟩
theorem cw_X6_68 : CWV RX6 68 yX6_forgetRules cX6_forgetRules 2 none 0 := ⟨bigI 566 (by decide +kernel) rfl, mw_X6_forgetRules⟩
theorem cw_X7_151 : CWV RX7 151 yX6_linkBy cX6_linkBy 4 none 2 := ⟨bigI 567 (by decide +kernel) rfl, mw_X6_linkBy⟩
theorem cw_X6_84 : CWV RX6 84 yX6_findMoves cX6_findMoves 5 none 2 := ⟨bigI 572 (by decide +kernel) rfl, mw_X6_findMoves⟩
theorem cw_X6_107 : CWV RX6 107 yX3_manyAt cX3_manyAt 3 (some .int) 2 := ⟨bigI 576 (by decide +kernel) rfl, mw_X3_manyAt⟩
theorem cw_X6_110 : CWV RX6 110 yX1_moveAt cX1_moveAt 10 (some .int) 3 := ⟨bigI 577 (by decide +kernel) rfl, mw_X1_moveAt⟩
theorem cw_X6_116 : CWV RX6 116 yX3_shift cX3_shift 3 (some .int) 2 := ⟨bigI 578 (by decide +kernel) rfl, mw_X3_shift⟩
theorem cw_X6_88 : CWV RX6 88 yX6_wakeOne cX6_wakeOne 3 none 1 := ⟨bigI 579 (by decide +kernel) rfl, mw_X6_wakeOne⟩
theorem cw_X6_122 : CWV RX6 122 yX6_addMoved cX6_addMoved 4 none 3 := ⟨bigI 583 (by decide +kernel) rfl, mw_X6_addMoved⟩
theorem cw_X6_119 : CWV RX6 119 yX6_addNext cX6_addNext 2 none 1 := ⟨bigI 587 (by decide +kernel) rfl, mw_X6_addNext⟩
theorem cw_X6_92 : CWV RX6 92 yX6_wakeSome cX6_wakeSome 8 none 2 := ⟨bigI 591 (by decide +kernel) rfl, mw_X6_wakeSome⟩
theorem cw_X6_125 : CWV RX6 125 yX6_wakeAgain cX6_wakeAgain 6 none 3 := ⟨bigI 595 (by decide +kernel) rfl, mw_X6_wakeAgain⟩
theorem cw_X6_129 : CWV RX6 129 yX6_dropFirst cX6_dropFirst 3 none 1 := ⟨bigI 599 (by decide +kernel) rfl, mw_X6_dropFirst⟩
theorem cw_X6_96 : CWV RX6 96 yX6_numbersOfNext cX6_numbersOfNext 4 (some .long) 0 := ⟨bigI 603 (by decide +kernel) rfl, mw_X6_numbersOfNext⟩
theorem cw_X6_104 : CWV RX6 104 yX6_numberOf cX6_numberOf 4 (some .int) 1 := ⟨bigI 607 (by decide +kernel) rfl, mw_X6_numberOf⟩
theorem cw_X6_100 : CWV RX6 100 yX6_setLinks cX6_setLinks 6 none 3 := ⟨bigI 611 (by decide +kernel) rfl, mw_X6_setLinks⟩
theorem cw_X7_155 : CWV RX7 155 yX6_numberOf cX6_numberOf 4 (some .int) 1 := ⟨bigI 615 (by decide +kernel) rfl, mw_X6_numberOf⟩
theorem cw_X7_158 : CWV RX7 158 yX6_mostSteps cX6_mostSteps 7 (some .int) 3 := ⟨bigI 616 (by decide +kernel) rfl, mw_X6_mostSteps⟩
theorem cw_X6_138 : CWV RX6 138 yX6_ofGoal cX6_ofGoal 2 (some .long) 1 := ⟨bigI 620 (by decide +kernel) rfl, mw_X6_ofGoal⟩
theorem cw_X6_142 : CWV RX6 142 yX6_safeByOne cX6_safeByOne 9 (some .long) 2 := ⟨bigI 624 (by decide +kernel) rfl, mw_X6_safeByOne⟩
theorem cw_X6_132 : CWV RX6 132 yX6_linksOf cX6_linksOf 4 (some .long) 2 := ⟨bigI 628 (by decide +kernel) rfl, mw_X6_linksOf⟩
theorem cw_X7_162 : CWV RX7 162 yX6_reachedFrom cX6_reachedFrom 10 (some .long) 3 := ⟨bigI 634 (by decide +kernel) rfl, mw_X6_reachedFrom⟩
theorem cw_X7_166 : CWV RX7 166 yX6_countReached cX6_countReached 8 (some .int) 4 := ⟨bigI 638 (by decide +kernel) rfl, mw_X6_countReached⟩
theorem cw_X6_147 : CWS RX6 147 yJ13_bitCount_95d88 cJ13_bitCount_95d88 2 (some .int) 1 := ⟨bigI 642 (by decide +kernel) rfl, mw_J13_bitCount_95d88⟩
theorem cw_L_80 : CWV RL 80 yX7_starts cX7_starts 4 (some .int) 3 := ⟨bigI 648 (by decide +kernel) rfl, mw_X7_starts⟩
theorem cw_X7_171 : CWV RX7 171 yX6_working cX6_working 8 (some .long) 2 := ⟨bigI 652 (by decide +kernel) rfl, mw_X6_working⟩
theorem cw_X7_174 : CWS RX7 174 yJ13_bitCount_95d88 cJ13_bitCount_95d88 2 (some .int) 1 := ⟨bigI 656 (by decide +kernel) rfl, mw_J13_bitCount_95d88⟩
theorem cw_L_84 : CWV RL 84 yX7_kind cX7_kind 1 (some .int) 0 := ⟨bigI 657 (by decide +kernel) rfl, mw_X7_kind⟩
theorem cw_X7_180 : CWV RX7 180 yX3_kindOf cX3_kindOf 2 (some .int) 1 := ⟨bigI 661 (by decide +kernel) rfl, mw_X3_kindOf⟩
theorem cw_X3_43 : CWV RX3 43 yX3_turnsOf cX3_turnsOf 2 (some .int) 1 := ⟨bigI 665 (by decide +kernel) rfl, mw_X3_turnsOf⟩
theorem cw_X3_40 : CWV RX3 40 yX3_turnsBetween cX3_turnsBetween 6 (some .int) 2 := ⟨bigI 669 (by decide +kernel) rfl, mw_X3_turnsBetween⟩
theorem cw_X3_46 : CWV RX3 46 yX3_mirrorsOf cX3_mirrorsOf 2 (some .int) 1 := ⟨bigI 673 (by decide +kernel) rfl, mw_X3_mirrorsOf⟩
theorem cw_L_88 : CWV RL 88 yX7_as cX7_as 2 (some .int) 1 := ⟨bigI 677 (by decide +kernel) rfl, mw_X7_as⟩
theorem cw_L_92 : CWV RL 92 yX7_ask cX7_ask 2 (some .int) 1 := ⟨bigI 682 (by decide +kernel) rfl, mw_X7_ask⟩
theorem cw_X7_184 : CWV RX7 184 yX0_answer cX0_answer 3 (some .int) 2 := ⟨bigI 686 (by decide +kernel) rfl, mw_X0_answer⟩
theorem cw_X0_23 : CWV RX0 23 yX0_sizeOf cX0_sizeOf 2 (some .int) 1 := ⟨bigI 690 (by decide +kernel) rfl, mw_X0_sizeOf⟩
theorem cw_X0_35 : CWV RX0 35 yX3_kindOf cX3_kindOf 2 (some .int) 1 := ⟨bigI 694 (by decide +kernel) rfl, mw_X3_kindOf⟩
theorem cw_X0_40 : CWV RX0 40 yX0_begin cX0_begin 2 none 1 := ⟨bigI 695 (by decide +kernel) rfl, mw_X0_begin⟩
theorem cw_X0_44 : CWV RX0 44 yX0_lentSize cX0_lentSize 2 (some .int) 1 := ⟨bigI 699 (by decide +kernel) rfl, mw_X0_lentSize⟩
theorem cw_X0_53 : CWV RX0 53 yX3_robotsIn cX3_robotsIn 4 (some .int) 1 := ⟨bigI 703 (by decide +kernel) rfl, mw_X3_robotsIn⟩
theorem cw_X0_50 : CWV RX0 50 yX3_turnsOf cX3_turnsOf 2 (some .int) 1 := ⟨bigI 704 (by decide +kernel) rfl, mw_X3_turnsOf⟩
theorem cw_X0_27 : CWV RX0 27 yX0_markOf cX0_markOf 2 (some .int) 1 := ⟨bigI 705 (by decide +kernel) rfl, mw_X0_markOf⟩
theorem cw_X0_56 : CWV RX0 56 yX0_lentMark cX0_lentMark 2 (some .int) 1 := ⟨bigI 709 (by decide +kernel) rfl, mw_X0_lentMark⟩
theorem cw_X0_59 : CWV RX0 59 yX3_takenIn cX3_takenIn 4 (some .int) 1 := ⟨bigI 713 (by decide +kernel) rfl, mw_X3_takenIn⟩
theorem cw_L_96 : CWV RL 96 yX7_trace cX7_trace 2 (some .int) 1 := ⟨bigI 714 (by decide +kernel) rfl, mw_X7_trace⟩
theorem cw_X7_187 : CWV RX7 187 yX0_traced cX0_traced 2 (some .int) 1 := ⟨bigI 718 (by decide +kernel) rfl, mw_X0_traced⟩
theorem cw_L_100 : CWV RL 100 yX7_count cX7_count 2 (some .int) 1 := ⟨bigI 724 (by decide +kernel) rfl, mw_X7_count⟩
theorem cw_X7_190 : CWV RX7 190 yX3_takenIn cX3_takenIn 4 (some .int) 1 := ⟨bigI 728 (by decide +kernel) rfl, mw_X3_takenIn⟩
theorem cw_X7_193 : CWV RX7 193 yX3_turnsOf cX3_turnsOf 2 (some .int) 1 := ⟨bigI 729 (by decide +kernel) rfl, mw_X3_turnsOf⟩
theorem cw_X7_196 : CWV RX7 196 yX3_mirrorsOf cX3_mirrorsOf 2 (some .int) 1 := ⟨bigI 730 (by decide +kernel) rfl, mw_X3_mirrorsOf⟩
theorem cw_L_25 : CWV RL 25 yX8_robot cX8_robot 2 (some .int) 1 := ⟨bigI 864 (by decide +kernel) rfl, mw_X8_robot⟩
theorem cw_X8_94 : CWV RX8 94 yX8_isPlace cX8_isPlace 2 (some .boolean) 1 := ⟨bigI 868 (by decide +kernel) rfl, mw_X8_isPlace⟩
theorem cw_X8_90 : CWS RX8 90 yX8_in cX8_in 6 (some .boolean) 3 := ⟨bigI 872 (by decide +kernel) rfl, mw_X8_in⟩
theorem cw_L_30 : CWV RL 30 yX8_wipe cX8_wipe 3 (some .int) 0 := ⟨bigI 877 (by decide +kernel) rfl, mw_X8_wipe⟩
theorem cw_L_34 : CWV RL 34 yX8_at cX8_at 2 (some .int) 1 := ⟨bigI 881 (by decide +kernel) rfl, mw_X8_at⟩
theorem cw_L_39 : CWV RL 39 yX8_view cX8_view 4 (some .int) 2 := ⟨bigI 885 (by decide +kernel) rfl, mw_X8_view⟩
theorem cw_X8_111 : CWV RX8 111 yX8_take cX8_take 2 none 0 := ⟨bigI 890 (by decide +kernel) rfl, mw_X8_take⟩
theorem cw_X8_114 : CWV RX8 114 yX8_look cX8_look 5 (some .int) 1 := ⟨bigI 894 (by decide +kernel) rfl, mw_X8_look⟩
theorem cw_X8_103 : CWV RX8 103 yX8_rowFrom cX8_rowFrom 8 (some .int) 3 := ⟨bigI 898 (by decide +kernel) rfl, mw_X8_rowFrom⟩
theorem cw_L_43 : CWV RL 43 yX8_does cX8_does 2 (some .int) 1 := ⟨bigI 902 (by decide +kernel) rfl, mw_X8_does⟩
theorem cw_X8_121 : CWV RX8 121 yX8_doing cX8_doing 7 (some .int) 1 := ⟨bigI 906 (by decide +kernel) rfl, mw_X8_doing⟩
theorem cw_L_47 : CWV RL 47 yX8_name cX8_name 2 (some .int) 1 := ⟨bigI 910 (by decide +kernel) rfl, mw_X8_name⟩
theorem cw_X8_128 : CWV RX8 128 yX8_findName cX8_findName 5 none 0 := ⟨bigI 914 (by decide +kernel) rfl, mw_X8_findName⟩
theorem cw_X8_124 : CWV RX8 124 yX8_seen cX8_seen 4 (some .int) 3 := ⟨bigI 918 (by decide +kernel) rfl, mw_X8_seen⟩
theorem cw_L_51 : CWV RL 51 yX8_goal cX8_goal 2 (some .int) 1 := ⟨bigI 922 (by decide +kernel) rfl, mw_X8_goal⟩
theorem cw_X8_133 : CWV RX8 133 yX8_isGoal cX8_isGoal 10 (some .boolean) 2 := ⟨bigI 927 (by decide +kernel) rfl, mw_X8_isGoal⟩
theorem cw_L_55 : CWV RL 55 yX8_step cX8_step 4 (some .int) 0 := ⟨bigI 931 (by decide +kernel) rfl, mw_X8_step⟩
theorem cw_L_59 : CWV RL 59 yX8_go cX8_go 5 (some .int) 2 := ⟨bigI 936 (by decide +kernel) rfl, mw_X8_go⟩
theorem cw_L_66 : CWV RL 66 yX8_feed cX8_feed 5 (some .int) 2 := ⟨bigI 940 (by decide +kernel) rfl, mw_X8_feed⟩
theorem cw_L_70 : CWV RL 70 yX8_rules cX8_rules 3 (some .int) 0 := ⟨bigI 946 (by decide +kernel) rfl, mw_X8_rules⟩
theorem cw_X8_179 : CWV RX8 179 yX8_next cX8_next 2 none 0 := ⟨bigI 950 (by decide +kernel) rfl, mw_X8_next⟩
theorem cw_X8_151 : CWV RX8 151 yX8_byteAt cX8_byteAt 2 (some .int) 1 := ⟨bigI 954 (by decide +kernel) rfl, mw_X8_byteAt⟩
theorem cw_X8_160 : CWS RX8 160 yX8_isLetter cX8_isLetter 1 (some .boolean) 1 := ⟨bigI 958 (by decide +kernel) rfl, mw_X8_isLetter⟩
theorem cw_X8_163 : CWS RX8 163 yX8_isFigure cX8_isFigure 1 (some .boolean) 1 := ⟨bigI 961 (by decide +kernel) rfl, mw_X8_isFigure⟩
theorem cw_X8_214 : CWV RX8 214 yX8_readRule cX8_readRule 6 none 0 := ⟨bigI 964 (by decide +kernel) rfl, mw_X8_readRule⟩
theorem cw_X8_193 : CWV RX8 193 yX8_word cX8_word 4 (some .long) 0 := ⟨bigI 968 (by decide +kernel) rfl, mw_X8_word⟩
theorem cw_X8_175 : CWV RX8 175 yX8_bad cX8_bad 2 none 1 := ⟨bigI 973 (by decide +kernel) rfl, mw_X8_bad⟩
theorem cw_X8_182 : CWV RX8 182 yX8_need cX8_need 2 none 1 := ⟨bigI 977 (by decide +kernel) rfl, mw_X8_need⟩
theorem cw_X8_199 : CWV RX8 199 yX8_readPair cX8_readPair 4 none 1 := ⟨bigI 981 (by decide +kernel) rfl, mw_X8_readPair⟩
theorem cw_X8_186 : CWV RX8 186 yX8_aNumber cX8_aNumber 3 (some .int) 0 := ⟨bigI 985 (by decide +kernel) rfl, mw_X8_aNumber⟩
theorem cw_X8_202 : CWV RX8 202 yX8_is cX8_is 2 (some .boolean) 1 := ⟨bigI 989 (by decide +kernel) rfl, mw_X8_is⟩
theorem cw_X8_211 : CWV RX8 211 yX8_isRead cX8_isRead 6 (some .boolean) 1 := ⟨bigI 996 (by decide +kernel) rfl, mw_X8_isRead⟩
theorem cw_L_74 : CWV RL 74 yX8_fault cX8_fault 1 (some .int) 0 := ⟨bigI 1001 (by decide +kernel) rfl, mw_X8_fault⟩
theorem cw_L_79 : CWV RL 79 yX8_proves cX8_proves 10 (some .int) 3 := ⟨bigI 1005 (by decide +kernel) rfl, mw_X8_proves⟩
theorem cw_X8_236 : CWV RX8 236 yX8_prove cX8_prove 8 none 2 := ⟨bigI 1010 (by decide +kernel) rfl, mw_X8_prove⟩
theorem cw_X8_227 : CWV RX8 227 yX8_listCrowds cX8_listCrowds 6 none 0 := ⟨bigI 1014 (by decide +kernel) rfl, mw_X8_listCrowds⟩
theorem cw_X8_224 : CWV RX8 224 yX8_numberOfName cX8_numberOfName 5 (some .int) 0 := ⟨bigI 1018 (by decide +kernel) rfl, mw_X8_numberOfName⟩
theorem cw_X8_230 : CWV RX8 230 yX8_findSteps cX8_findSteps 9 none 2 := ⟨bigI 1022 (by decide +kernel) rfl, mw_X8_findSteps⟩
theorem cw_L_83 : CWV RL 83 yX8_starts cX8_starts 6 (some .int) 3 := ⟨bigI 1026 (by decide +kernel) rfl, mw_X8_starts⟩
theorem cw_L_87 : CWV RL 87 yX8_kind cX8_kind 1 (some .int) 0 := ⟨bigI 1030 (by decide +kernel) rfl, mw_X8_kind⟩
theorem cw_X8_242 : CWV RX8 242 yX8_kindNow cX8_kindNow 1 (some .int) 0 := ⟨bigI 1034 (by decide +kernel) rfl, mw_X8_kindNow⟩
theorem cw_X8_239 : CWV RX8 239 yX8_same cX8_same 6 (some .int) 1 := ⟨bigI 1038 (by decide +kernel) rfl, mw_X8_same⟩
theorem cw_L_91 : CWV RL 91 yX8_as cX8_as 2 (some .int) 1 := ⟨bigI 1042 (by decide +kernel) rfl, mw_X8_as⟩
theorem cw_L_95 : CWV RL 95 yX8_ask cX8_ask 4 (some .int) 1 := ⟨bigI 1048 (by decide +kernel) rfl, mw_X8_ask⟩
theorem cw_X8_254 : CWV RX8 254 yX8_sized cX8_sized 2 (some .int) 1 := ⟨bigI 1052 (by decide +kernel) rfl, mw_X8_sized⟩
theorem cw_X8_251 : CWV RX8 251 yX8_began cX8_began 2 none 1 := ⟨bigI 1056 (by decide +kernel) rfl, mw_X8_began⟩
theorem cw_X8_257 : CWV RX8 257 yX8_places cX8_places 3 (some .int) 0 := ⟨bigI 1060 (by decide +kernel) rfl, mw_X8_places⟩
theorem cw_L_99 : CWV RL 99 yX8_trace cX8_trace 2 (some .int) 1 := ⟨bigI 1064 (by decide +kernel) rfl, mw_X8_trace⟩
theorem cw_L_103 : CWV RL 103 yX8_count cX8_count 2 (some .int) 1 := ⟨bigI 1068 (by decide +kernel) rfl, mw_X8_count⟩
theorem cn_X4_11 : CWN RX4 11 yX7_outside RX7 cX7_outside 2 (some .boolean) 2 := ⟨by decide +kernel, mw_X7_outside⟩
theorem cn_X1_39 : CWN RX1 39 yX7_outside RX7 cX7_outside 2 (some .boolean) 2 := ⟨by decide +kernel, mw_X7_outside⟩
theorem cn_X5_75 : CWN RX5 75 yX7_outside RX7 cX7_outside 2 (some .boolean) 2 := ⟨by decide +kernel, mw_X7_outside⟩
theorem cn_X6_81 : CWN RX6 81 yX7_outside RX7 cX7_outside 2 (some .boolean) 2 := ⟨by decide +kernel, mw_X7_outside⟩
theorem cn_X0_30 : CWN RX0 30 yX7_outside RX7 cX7_outside 2 (some .boolean) 2 := ⟨by decide +kernel, mw_X7_outside⟩
end
section
def XW (g : GG) (q : Nat → Nat) (x_crowd x_latestFault x_places x_mask x_w_robots x_w_size x_w_nexts x_a_length x_t_length x_t_token x_t_from x_t_value x_t_behind x_r_wants x_r_pairs x_r_sees : Int32) (x_r_row : Int64) (x_b_size x_s_size : Int32) (x_w_names : Nat → Int32) (x_w_goals x_w_links : Nat → Int64) (x_w_linked x_w_ups x_w_downs x_w_next x_a_begun x_t_bytes : Nat → Int32) (x_b_rows : Nat → Int64) (x_b_acts : Nat → Int32) (x_s_rows : Nat → Int64) (x_s_acts : Nat → Int32) : va_W := [(q 0, .inr (6, [.ref (q 1), .ref (q 2), .ref (q 3), .ref (q 4), .ref (q 5), .ref (q 6), .ref (q 7), .int x_crowd, .int x_latestFault])), (q 1, .inr (3, [.int x_places, .int x_mask])), (q 2, .inr (5, [.ref (q 1), .ref (q 8), .ref (q 9), .ref (q 10), .ref (q 11), .ref (q 12), .ref (q 13), .ref (q 14), .int x_w_robots, .int x_w_size, .int x_w_nexts])), (q 3, .inr (0, [.ref (q 1), .ref (q 15), .int x_a_length])), (q 4, .inr (4, [.ref (q 16), .int x_t_length, .int x_t_token, .int x_t_from, .int x_t_value, .int x_t_behind])), (q 5, .inr (2, [.ref (q 4), .int x_r_wants, .int x_r_pairs, .int x_r_sees, .long x_r_row])), (q 6, .inr (1, [.ref (q 17), .ref (q 18), .int x_b_size])), (q 7, .inr (1, [.ref (q 19), .ref (q 20), .int x_s_size])), (q 8, .inl (g.2.1.1, 64, .inl x_w_names)), (q 9, .inl (g.2.1.2.1, 3, .inr (.inl x_w_goals))), (q 10, .inl (g.2.1.2.1, 192, .inr (.inl x_w_links))), (q 11, .inl (g.2.1.2.2, 3, .inl x_w_linked)), (q 12, .inl (g.2.1.1, 9, .inl x_w_ups)), (q 13, .inl (g.2.1.1, 9, .inl x_w_downs)), (q 14, .inl (g.2.1.1, 81, .inl x_w_next)), (q 15, .inl (g.2.1.1, 16, .inl x_a_begun)), (q 16, .inl (g.2.1.1, 400, .inl x_t_bytes)), (q 17, .inl (g.2.1.2.1, 30, .inr (.inl x_b_rows))), (q 18, .inl (g.2.1.1, 30, .inl x_b_acts)), (q 19, .inl (g.2.1.2.1, 30, .inr (.inl x_s_rows))), (q 20, .inl (g.2.1.1, 30, .inl x_s_acts))]
section XCELLS
variable {p : Program} {l : Launch} {e : Env} {R : Room} {s : State} {m : MethodId} {args : Array Value} {below : List Frame} {meth : Method} {c : Code} {H : Heap} {locs : List Loc} {Q : State → Prop}
variable {g : GG} {A : Nat → Prop} {cc : ByteArray} {nL index pc : Nat} {own host : String} {ls : Array Slot} {rest : List Value} {q : Nat → Nat}
variable {x_crowd x_latestFault x_places x_mask x_w_robots x_w_size x_w_nexts x_a_length x_t_length x_t_token x_t_from x_t_value x_t_behind x_r_wants x_r_pairs x_r_sees : Int32} {x_r_row : Int64} {x_b_size x_s_size : Int32} {x_w_names : Nat → Int32} {x_w_goals x_w_links : Nat → Int64} {x_w_linked x_w_ups x_w_downs x_w_next x_a_begun x_t_bytes : Nat → Int32} {x_b_rows : Nat → Int64} {x_b_acts : Nat → Int32} {x_s_rows : Nat → Int64} {x_s_acts : Nat → Int32}
theorem rcX0 : RC (XW g q x_crowd x_latestFault x_places x_mask x_w_robots x_w_size x_w_nexts x_a_length x_t_length x_t_token x_t_from x_t_value x_t_behind x_r_wants x_r_pairs x_r_sees x_r_row x_b_size x_s_size x_w_names x_w_goals x_w_links x_w_linked x_w_ups x_w_downs x_w_next x_a_begun x_t_bytes x_b_rows x_b_acts x_s_rows x_s_acts) (q 0) RX7 := ⟨0, 6, _, _, rfl, rfl, rfl⟩
theorem xg_0_0 (F : CallFix p m c cc nL s args BIG own) (E : EV g A s) (J : VJ g A s.heap (XW g q x_crowd x_latestFault x_places x_mask x_w_robots x_w_size x_w_nexts x_a_length x_t_length x_t_token x_t_from x_t_value x_t_behind x_r_wants x_r_pairs x_r_sees x_r_row x_b_size x_s_size x_w_names x_w_goals x_w_links x_w_linked x_w_ups x_w_downs x_w_next x_a_begun x_t_bytes x_b_rows x_b_acts x_s_rows x_s_acts) H locs) (hl : Cond.fieldLink own index RX7 "ring" "LRingCrowd$Ring;" ∈ BIG) (hdg : decode cc pc = .ok (.getfield index, 3)) (kk : W p l e R s m args below meth c H locs 0 0 Q (F0 m (pc + 3) ls (.ref (q 1) :: rest))) : W p l e R s m args below meth c H locs 0 0 Q (F0 m pc ls (.ref (q 0) :: rest)) := cGet uX7 0 rfl rfl 0 (by decide) rfl rfl F E J hl hdg kk
theorem xg_0_1 (F : CallFix p m c cc nL s args BIG own) (E : EV g A s) (J : VJ g A s.heap (XW g q x_crowd x_latestFault x_places x_mask x_w_robots x_w_size x_w_nexts x_a_length x_t_length x_t_token x_t_from x_t_value x_t_behind x_r_wants x_r_pairs x_r_sees x_r_row x_b_size x_s_size x_w_names x_w_goals x_w_links x_w_linked x_w_ups x_w_downs x_w_next x_a_begun x_t_bytes x_b_rows x_b_acts x_s_rows x_s_acts) H locs) (hl : Cond.fieldLink own index RX7 "ways" "LRingCrowd$Ways;" ∈ BIG) (hdg : decode cc pc = .ok (.getfield index, 3)) (kk : W p l e R s m args below meth c H locs 0 0 Q (F0 m (pc + 3) ls (.ref (q 2) :: rest))) : W p l e R s m args below meth c H locs 0 0 Q (F0 m pc ls (.ref (q 0) :: rest)) := cGet uX7 0 rfl rfl 1 (by decide) rfl rfl F E J hl hdg kk
theorem xg_0_2 (F : CallFix p m c cc nL s args BIG own) (E : EV g A s) (J : VJ g A s.heap (XW g q x_crowd x_latestFault x_places x_mask x_w_robots x_w_size x_w_nexts x_a_length x_t_length x_t_token x_t_from x_t_value x_t_behind x_r_wants x_r_pairs x_r_sees x_r_row x_b_size x_s_size x_w_names x_w_goals x_w_links x_w_linked x_w_ups x_w_downs x_w_next x_a_begun x_t_bytes x_b_rows x_b_acts x_s_rows x_s_acts) H locs) (hl : Cond.fieldLink own index RX7 "asks" "LRingCrowd$Asks;" ∈ BIG) (hdg : decode cc pc = .ok (.getfield index, 3)) (kk : W p l e R s m args below meth c H locs 0 0 Q (F0 m (pc + 3) ls (.ref (q 3) :: rest))) : W p l e R s m args below meth c H locs 0 0 Q (F0 m pc ls (.ref (q 0) :: rest)) := cGet uX7 0 rfl rfl 2 (by decide) rfl rfl F E J hl hdg kk
theorem xg_0_3 (F : CallFix p m c cc nL s args BIG own) (E : EV g A s) (J : VJ g A s.heap (XW g q x_crowd x_latestFault x_places x_mask x_w_robots x_w_size x_w_nexts x_a_length x_t_length x_t_token x_t_from x_t_value x_t_behind x_r_wants x_r_pairs x_r_sees x_r_row x_b_size x_s_size x_w_names x_w_goals x_w_links x_w_linked x_w_ups x_w_downs x_w_next x_a_begun x_t_bytes x_b_rows x_b_acts x_s_rows x_s_acts) H locs) (hl : Cond.fieldLink own index RX7 "tape" "LRingCrowd$Tape;" ∈ BIG) (hdg : decode cc pc = .ok (.getfield index, 3)) (kk : W p l e R s m args below meth c H locs 0 0 Q (F0 m (pc + 3) ls (.ref (q 4) :: rest))) : W p l e R s m args below meth c H locs 0 0 Q (F0 m pc ls (.ref (q 0) :: rest)) := cGet uX7 0 rfl rfl 3 (by decide) rfl rfl F E J hl hdg kk
theorem xg_0_4 (F : CallFix p m c cc nL s args BIG own) (E : EV g A s) (J : VJ g A s.heap (XW g q x_crowd x_latestFault x_places x_mask x_w_robots x_w_size x_w_nexts x_a_length x_t_length x_t_token x_t_from x_t_value x_t_behind x_r_wants x_r_pairs x_r_sees x_r_row x_b_size x_s_size x_w_names x_w_goals x_w_links x_w_linked x_w_ups x_w_downs x_w_next x_a_begun x_t_bytes x_b_rows x_b_acts x_s_rows x_s_acts) H locs) (hl : Cond.fieldLink own index RX7 "reader" "LRingCrowd$Reader;" ∈ BIG) (hdg : decode cc pc = .ok (.getfield index, 3)) (kk : W p l e R s m args below meth c H locs 0 0 Q (F0 m (pc + 3) ls (.ref (q 5) :: rest))) : W p l e R s m args below meth c H locs 0 0 Q (F0 m pc ls (.ref (q 0) :: rest)) := cGet uX7 0 rfl rfl 4 (by decide) rfl rfl F E J hl hdg kk
theorem xg_0_5 (F : CallFix p m c cc nL s args BIG own) (E : EV g A s) (J : VJ g A s.heap (XW g q x_crowd x_latestFault x_places x_mask x_w_robots x_w_size x_w_nexts x_a_length x_t_length x_t_token x_t_from x_t_value x_t_behind x_r_wants x_r_pairs x_r_sees x_r_row x_b_size x_s_size x_w_names x_w_goals x_w_links x_w_linked x_w_ups x_w_downs x_w_next x_a_begun x_t_bytes x_b_rows x_b_acts x_s_rows x_s_acts) H locs) (hl : Cond.fieldLink own index RX7 "book" "LRingCrowd$Book;" ∈ BIG) (hdg : decode cc pc = .ok (.getfield index, 3)) (kk : W p l e R s m args below meth c H locs 0 0 Q (F0 m (pc + 3) ls (.ref (q 6) :: rest))) : W p l e R s m args below meth c H locs 0 0 Q (F0 m pc ls (.ref (q 0) :: rest)) := cGet uX7 0 rfl rfl 5 (by decide) rfl rfl F E J hl hdg kk
theorem xg_0_6 (F : CallFix p m c cc nL s args BIG own) (E : EV g A s) (J : VJ g A s.heap (XW g q x_crowd x_latestFault x_places x_mask x_w_robots x_w_size x_w_nexts x_a_length x_t_length x_t_token x_t_from x_t_value x_t_behind x_r_wants x_r_pairs x_r_sees x_r_row x_b_size x_s_size x_w_names x_w_goals x_w_links x_w_linked x_w_ups x_w_downs x_w_next x_a_begun x_t_bytes x_b_rows x_b_acts x_s_rows x_s_acts) H locs) (hl : Cond.fieldLink own index RX7 "spare" "LRingCrowd$Book;" ∈ BIG) (hdg : decode cc pc = .ok (.getfield index, 3)) (kk : W p l e R s m args below meth c H locs 0 0 Q (F0 m (pc + 3) ls (.ref (q 7) :: rest))) : W p l e R s m args below meth c H locs 0 0 Q (F0 m pc ls (.ref (q 0) :: rest)) := cGet uX7 0 rfl rfl 6 (by decide) rfl rfl F E J hl hdg kk
theorem xg_0_7 (F : CallFix p m c cc nL s args BIG own) (E : EV g A s) (J : VJ g A s.heap (XW g q x_crowd x_latestFault x_places x_mask x_w_robots x_w_size x_w_nexts x_a_length x_t_length x_t_token x_t_from x_t_value x_t_behind x_r_wants x_r_pairs x_r_sees x_r_row x_b_size x_s_size x_w_names x_w_goals x_w_links x_w_linked x_w_ups x_w_downs x_w_next x_a_begun x_t_bytes x_b_rows x_b_acts x_s_rows x_s_acts) H locs) (hl : Cond.fieldLink own index RX7 "crowd" "I" ∈ BIG) (hdg : decode cc pc = .ok (.getfield index, 3)) (kk : W p l e R s m args below meth c H locs 0 0 Q (F0 m (pc + 3) ls (.int x_crowd :: rest))) : W p l e R s m args below meth c H locs 0 0 Q (F0 m pc ls (.ref (q 0) :: rest)) := cGet uX7 0 rfl rfl 7 (by decide) rfl rfl F E J hl hdg kk
theorem xp_0_7 {z : Int32} (F : CallFix p m c cc nL s args BIG own) (E : EV g A s) (J : VJ g A s.heap (XW g q x_crowd x_latestFault x_places x_mask x_w_robots x_w_size x_w_nexts x_a_length x_t_length x_t_token x_t_from x_t_value x_t_behind x_r_wants x_r_pairs x_r_sees x_r_row x_b_size x_s_size x_w_names x_w_goals x_w_links x_w_linked x_w_ups x_w_downs x_w_next x_a_begun x_t_bytes x_b_rows x_b_acts x_s_rows x_s_acts) H locs) (hl : Cond.fieldLink own index RX7 "crowd" "I" ∈ BIG) (hdg : decode cc pc = .ok (.putfield index, 3)) (kk : ∀ (H1 : Heap) (locs1 : List Loc), VJ g A s.heap (XW g q z x_latestFault x_places x_mask x_w_robots x_w_size x_w_nexts x_a_length x_t_length x_t_token x_t_from x_t_value x_t_behind x_r_wants x_r_pairs x_r_sees x_r_row x_b_size x_s_size x_w_names x_w_goals x_w_links x_w_linked x_w_ups x_w_downs x_w_next x_a_begun x_t_bytes x_b_rows x_b_acts x_s_rows x_s_acts) H1 locs1 → W p l e R s m args below meth c H1 locs1 0 0 Q (F0 m (pc + 3) ls rest)) : W p l e R s m args below meth c H locs 0 0 Q (F0 m pc ls (.int z :: .ref (q 0) :: rest)) := cPut (ty := .int) (ci := 6) (fs := [.ref (q 1), .ref (q 2), .ref (q 3), .ref (q 4), .ref (q 5), .ref (q 6), .ref (q 7), .int x_crowd, .int x_latestFault]) (ws' := (XW g q z x_latestFault x_places x_mask x_w_robots x_w_size x_w_nexts x_a_length x_t_length x_t_token x_t_from x_t_value x_t_behind x_r_wants x_r_pairs x_r_sees x_r_row x_b_size x_s_size x_w_names x_w_goals x_w_links x_w_linked x_w_ups x_w_downs x_w_next x_a_begun x_t_bytes x_b_rows x_b_acts x_s_rows x_s_acts)) uX7 tyX7 tyX7_ok nmX7 0 rfl rfl 7 (by decide) rfl (by decide +kernel) rfl rfl (show 7 < 9 by decide) rfl F E J hl hdg kk
theorem xg_0_8 (F : CallFix p m c cc nL s args BIG own) (E : EV g A s) (J : VJ g A s.heap (XW g q x_crowd x_latestFault x_places x_mask x_w_robots x_w_size x_w_nexts x_a_length x_t_length x_t_token x_t_from x_t_value x_t_behind x_r_wants x_r_pairs x_r_sees x_r_row x_b_size x_s_size x_w_names x_w_goals x_w_links x_w_linked x_w_ups x_w_downs x_w_next x_a_begun x_t_bytes x_b_rows x_b_acts x_s_rows x_s_acts) H locs) (hl : Cond.fieldLink own index RX7 "latestFault" "I" ∈ BIG) (hdg : decode cc pc = .ok (.getfield index, 3)) (kk : W p l e R s m args below meth c H locs 0 0 Q (F0 m (pc + 3) ls (.int x_latestFault :: rest))) : W p l e R s m args below meth c H locs 0 0 Q (F0 m pc ls (.ref (q 0) :: rest)) := cGet uX7 0 rfl rfl 8 (by decide) rfl rfl F E J hl hdg kk
theorem xp_0_8 {z : Int32} (F : CallFix p m c cc nL s args BIG own) (E : EV g A s) (J : VJ g A s.heap (XW g q x_crowd x_latestFault x_places x_mask x_w_robots x_w_size x_w_nexts x_a_length x_t_length x_t_token x_t_from x_t_value x_t_behind x_r_wants x_r_pairs x_r_sees x_r_row x_b_size x_s_size x_w_names x_w_goals x_w_links x_w_linked x_w_ups x_w_downs x_w_next x_a_begun x_t_bytes x_b_rows x_b_acts x_s_rows x_s_acts) H locs) (hl : Cond.fieldLink own index RX7 "latestFault" "I" ∈ BIG) (hdg : decode cc pc = .ok (.putfield index, 3)) (kk : ∀ (H1 : Heap) (locs1 : List Loc), VJ g A s.heap (XW g q x_crowd z x_places x_mask x_w_robots x_w_size x_w_nexts x_a_length x_t_length x_t_token x_t_from x_t_value x_t_behind x_r_wants x_r_pairs x_r_sees x_r_row x_b_size x_s_size x_w_names x_w_goals x_w_links x_w_linked x_w_ups x_w_downs x_w_next x_a_begun x_t_bytes x_b_rows x_b_acts x_s_rows x_s_acts) H1 locs1 → W p l e R s m args below meth c H1 locs1 0 0 Q (F0 m (pc + 3) ls rest)) : W p l e R s m args below meth c H locs 0 0 Q (F0 m pc ls (.int z :: .ref (q 0) :: rest)) := cPut (ty := .int) (ci := 6) (fs := [.ref (q 1), .ref (q 2), .ref (q 3), .ref (q 4), .ref (q 5), .ref (q 6), .ref (q 7), .int x_crowd, .int x_latestFault]) (ws' := (XW g q x_crowd z x_places x_mask x_w_robots x_w_size x_w_nexts x_a_length x_t_length x_t_token x_t_from x_t_value x_t_behind x_r_wants x_r_pairs x_r_sees x_r_row x_b_size x_s_size x_w_names x_w_goals x_w_links x_w_linked x_w_ups x_w_downs x_w_next x_a_begun x_t_bytes x_b_rows x_b_acts x_s_rows x_s_acts)) uX7 tyX7 tyX7_ok nmX7 0 rfl rfl 8 (by decide) rfl (by decide +kernel) rfl rfl (show 8 < 9 by decide) rfl F E J hl hdg kk
theorem rcX1 : RC (XW g q x_crowd x_latestFault x_places x_mask x_w_robots x_w_size x_w_nexts x_a_length x_t_length x_t_token x_t_from x_t_value x_t_behind x_r_wants x_r_pairs x_r_sees x_r_row x_b_size x_s_size x_w_names x_w_goals x_w_links x_w_linked x_w_ups x_w_downs x_w_next x_a_begun x_t_bytes x_b_rows x_b_acts x_s_rows x_s_acts) (q 1) RX3 := ⟨1, 3, _, _, rfl, rfl, rfl⟩
theorem xg_1_0 (F : CallFix p m c cc nL s args BIG own) (E : EV g A s) (J : VJ g A s.heap (XW g q x_crowd x_latestFault x_places x_mask x_w_robots x_w_size x_w_nexts x_a_length x_t_length x_t_token x_t_from x_t_value x_t_behind x_r_wants x_r_pairs x_r_sees x_r_row x_b_size x_s_size x_w_names x_w_goals x_w_links x_w_linked x_w_ups x_w_downs x_w_next x_a_begun x_t_bytes x_b_rows x_b_acts x_s_rows x_s_acts) H locs) (hl : Cond.fieldLink own index RX3 "places" "I" ∈ BIG) (hdg : decode cc pc = .ok (.getfield index, 3)) (kk : W p l e R s m args below meth c H locs 0 0 Q (F0 m (pc + 3) ls (.int x_places :: rest))) : W p l e R s m args below meth c H locs 0 0 Q (F0 m pc ls (.ref (q 1) :: rest)) := cGet uX3 1 rfl rfl 0 (by decide) rfl rfl F E J hl hdg kk
theorem xgN_1_0 (F : CallFix p m c cc nL s args BIG own) (E : EV g A s) (J : VJ g A s.heap (XW g q x_crowd x_latestFault x_places x_mask x_w_robots x_w_size x_w_nexts x_a_length x_t_length x_t_token x_t_from x_t_value x_t_behind x_r_wants x_r_pairs x_r_sees x_r_row x_b_size x_s_size x_w_names x_w_goals x_w_links x_w_linked x_w_ups x_w_downs x_w_next x_a_begun x_t_bytes x_b_rows x_b_acts x_s_rows x_s_acts) H locs) (hl : (own, index, RX3, "places", "I", host) ∈ nsF) (hdg : decode cc pc = .ok (.getfield index, 3)) (kk : W p l e R s m args below meth c H locs 0 0 Q (F0 m (pc + 3) ls (.int x_places :: rest))) : W p l e R s m args below meth c H locs 0 0 Q (F0 m pc ls (.ref (q 1) :: rest)) := cGetN uX3 1 rfl rfl 0 (by decide) rfl rfl F E J hl hdg kk
theorem xg_1_1 (F : CallFix p m c cc nL s args BIG own) (E : EV g A s) (J : VJ g A s.heap (XW g q x_crowd x_latestFault x_places x_mask x_w_robots x_w_size x_w_nexts x_a_length x_t_length x_t_token x_t_from x_t_value x_t_behind x_r_wants x_r_pairs x_r_sees x_r_row x_b_size x_s_size x_w_names x_w_goals x_w_links x_w_linked x_w_ups x_w_downs x_w_next x_a_begun x_t_bytes x_b_rows x_b_acts x_s_rows x_s_acts) H locs) (hl : Cond.fieldLink own index RX3 "mask" "I" ∈ BIG) (hdg : decode cc pc = .ok (.getfield index, 3)) (kk : W p l e R s m args below meth c H locs 0 0 Q (F0 m (pc + 3) ls (.int x_mask :: rest))) : W p l e R s m args below meth c H locs 0 0 Q (F0 m pc ls (.ref (q 1) :: rest)) := cGet uX3 1 rfl rfl 1 (by decide) rfl rfl F E J hl hdg kk
theorem rcX2 : RC (XW g q x_crowd x_latestFault x_places x_mask x_w_robots x_w_size x_w_nexts x_a_length x_t_length x_t_token x_t_from x_t_value x_t_behind x_r_wants x_r_pairs x_r_sees x_r_row x_b_size x_s_size x_w_names x_w_goals x_w_links x_w_linked x_w_ups x_w_downs x_w_next x_a_begun x_t_bytes x_b_rows x_b_acts x_s_rows x_s_acts) (q 2) RX6 := ⟨2, 5, _, _, rfl, rfl, rfl⟩
theorem xg_2_0 (F : CallFix p m c cc nL s args BIG own) (E : EV g A s) (J : VJ g A s.heap (XW g q x_crowd x_latestFault x_places x_mask x_w_robots x_w_size x_w_nexts x_a_length x_t_length x_t_token x_t_from x_t_value x_t_behind x_r_wants x_r_pairs x_r_sees x_r_row x_b_size x_s_size x_w_names x_w_goals x_w_links x_w_linked x_w_ups x_w_downs x_w_next x_a_begun x_t_bytes x_b_rows x_b_acts x_s_rows x_s_acts) H locs) (hl : Cond.fieldLink own index RX6 "ring" "LRingCrowd$Ring;" ∈ BIG) (hdg : decode cc pc = .ok (.getfield index, 3)) (kk : W p l e R s m args below meth c H locs 0 0 Q (F0 m (pc + 3) ls (.ref (q 1) :: rest))) : W p l e R s m args below meth c H locs 0 0 Q (F0 m pc ls (.ref (q 2) :: rest)) := cGet uX6 2 rfl rfl 0 (by decide) rfl rfl F E J hl hdg kk
theorem xg_2_1 (F : CallFix p m c cc nL s args BIG own) (E : EV g A s) (J : VJ g A s.heap (XW g q x_crowd x_latestFault x_places x_mask x_w_robots x_w_size x_w_nexts x_a_length x_t_length x_t_token x_t_from x_t_value x_t_behind x_r_wants x_r_pairs x_r_sees x_r_row x_b_size x_s_size x_w_names x_w_goals x_w_links x_w_linked x_w_ups x_w_downs x_w_next x_a_begun x_t_bytes x_b_rows x_b_acts x_s_rows x_s_acts) H locs) (hl : Cond.fieldLink own index RX6 "names" "[I" ∈ BIG) (hdg : decode cc pc = .ok (.getfield index, 3)) (kk : W p l e R s m args below meth c H locs 0 0 Q (F0 m (pc + 3) ls (.ref (q 8) :: rest))) : W p l e R s m args below meth c H locs 0 0 Q (F0 m pc ls (.ref (q 2) :: rest)) := cGet uX6 2 rfl rfl 1 (by decide) rfl rfl F E J hl hdg kk
theorem xg_2_2 (F : CallFix p m c cc nL s args BIG own) (E : EV g A s) (J : VJ g A s.heap (XW g q x_crowd x_latestFault x_places x_mask x_w_robots x_w_size x_w_nexts x_a_length x_t_length x_t_token x_t_from x_t_value x_t_behind x_r_wants x_r_pairs x_r_sees x_r_row x_b_size x_s_size x_w_names x_w_goals x_w_links x_w_linked x_w_ups x_w_downs x_w_next x_a_begun x_t_bytes x_b_rows x_b_acts x_s_rows x_s_acts) H locs) (hl : Cond.fieldLink own index RX6 "goals" "[J" ∈ BIG) (hdg : decode cc pc = .ok (.getfield index, 3)) (kk : W p l e R s m args below meth c H locs 0 0 Q (F0 m (pc + 3) ls (.ref (q 9) :: rest))) : W p l e R s m args below meth c H locs 0 0 Q (F0 m pc ls (.ref (q 2) :: rest)) := cGet uX6 2 rfl rfl 2 (by decide) rfl rfl F E J hl hdg kk
theorem xg_2_3 (F : CallFix p m c cc nL s args BIG own) (E : EV g A s) (J : VJ g A s.heap (XW g q x_crowd x_latestFault x_places x_mask x_w_robots x_w_size x_w_nexts x_a_length x_t_length x_t_token x_t_from x_t_value x_t_behind x_r_wants x_r_pairs x_r_sees x_r_row x_b_size x_s_size x_w_names x_w_goals x_w_links x_w_linked x_w_ups x_w_downs x_w_next x_a_begun x_t_bytes x_b_rows x_b_acts x_s_rows x_s_acts) H locs) (hl : Cond.fieldLink own index RX6 "links" "[J" ∈ BIG) (hdg : decode cc pc = .ok (.getfield index, 3)) (kk : W p l e R s m args below meth c H locs 0 0 Q (F0 m (pc + 3) ls (.ref (q 10) :: rest))) : W p l e R s m args below meth c H locs 0 0 Q (F0 m pc ls (.ref (q 2) :: rest)) := cGet uX6 2 rfl rfl 3 (by decide) rfl rfl F E J hl hdg kk
theorem xg_2_4 (F : CallFix p m c cc nL s args BIG own) (E : EV g A s) (J : VJ g A s.heap (XW g q x_crowd x_latestFault x_places x_mask x_w_robots x_w_size x_w_nexts x_a_length x_t_length x_t_token x_t_from x_t_value x_t_behind x_r_wants x_r_pairs x_r_sees x_r_row x_b_size x_s_size x_w_names x_w_goals x_w_links x_w_linked x_w_ups x_w_downs x_w_next x_a_begun x_t_bytes x_b_rows x_b_acts x_s_rows x_s_acts) H locs) (hl : Cond.fieldLink own index RX6 "linked" "[Z" ∈ BIG) (hdg : decode cc pc = .ok (.getfield index, 3)) (kk : W p l e R s m args below meth c H locs 0 0 Q (F0 m (pc + 3) ls (.ref (q 11) :: rest))) : W p l e R s m args below meth c H locs 0 0 Q (F0 m pc ls (.ref (q 2) :: rest)) := cGet uX6 2 rfl rfl 4 (by decide) rfl rfl F E J hl hdg kk
theorem xg_2_5 (F : CallFix p m c cc nL s args BIG own) (E : EV g A s) (J : VJ g A s.heap (XW g q x_crowd x_latestFault x_places x_mask x_w_robots x_w_size x_w_nexts x_a_length x_t_length x_t_token x_t_from x_t_value x_t_behind x_r_wants x_r_pairs x_r_sees x_r_row x_b_size x_s_size x_w_names x_w_goals x_w_links x_w_linked x_w_ups x_w_downs x_w_next x_a_begun x_t_bytes x_b_rows x_b_acts x_s_rows x_s_acts) H locs) (hl : Cond.fieldLink own index RX6 "ups" "[I" ∈ BIG) (hdg : decode cc pc = .ok (.getfield index, 3)) (kk : W p l e R s m args below meth c H locs 0 0 Q (F0 m (pc + 3) ls (.ref (q 12) :: rest))) : W p l e R s m args below meth c H locs 0 0 Q (F0 m pc ls (.ref (q 2) :: rest)) := cGet uX6 2 rfl rfl 5 (by decide) rfl rfl F E J hl hdg kk
theorem xg_2_6 (F : CallFix p m c cc nL s args BIG own) (E : EV g A s) (J : VJ g A s.heap (XW g q x_crowd x_latestFault x_places x_mask x_w_robots x_w_size x_w_nexts x_a_length x_t_length x_t_token x_t_from x_t_value x_t_behind x_r_wants x_r_pairs x_r_sees x_r_row x_b_size x_s_size x_w_names x_w_goals x_w_links x_w_linked x_w_ups x_w_downs x_w_next x_a_begun x_t_bytes x_b_rows x_b_acts x_s_rows x_s_acts) H locs) (hl : Cond.fieldLink own index RX6 "downs" "[I" ∈ BIG) (hdg : decode cc pc = .ok (.getfield index, 3)) (kk : W p l e R s m args below meth c H locs 0 0 Q (F0 m (pc + 3) ls (.ref (q 13) :: rest))) : W p l e R s m args below meth c H locs 0 0 Q (F0 m pc ls (.ref (q 2) :: rest)) := cGet uX6 2 rfl rfl 6 (by decide) rfl rfl F E J hl hdg kk
theorem xg_2_7 (F : CallFix p m c cc nL s args BIG own) (E : EV g A s) (J : VJ g A s.heap (XW g q x_crowd x_latestFault x_places x_mask x_w_robots x_w_size x_w_nexts x_a_length x_t_length x_t_token x_t_from x_t_value x_t_behind x_r_wants x_r_pairs x_r_sees x_r_row x_b_size x_s_size x_w_names x_w_goals x_w_links x_w_linked x_w_ups x_w_downs x_w_next x_a_begun x_t_bytes x_b_rows x_b_acts x_s_rows x_s_acts) H locs) (hl : Cond.fieldLink own index RX6 "next" "[I" ∈ BIG) (hdg : decode cc pc = .ok (.getfield index, 3)) (kk : W p l e R s m args below meth c H locs 0 0 Q (F0 m (pc + 3) ls (.ref (q 14) :: rest))) : W p l e R s m args below meth c H locs 0 0 Q (F0 m pc ls (.ref (q 2) :: rest)) := cGet uX6 2 rfl rfl 7 (by decide) rfl rfl F E J hl hdg kk
theorem xg_2_8 (F : CallFix p m c cc nL s args BIG own) (E : EV g A s) (J : VJ g A s.heap (XW g q x_crowd x_latestFault x_places x_mask x_w_robots x_w_size x_w_nexts x_a_length x_t_length x_t_token x_t_from x_t_value x_t_behind x_r_wants x_r_pairs x_r_sees x_r_row x_b_size x_s_size x_w_names x_w_goals x_w_links x_w_linked x_w_ups x_w_downs x_w_next x_a_begun x_t_bytes x_b_rows x_b_acts x_s_rows x_s_acts) H locs) (hl : Cond.fieldLink own index RX6 "robots" "I" ∈ BIG) (hdg : decode cc pc = .ok (.getfield index, 3)) (kk : W p l e R s m args below meth c H locs 0 0 Q (F0 m (pc + 3) ls (.int x_w_robots :: rest))) : W p l e R s m args below meth c H locs 0 0 Q (F0 m pc ls (.ref (q 2) :: rest)) := cGet uX6 2 rfl rfl 8 (by decide) rfl rfl F E J hl hdg kk
theorem xp_2_8 {z : Int32} (F : CallFix p m c cc nL s args BIG own) (E : EV g A s) (J : VJ g A s.heap (XW g q x_crowd x_latestFault x_places x_mask x_w_robots x_w_size x_w_nexts x_a_length x_t_length x_t_token x_t_from x_t_value x_t_behind x_r_wants x_r_pairs x_r_sees x_r_row x_b_size x_s_size x_w_names x_w_goals x_w_links x_w_linked x_w_ups x_w_downs x_w_next x_a_begun x_t_bytes x_b_rows x_b_acts x_s_rows x_s_acts) H locs) (hl : Cond.fieldLink own index RX6 "robots" "I" ∈ BIG) (hdg : decode cc pc = .ok (.putfield index, 3)) (kk : ∀ (H1 : Heap) (locs1 : List Loc), VJ g A s.heap (XW g q x_crowd x_latestFault x_places x_mask z x_w_size x_w_nexts x_a_length x_t_length x_t_token x_t_from x_t_value x_t_behind x_r_wants x_r_pairs x_r_sees x_r_row x_b_size x_s_size x_w_names x_w_goals x_w_links x_w_linked x_w_ups x_w_downs x_w_next x_a_begun x_t_bytes x_b_rows x_b_acts x_s_rows x_s_acts) H1 locs1 → W p l e R s m args below meth c H1 locs1 0 0 Q (F0 m (pc + 3) ls rest)) : W p l e R s m args below meth c H locs 0 0 Q (F0 m pc ls (.int z :: .ref (q 2) :: rest)) := cPut (ty := .int) (ci := 5) (fs := [.ref (q 1), .ref (q 8), .ref (q 9), .ref (q 10), .ref (q 11), .ref (q 12), .ref (q 13), .ref (q 14), .int x_w_robots, .int x_w_size, .int x_w_nexts]) (ws' := (XW g q x_crowd x_latestFault x_places x_mask z x_w_size x_w_nexts x_a_length x_t_length x_t_token x_t_from x_t_value x_t_behind x_r_wants x_r_pairs x_r_sees x_r_row x_b_size x_s_size x_w_names x_w_goals x_w_links x_w_linked x_w_ups x_w_downs x_w_next x_a_begun x_t_bytes x_b_rows x_b_acts x_s_rows x_s_acts)) uX6 tyX6 tyX6_ok nmX6 2 rfl rfl 8 (by decide) rfl (by decide +kernel) rfl rfl (show 8 < 11 by decide) rfl F E J hl hdg kk
theorem xg_2_9 (F : CallFix p m c cc nL s args BIG own) (E : EV g A s) (J : VJ g A s.heap (XW g q x_crowd x_latestFault x_places x_mask x_w_robots x_w_size x_w_nexts x_a_length x_t_length x_t_token x_t_from x_t_value x_t_behind x_r_wants x_r_pairs x_r_sees x_r_row x_b_size x_s_size x_w_names x_w_goals x_w_links x_w_linked x_w_ups x_w_downs x_w_next x_a_begun x_t_bytes x_b_rows x_b_acts x_s_rows x_s_acts) H locs) (hl : Cond.fieldLink own index RX6 "size" "I" ∈ BIG) (hdg : decode cc pc = .ok (.getfield index, 3)) (kk : W p l e R s m args below meth c H locs 0 0 Q (F0 m (pc + 3) ls (.int x_w_size :: rest))) : W p l e R s m args below meth c H locs 0 0 Q (F0 m pc ls (.ref (q 2) :: rest)) := cGet uX6 2 rfl rfl 9 (by decide) rfl rfl F E J hl hdg kk
theorem xgN_2_9 (F : CallFix p m c cc nL s args BIG own) (E : EV g A s) (J : VJ g A s.heap (XW g q x_crowd x_latestFault x_places x_mask x_w_robots x_w_size x_w_nexts x_a_length x_t_length x_t_token x_t_from x_t_value x_t_behind x_r_wants x_r_pairs x_r_sees x_r_row x_b_size x_s_size x_w_names x_w_goals x_w_links x_w_linked x_w_ups x_w_downs x_w_next x_a_begun x_t_bytes x_b_rows x_b_acts x_s_rows x_s_acts) H locs) (hl : (own, index, RX6, "size", "I", host) ∈ nsF) (hdg : decode cc pc = .ok (.getfield index, 3)) (kk : W p l e R s m args below meth c H locs 0 0 Q (F0 m (pc + 3) ls (.int x_w_size :: rest))) : W p l e R s m args below meth c H locs 0 0 Q (F0 m pc ls (.ref (q 2) :: rest)) := cGetN uX6 2 rfl rfl 9 (by decide) rfl rfl F E J hl hdg kk
theorem xp_2_9 {z : Int32} (F : CallFix p m c cc nL s args BIG own) (E : EV g A s) (J : VJ g A s.heap (XW g q x_crowd x_latestFault x_places x_mask x_w_robots x_w_size x_w_nexts x_a_length x_t_length x_t_token x_t_from x_t_value x_t_behind x_r_wants x_r_pairs x_r_sees x_r_row x_b_size x_s_size x_w_names x_w_goals x_w_links x_w_linked x_w_ups x_w_downs x_w_next x_a_begun x_t_bytes x_b_rows x_b_acts x_s_rows x_s_acts) H locs) (hl : Cond.fieldLink own index RX6 "size" "I" ∈ BIG) (hdg : decode cc pc = .ok (.putfield index, 3)) (kk : ∀ (H1 : Heap) (locs1 : List Loc), VJ g A s.heap (XW g q x_crowd x_latestFault x_places x_mask x_w_robots z x_w_nexts x_a_length x_t_length x_t_token x_t_from x_t_value x_t_behind x_r_wants x_r_pairs x_r_sees x_r_row x_b_size x_s_size x_w_names x_w_goals x_w_links x_w_linked x_w_ups x_w_downs x_w_next x_a_begun x_t_bytes x_b_rows x_b_acts x_s_rows x_s_acts) H1 locs1 → W p l e R s m args below meth c H1 locs1 0 0 Q (F0 m (pc + 3) ls rest)) : W p l e R s m args below meth c H locs 0 0 Q (F0 m pc ls (.int z :: .ref (q 2) :: rest)) := cPut (ty := .int) (ci := 5) (fs := [.ref (q 1), .ref (q 8), .ref (q 9), .ref (q 10), .ref (q 11), .ref (q 12), .ref (q 13), .ref (q 14), .int x_w_robots, .int x_w_size, .int x_w_nexts]) (ws' := (XW g q x_crowd x_latestFault x_places x_mask x_w_robots z x_w_nexts x_a_length x_t_length x_t_token x_t_from x_t_value x_t_behind x_r_wants x_r_pairs x_r_sees x_r_row x_b_size x_s_size x_w_names x_w_goals x_w_links x_w_linked x_w_ups x_w_downs x_w_next x_a_begun x_t_bytes x_b_rows x_b_acts x_s_rows x_s_acts)) uX6 tyX6 tyX6_ok nmX6 2 rfl rfl 9 (by decide) rfl (by decide +kernel) rfl rfl (show 9 < 11 by decide) rfl F E J hl hdg kk
theorem xg_2_10 (F : CallFix p m c cc nL s args BIG own) (E : EV g A s) (J : VJ g A s.heap (XW g q x_crowd x_latestFault x_places x_mask x_w_robots x_w_size x_w_nexts x_a_length x_t_length x_t_token x_t_from x_t_value x_t_behind x_r_wants x_r_pairs x_r_sees x_r_row x_b_size x_s_size x_w_names x_w_goals x_w_links x_w_linked x_w_ups x_w_downs x_w_next x_a_begun x_t_bytes x_b_rows x_b_acts x_s_rows x_s_acts) H locs) (hl : Cond.fieldLink own index RX6 "nexts" "I" ∈ BIG) (hdg : decode cc pc = .ok (.getfield index, 3)) (kk : W p l e R s m args below meth c H locs 0 0 Q (F0 m (pc + 3) ls (.int x_w_nexts :: rest))) : W p l e R s m args below meth c H locs 0 0 Q (F0 m pc ls (.ref (q 2) :: rest)) := cGet uX6 2 rfl rfl 10 (by decide) rfl rfl F E J hl hdg kk
theorem xp_2_10 {z : Int32} (F : CallFix p m c cc nL s args BIG own) (E : EV g A s) (J : VJ g A s.heap (XW g q x_crowd x_latestFault x_places x_mask x_w_robots x_w_size x_w_nexts x_a_length x_t_length x_t_token x_t_from x_t_value x_t_behind x_r_wants x_r_pairs x_r_sees x_r_row x_b_size x_s_size x_w_names x_w_goals x_w_links x_w_linked x_w_ups x_w_downs x_w_next x_a_begun x_t_bytes x_b_rows x_b_acts x_s_rows x_s_acts) H locs) (hl : Cond.fieldLink own index RX6 "nexts" "I" ∈ BIG) (hdg : decode cc pc = .ok (.putfield index, 3)) (kk : ∀ (H1 : Heap) (locs1 : List Loc), VJ g A s.heap (XW g q x_crowd x_latestFault x_places x_mask x_w_robots x_w_size z x_a_length x_t_length x_t_token x_t_from x_t_value x_t_behind x_r_wants x_r_pairs x_r_sees x_r_row x_b_size x_s_size x_w_names x_w_goals x_w_links x_w_linked x_w_ups x_w_downs x_w_next x_a_begun x_t_bytes x_b_rows x_b_acts x_s_rows x_s_acts) H1 locs1 → W p l e R s m args below meth c H1 locs1 0 0 Q (F0 m (pc + 3) ls rest)) : W p l e R s m args below meth c H locs 0 0 Q (F0 m pc ls (.int z :: .ref (q 2) :: rest)) := cPut (ty := .int) (ci := 5) (fs := [.ref (q 1), .ref (q 8), .ref (q 9), .ref (q 10), .ref (q 11), .ref (q 12), .ref (q 13), .ref (q 14), .int x_w_robots, .int x_w_size, .int x_w_nexts]) (ws' := (XW g q x_crowd x_latestFault x_places x_mask x_w_robots x_w_size z x_a_length x_t_length x_t_token x_t_from x_t_value x_t_behind x_r_wants x_r_pairs x_r_sees x_r_row x_b_size x_s_size x_w_names x_w_goals x_w_links x_w_linked x_w_ups x_w_downs x_w_next x_a_begun x_t_bytes x_b_rows x_b_acts x_s_rows x_s_acts)) uX6 tyX6 tyX6_ok nmX6 2 rfl rfl 10 (by decide) rfl (by decide +kernel) rfl rfl (show 10 < 11 by decide) rfl F E J hl hdg kk
theorem rcX3 : RC (XW g q x_crowd x_latestFault x_places x_mask x_w_robots x_w_size x_w_nexts x_a_length x_t_length x_t_token x_t_from x_t_value x_t_behind x_r_wants x_r_pairs x_r_sees x_r_row x_b_size x_s_size x_w_names x_w_goals x_w_links x_w_linked x_w_ups x_w_downs x_w_next x_a_begun x_t_bytes x_b_rows x_b_acts x_s_rows x_s_acts) (q 3) RX0 := ⟨3, 0, _, _, rfl, rfl, rfl⟩
theorem xg_3_0 (F : CallFix p m c cc nL s args BIG own) (E : EV g A s) (J : VJ g A s.heap (XW g q x_crowd x_latestFault x_places x_mask x_w_robots x_w_size x_w_nexts x_a_length x_t_length x_t_token x_t_from x_t_value x_t_behind x_r_wants x_r_pairs x_r_sees x_r_row x_b_size x_s_size x_w_names x_w_goals x_w_links x_w_linked x_w_ups x_w_downs x_w_next x_a_begun x_t_bytes x_b_rows x_b_acts x_s_rows x_s_acts) H locs) (hl : Cond.fieldLink own index RX0 "ring" "LRingCrowd$Ring;" ∈ BIG) (hdg : decode cc pc = .ok (.getfield index, 3)) (kk : W p l e R s m args below meth c H locs 0 0 Q (F0 m (pc + 3) ls (.ref (q 1) :: rest))) : W p l e R s m args below meth c H locs 0 0 Q (F0 m pc ls (.ref (q 3) :: rest)) := cGet uX0 3 rfl rfl 0 (by decide) rfl rfl F E J hl hdg kk
theorem xg_3_1 (F : CallFix p m c cc nL s args BIG own) (E : EV g A s) (J : VJ g A s.heap (XW g q x_crowd x_latestFault x_places x_mask x_w_robots x_w_size x_w_nexts x_a_length x_t_length x_t_token x_t_from x_t_value x_t_behind x_r_wants x_r_pairs x_r_sees x_r_row x_b_size x_s_size x_w_names x_w_goals x_w_links x_w_linked x_w_ups x_w_downs x_w_next x_a_begun x_t_bytes x_b_rows x_b_acts x_s_rows x_s_acts) H locs) (hl : Cond.fieldLink own index RX0 "begun" "[I" ∈ BIG) (hdg : decode cc pc = .ok (.getfield index, 3)) (kk : W p l e R s m args below meth c H locs 0 0 Q (F0 m (pc + 3) ls (.ref (q 15) :: rest))) : W p l e R s m args below meth c H locs 0 0 Q (F0 m pc ls (.ref (q 3) :: rest)) := cGet uX0 3 rfl rfl 1 (by decide) rfl rfl F E J hl hdg kk
theorem xg_3_2 (F : CallFix p m c cc nL s args BIG own) (E : EV g A s) (J : VJ g A s.heap (XW g q x_crowd x_latestFault x_places x_mask x_w_robots x_w_size x_w_nexts x_a_length x_t_length x_t_token x_t_from x_t_value x_t_behind x_r_wants x_r_pairs x_r_sees x_r_row x_b_size x_s_size x_w_names x_w_goals x_w_links x_w_linked x_w_ups x_w_downs x_w_next x_a_begun x_t_bytes x_b_rows x_b_acts x_s_rows x_s_acts) H locs) (hl : Cond.fieldLink own index RX0 "length" "I" ∈ BIG) (hdg : decode cc pc = .ok (.getfield index, 3)) (kk : W p l e R s m args below meth c H locs 0 0 Q (F0 m (pc + 3) ls (.int x_a_length :: rest))) : W p l e R s m args below meth c H locs 0 0 Q (F0 m pc ls (.ref (q 3) :: rest)) := cGet uX0 3 rfl rfl 2 (by decide) rfl rfl F E J hl hdg kk
theorem xp_3_2 {z : Int32} (F : CallFix p m c cc nL s args BIG own) (E : EV g A s) (J : VJ g A s.heap (XW g q x_crowd x_latestFault x_places x_mask x_w_robots x_w_size x_w_nexts x_a_length x_t_length x_t_token x_t_from x_t_value x_t_behind x_r_wants x_r_pairs x_r_sees x_r_row x_b_size x_s_size x_w_names x_w_goals x_w_links x_w_linked x_w_ups x_w_downs x_w_next x_a_begun x_t_bytes x_b_rows x_b_acts x_s_rows x_s_acts) H locs) (hl : Cond.fieldLink own index RX0 "length" "I" ∈ BIG) (hdg : decode cc pc = .ok (.putfield index, 3)) (kk : ∀ (H1 : Heap) (locs1 : List Loc), VJ g A s.heap (XW g q x_crowd x_latestFault x_places x_mask x_w_robots x_w_size x_w_nexts z x_t_length x_t_token x_t_from x_t_value x_t_behind x_r_wants x_r_pairs x_r_sees x_r_row x_b_size x_s_size x_w_names x_w_goals x_w_links x_w_linked x_w_ups x_w_downs x_w_next x_a_begun x_t_bytes x_b_rows x_b_acts x_s_rows x_s_acts) H1 locs1 → W p l e R s m args below meth c H1 locs1 0 0 Q (F0 m (pc + 3) ls rest)) : W p l e R s m args below meth c H locs 0 0 Q (F0 m pc ls (.int z :: .ref (q 3) :: rest)) := cPut (ty := .int) (ci := 0) (fs := [.ref (q 1), .ref (q 15), .int x_a_length]) (ws' := (XW g q x_crowd x_latestFault x_places x_mask x_w_robots x_w_size x_w_nexts z x_t_length x_t_token x_t_from x_t_value x_t_behind x_r_wants x_r_pairs x_r_sees x_r_row x_b_size x_s_size x_w_names x_w_goals x_w_links x_w_linked x_w_ups x_w_downs x_w_next x_a_begun x_t_bytes x_b_rows x_b_acts x_s_rows x_s_acts)) uX0 tyX0 tyX0_ok nmX0 3 rfl rfl 2 (by decide) rfl (by decide +kernel) rfl rfl (show 2 < 3 by decide) rfl F E J hl hdg kk
theorem rcX4 : RC (XW g q x_crowd x_latestFault x_places x_mask x_w_robots x_w_size x_w_nexts x_a_length x_t_length x_t_token x_t_from x_t_value x_t_behind x_r_wants x_r_pairs x_r_sees x_r_row x_b_size x_s_size x_w_names x_w_goals x_w_links x_w_linked x_w_ups x_w_downs x_w_next x_a_begun x_t_bytes x_b_rows x_b_acts x_s_rows x_s_acts) (q 4) RX5 := ⟨4, 4, _, _, rfl, rfl, rfl⟩
theorem xg_4_0 (F : CallFix p m c cc nL s args BIG own) (E : EV g A s) (J : VJ g A s.heap (XW g q x_crowd x_latestFault x_places x_mask x_w_robots x_w_size x_w_nexts x_a_length x_t_length x_t_token x_t_from x_t_value x_t_behind x_r_wants x_r_pairs x_r_sees x_r_row x_b_size x_s_size x_w_names x_w_goals x_w_links x_w_linked x_w_ups x_w_downs x_w_next x_a_begun x_t_bytes x_b_rows x_b_acts x_s_rows x_s_acts) H locs) (hl : Cond.fieldLink own index RX5 "bytes" "[I" ∈ BIG) (hdg : decode cc pc = .ok (.getfield index, 3)) (kk : W p l e R s m args below meth c H locs 0 0 Q (F0 m (pc + 3) ls (.ref (q 16) :: rest))) : W p l e R s m args below meth c H locs 0 0 Q (F0 m pc ls (.ref (q 4) :: rest)) := cGet uX5 4 rfl rfl 0 (by decide) rfl rfl F E J hl hdg kk
theorem xg_4_1 (F : CallFix p m c cc nL s args BIG own) (E : EV g A s) (J : VJ g A s.heap (XW g q x_crowd x_latestFault x_places x_mask x_w_robots x_w_size x_w_nexts x_a_length x_t_length x_t_token x_t_from x_t_value x_t_behind x_r_wants x_r_pairs x_r_sees x_r_row x_b_size x_s_size x_w_names x_w_goals x_w_links x_w_linked x_w_ups x_w_downs x_w_next x_a_begun x_t_bytes x_b_rows x_b_acts x_s_rows x_s_acts) H locs) (hl : Cond.fieldLink own index RX5 "length" "I" ∈ BIG) (hdg : decode cc pc = .ok (.getfield index, 3)) (kk : W p l e R s m args below meth c H locs 0 0 Q (F0 m (pc + 3) ls (.int x_t_length :: rest))) : W p l e R s m args below meth c H locs 0 0 Q (F0 m pc ls (.ref (q 4) :: rest)) := cGet uX5 4 rfl rfl 1 (by decide) rfl rfl F E J hl hdg kk
theorem xgN_4_1 (F : CallFix p m c cc nL s args BIG own) (E : EV g A s) (J : VJ g A s.heap (XW g q x_crowd x_latestFault x_places x_mask x_w_robots x_w_size x_w_nexts x_a_length x_t_length x_t_token x_t_from x_t_value x_t_behind x_r_wants x_r_pairs x_r_sees x_r_row x_b_size x_s_size x_w_names x_w_goals x_w_links x_w_linked x_w_ups x_w_downs x_w_next x_a_begun x_t_bytes x_b_rows x_b_acts x_s_rows x_s_acts) H locs) (hl : (own, index, RX5, "length", "I", host) ∈ nsF) (hdg : decode cc pc = .ok (.getfield index, 3)) (kk : W p l e R s m args below meth c H locs 0 0 Q (F0 m (pc + 3) ls (.int x_t_length :: rest))) : W p l e R s m args below meth c H locs 0 0 Q (F0 m pc ls (.ref (q 4) :: rest)) := cGetN uX5 4 rfl rfl 1 (by decide) rfl rfl F E J hl hdg kk
theorem xp_4_1 {z : Int32} (F : CallFix p m c cc nL s args BIG own) (E : EV g A s) (J : VJ g A s.heap (XW g q x_crowd x_latestFault x_places x_mask x_w_robots x_w_size x_w_nexts x_a_length x_t_length x_t_token x_t_from x_t_value x_t_behind x_r_wants x_r_pairs x_r_sees x_r_row x_b_size x_s_size x_w_names x_w_goals x_w_links x_w_linked x_w_ups x_w_downs x_w_next x_a_begun x_t_bytes x_b_rows x_b_acts x_s_rows x_s_acts) H locs) (hl : Cond.fieldLink own index RX5 "length" "I" ∈ BIG) (hdg : decode cc pc = .ok (.putfield index, 3)) (kk : ∀ (H1 : Heap) (locs1 : List Loc), VJ g A s.heap (XW g q x_crowd x_latestFault x_places x_mask x_w_robots x_w_size x_w_nexts x_a_length z x_t_token x_t_from x_t_value x_t_behind x_r_wants x_r_pairs x_r_sees x_r_row x_b_size x_s_size x_w_names x_w_goals x_w_links x_w_linked x_w_ups x_w_downs x_w_next x_a_begun x_t_bytes x_b_rows x_b_acts x_s_rows x_s_acts) H1 locs1 → W p l e R s m args below meth c H1 locs1 0 0 Q (F0 m (pc + 3) ls rest)) : W p l e R s m args below meth c H locs 0 0 Q (F0 m pc ls (.int z :: .ref (q 4) :: rest)) := cPut (ty := .int) (ci := 4) (fs := [.ref (q 16), .int x_t_length, .int x_t_token, .int x_t_from, .int x_t_value, .int x_t_behind]) (ws' := (XW g q x_crowd x_latestFault x_places x_mask x_w_robots x_w_size x_w_nexts x_a_length z x_t_token x_t_from x_t_value x_t_behind x_r_wants x_r_pairs x_r_sees x_r_row x_b_size x_s_size x_w_names x_w_goals x_w_links x_w_linked x_w_ups x_w_downs x_w_next x_a_begun x_t_bytes x_b_rows x_b_acts x_s_rows x_s_acts)) uX5 tyX5 tyX5_ok nmX5 4 rfl rfl 1 (by decide) rfl (by decide +kernel) rfl rfl (show 1 < 6 by decide) rfl F E J hl hdg kk
theorem xg_4_2 (F : CallFix p m c cc nL s args BIG own) (E : EV g A s) (J : VJ g A s.heap (XW g q x_crowd x_latestFault x_places x_mask x_w_robots x_w_size x_w_nexts x_a_length x_t_length x_t_token x_t_from x_t_value x_t_behind x_r_wants x_r_pairs x_r_sees x_r_row x_b_size x_s_size x_w_names x_w_goals x_w_links x_w_linked x_w_ups x_w_downs x_w_next x_a_begun x_t_bytes x_b_rows x_b_acts x_s_rows x_s_acts) H locs) (hl : Cond.fieldLink own index RX5 "token" "I" ∈ BIG) (hdg : decode cc pc = .ok (.getfield index, 3)) (kk : W p l e R s m args below meth c H locs 0 0 Q (F0 m (pc + 3) ls (.int x_t_token :: rest))) : W p l e R s m args below meth c H locs 0 0 Q (F0 m pc ls (.ref (q 4) :: rest)) := cGet uX5 4 rfl rfl 2 (by decide) rfl rfl F E J hl hdg kk
theorem xgN_4_2 (F : CallFix p m c cc nL s args BIG own) (E : EV g A s) (J : VJ g A s.heap (XW g q x_crowd x_latestFault x_places x_mask x_w_robots x_w_size x_w_nexts x_a_length x_t_length x_t_token x_t_from x_t_value x_t_behind x_r_wants x_r_pairs x_r_sees x_r_row x_b_size x_s_size x_w_names x_w_goals x_w_links x_w_linked x_w_ups x_w_downs x_w_next x_a_begun x_t_bytes x_b_rows x_b_acts x_s_rows x_s_acts) H locs) (hl : (own, index, RX5, "token", "I", host) ∈ nsF) (hdg : decode cc pc = .ok (.getfield index, 3)) (kk : W p l e R s m args below meth c H locs 0 0 Q (F0 m (pc + 3) ls (.int x_t_token :: rest))) : W p l e R s m args below meth c H locs 0 0 Q (F0 m pc ls (.ref (q 4) :: rest)) := cGetN uX5 4 rfl rfl 2 (by decide) rfl rfl F E J hl hdg kk
theorem xp_4_2 {z : Int32} (F : CallFix p m c cc nL s args BIG own) (E : EV g A s) (J : VJ g A s.heap (XW g q x_crowd x_latestFault x_places x_mask x_w_robots x_w_size x_w_nexts x_a_length x_t_length x_t_token x_t_from x_t_value x_t_behind x_r_wants x_r_pairs x_r_sees x_r_row x_b_size x_s_size x_w_names x_w_goals x_w_links x_w_linked x_w_ups x_w_downs x_w_next x_a_begun x_t_bytes x_b_rows x_b_acts x_s_rows x_s_acts) H locs) (hl : Cond.fieldLink own index RX5 "token" "I" ∈ BIG) (hdg : decode cc pc = .ok (.putfield index, 3)) (kk : ∀ (H1 : Heap) (locs1 : List Loc), VJ g A s.heap (XW g q x_crowd x_latestFault x_places x_mask x_w_robots x_w_size x_w_nexts x_a_length x_t_length z x_t_from x_t_value x_t_behind x_r_wants x_r_pairs x_r_sees x_r_row x_b_size x_s_size x_w_names x_w_goals x_w_links x_w_linked x_w_ups x_w_downs x_w_next x_a_begun x_t_bytes x_b_rows x_b_acts x_s_rows x_s_acts) H1 locs1 → W p l e R s m args below meth c H1 locs1 0 0 Q (F0 m (pc + 3) ls rest)) : W p l e R s m args below meth c H locs 0 0 Q (F0 m pc ls (.int z :: .ref (q 4) :: rest)) := cPut (ty := .int) (ci := 4) (fs := [.ref (q 16), .int x_t_length, .int x_t_token, .int x_t_from, .int x_t_value, .int x_t_behind]) (ws' := (XW g q x_crowd x_latestFault x_places x_mask x_w_robots x_w_size x_w_nexts x_a_length x_t_length z x_t_from x_t_value x_t_behind x_r_wants x_r_pairs x_r_sees x_r_row x_b_size x_s_size x_w_names x_w_goals x_w_links x_w_linked x_w_ups x_w_downs x_w_next x_a_begun x_t_bytes x_b_rows x_b_acts x_s_rows x_s_acts)) uX5 tyX5 tyX5_ok nmX5 4 rfl rfl 2 (by decide) rfl (by decide +kernel) rfl rfl (show 2 < 6 by decide) rfl F E J hl hdg kk
theorem xg_4_3 (F : CallFix p m c cc nL s args BIG own) (E : EV g A s) (J : VJ g A s.heap (XW g q x_crowd x_latestFault x_places x_mask x_w_robots x_w_size x_w_nexts x_a_length x_t_length x_t_token x_t_from x_t_value x_t_behind x_r_wants x_r_pairs x_r_sees x_r_row x_b_size x_s_size x_w_names x_w_goals x_w_links x_w_linked x_w_ups x_w_downs x_w_next x_a_begun x_t_bytes x_b_rows x_b_acts x_s_rows x_s_acts) H locs) (hl : Cond.fieldLink own index RX5 "from" "I" ∈ BIG) (hdg : decode cc pc = .ok (.getfield index, 3)) (kk : W p l e R s m args below meth c H locs 0 0 Q (F0 m (pc + 3) ls (.int x_t_from :: rest))) : W p l e R s m args below meth c H locs 0 0 Q (F0 m pc ls (.ref (q 4) :: rest)) := cGet uX5 4 rfl rfl 3 (by decide) rfl rfl F E J hl hdg kk
theorem xgN_4_3 (F : CallFix p m c cc nL s args BIG own) (E : EV g A s) (J : VJ g A s.heap (XW g q x_crowd x_latestFault x_places x_mask x_w_robots x_w_size x_w_nexts x_a_length x_t_length x_t_token x_t_from x_t_value x_t_behind x_r_wants x_r_pairs x_r_sees x_r_row x_b_size x_s_size x_w_names x_w_goals x_w_links x_w_linked x_w_ups x_w_downs x_w_next x_a_begun x_t_bytes x_b_rows x_b_acts x_s_rows x_s_acts) H locs) (hl : (own, index, RX5, "from", "I", host) ∈ nsF) (hdg : decode cc pc = .ok (.getfield index, 3)) (kk : W p l e R s m args below meth c H locs 0 0 Q (F0 m (pc + 3) ls (.int x_t_from :: rest))) : W p l e R s m args below meth c H locs 0 0 Q (F0 m pc ls (.ref (q 4) :: rest)) := cGetN uX5 4 rfl rfl 3 (by decide) rfl rfl F E J hl hdg kk
theorem xp_4_3 {z : Int32} (F : CallFix p m c cc nL s args BIG own) (E : EV g A s) (J : VJ g A s.heap (XW g q x_crowd x_latestFault x_places x_mask x_w_robots x_w_size x_w_nexts x_a_length x_t_length x_t_token x_t_from x_t_value x_t_behind x_r_wants x_r_pairs x_r_sees x_r_row x_b_size x_s_size x_w_names x_w_goals x_w_links x_w_linked x_w_ups x_w_downs x_w_next x_a_begun x_t_bytes x_b_rows x_b_acts x_s_rows x_s_acts) H locs) (hl : Cond.fieldLink own index RX5 "from" "I" ∈ BIG) (hdg : decode cc pc = .ok (.putfield index, 3)) (kk : ∀ (H1 : Heap) (locs1 : List Loc), VJ g A s.heap (XW g q x_crowd x_latestFault x_places x_mask x_w_robots x_w_size x_w_nexts x_a_length x_t_length x_t_token z x_t_value x_t_behind x_r_wants x_r_pairs x_r_sees x_r_row x_b_size x_s_size x_w_names x_w_goals x_w_links x_w_linked x_w_ups x_w_downs x_w_next x_a_begun x_t_bytes x_b_rows x_b_acts x_s_rows x_s_acts) H1 locs1 → W p l e R s m args below meth c H1 locs1 0 0 Q (F0 m (pc + 3) ls rest)) : W p l e R s m args below meth c H locs 0 0 Q (F0 m pc ls (.int z :: .ref (q 4) :: rest)) := cPut (ty := .int) (ci := 4) (fs := [.ref (q 16), .int x_t_length, .int x_t_token, .int x_t_from, .int x_t_value, .int x_t_behind]) (ws' := (XW g q x_crowd x_latestFault x_places x_mask x_w_robots x_w_size x_w_nexts x_a_length x_t_length x_t_token z x_t_value x_t_behind x_r_wants x_r_pairs x_r_sees x_r_row x_b_size x_s_size x_w_names x_w_goals x_w_links x_w_linked x_w_ups x_w_downs x_w_next x_a_begun x_t_bytes x_b_rows x_b_acts x_s_rows x_s_acts)) uX5 tyX5 tyX5_ok nmX5 4 rfl rfl 3 (by decide) rfl (by decide +kernel) rfl rfl (show 3 < 6 by decide) rfl F E J hl hdg kk
theorem xg_4_4 (F : CallFix p m c cc nL s args BIG own) (E : EV g A s) (J : VJ g A s.heap (XW g q x_crowd x_latestFault x_places x_mask x_w_robots x_w_size x_w_nexts x_a_length x_t_length x_t_token x_t_from x_t_value x_t_behind x_r_wants x_r_pairs x_r_sees x_r_row x_b_size x_s_size x_w_names x_w_goals x_w_links x_w_linked x_w_ups x_w_downs x_w_next x_a_begun x_t_bytes x_b_rows x_b_acts x_s_rows x_s_acts) H locs) (hl : Cond.fieldLink own index RX5 "value" "I" ∈ BIG) (hdg : decode cc pc = .ok (.getfield index, 3)) (kk : W p l e R s m args below meth c H locs 0 0 Q (F0 m (pc + 3) ls (.int x_t_value :: rest))) : W p l e R s m args below meth c H locs 0 0 Q (F0 m pc ls (.ref (q 4) :: rest)) := cGet uX5 4 rfl rfl 4 (by decide) rfl rfl F E J hl hdg kk
theorem xgN_4_4 (F : CallFix p m c cc nL s args BIG own) (E : EV g A s) (J : VJ g A s.heap (XW g q x_crowd x_latestFault x_places x_mask x_w_robots x_w_size x_w_nexts x_a_length x_t_length x_t_token x_t_from x_t_value x_t_behind x_r_wants x_r_pairs x_r_sees x_r_row x_b_size x_s_size x_w_names x_w_goals x_w_links x_w_linked x_w_ups x_w_downs x_w_next x_a_begun x_t_bytes x_b_rows x_b_acts x_s_rows x_s_acts) H locs) (hl : (own, index, RX5, "value", "I", host) ∈ nsF) (hdg : decode cc pc = .ok (.getfield index, 3)) (kk : W p l e R s m args below meth c H locs 0 0 Q (F0 m (pc + 3) ls (.int x_t_value :: rest))) : W p l e R s m args below meth c H locs 0 0 Q (F0 m pc ls (.ref (q 4) :: rest)) := cGetN uX5 4 rfl rfl 4 (by decide) rfl rfl F E J hl hdg kk
theorem xp_4_4 {z : Int32} (F : CallFix p m c cc nL s args BIG own) (E : EV g A s) (J : VJ g A s.heap (XW g q x_crowd x_latestFault x_places x_mask x_w_robots x_w_size x_w_nexts x_a_length x_t_length x_t_token x_t_from x_t_value x_t_behind x_r_wants x_r_pairs x_r_sees x_r_row x_b_size x_s_size x_w_names x_w_goals x_w_links x_w_linked x_w_ups x_w_downs x_w_next x_a_begun x_t_bytes x_b_rows x_b_acts x_s_rows x_s_acts) H locs) (hl : Cond.fieldLink own index RX5 "value" "I" ∈ BIG) (hdg : decode cc pc = .ok (.putfield index, 3)) (kk : ∀ (H1 : Heap) (locs1 : List Loc), VJ g A s.heap (XW g q x_crowd x_latestFault x_places x_mask x_w_robots x_w_size x_w_nexts x_a_length x_t_length x_t_token x_t_from z x_t_behind x_r_wants x_r_pairs x_r_sees x_r_row x_b_size x_s_size x_w_names x_w_goals x_w_links x_w_linked x_w_ups x_w_downs x_w_next x_a_begun x_t_bytes x_b_rows x_b_acts x_s_rows x_s_acts) H1 locs1 → W p l e R s m args below meth c H1 locs1 0 0 Q (F0 m (pc + 3) ls rest)) : W p l e R s m args below meth c H locs 0 0 Q (F0 m pc ls (.int z :: .ref (q 4) :: rest)) := cPut (ty := .int) (ci := 4) (fs := [.ref (q 16), .int x_t_length, .int x_t_token, .int x_t_from, .int x_t_value, .int x_t_behind]) (ws' := (XW g q x_crowd x_latestFault x_places x_mask x_w_robots x_w_size x_w_nexts x_a_length x_t_length x_t_token x_t_from z x_t_behind x_r_wants x_r_pairs x_r_sees x_r_row x_b_size x_s_size x_w_names x_w_goals x_w_links x_w_linked x_w_ups x_w_downs x_w_next x_a_begun x_t_bytes x_b_rows x_b_acts x_s_rows x_s_acts)) uX5 tyX5 tyX5_ok nmX5 4 rfl rfl 4 (by decide) rfl (by decide +kernel) rfl rfl (show 4 < 6 by decide) rfl F E J hl hdg kk
theorem xg_4_5 (F : CallFix p m c cc nL s args BIG own) (E : EV g A s) (J : VJ g A s.heap (XW g q x_crowd x_latestFault x_places x_mask x_w_robots x_w_size x_w_nexts x_a_length x_t_length x_t_token x_t_from x_t_value x_t_behind x_r_wants x_r_pairs x_r_sees x_r_row x_b_size x_s_size x_w_names x_w_goals x_w_links x_w_linked x_w_ups x_w_downs x_w_next x_a_begun x_t_bytes x_b_rows x_b_acts x_s_rows x_s_acts) H locs) (hl : Cond.fieldLink own index RX5 "behind" "I" ∈ BIG) (hdg : decode cc pc = .ok (.getfield index, 3)) (kk : W p l e R s m args below meth c H locs 0 0 Q (F0 m (pc + 3) ls (.int x_t_behind :: rest))) : W p l e R s m args below meth c H locs 0 0 Q (F0 m pc ls (.ref (q 4) :: rest)) := cGet uX5 4 rfl rfl 5 (by decide) rfl rfl F E J hl hdg kk
theorem xp_4_5 {z : Int32} (F : CallFix p m c cc nL s args BIG own) (E : EV g A s) (J : VJ g A s.heap (XW g q x_crowd x_latestFault x_places x_mask x_w_robots x_w_size x_w_nexts x_a_length x_t_length x_t_token x_t_from x_t_value x_t_behind x_r_wants x_r_pairs x_r_sees x_r_row x_b_size x_s_size x_w_names x_w_goals x_w_links x_w_linked x_w_ups x_w_downs x_w_next x_a_begun x_t_bytes x_b_rows x_b_acts x_s_rows x_s_acts) H locs) (hl : Cond.fieldLink own index RX5 "behind" "I" ∈ BIG) (hdg : decode cc pc = .ok (.putfield index, 3)) (kk : ∀ (H1 : Heap) (locs1 : List Loc), VJ g A s.heap (XW g q x_crowd x_latestFault x_places x_mask x_w_robots x_w_size x_w_nexts x_a_length x_t_length x_t_token x_t_from x_t_value z x_r_wants x_r_pairs x_r_sees x_r_row x_b_size x_s_size x_w_names x_w_goals x_w_links x_w_linked x_w_ups x_w_downs x_w_next x_a_begun x_t_bytes x_b_rows x_b_acts x_s_rows x_s_acts) H1 locs1 → W p l e R s m args below meth c H1 locs1 0 0 Q (F0 m (pc + 3) ls rest)) : W p l e R s m args below meth c H locs 0 0 Q (F0 m pc ls (.int z :: .ref (q 4) :: rest)) := cPut (ty := .int) (ci := 4) (fs := [.ref (q 16), .int x_t_length, .int x_t_token, .int x_t_from, .int x_t_value, .int x_t_behind]) (ws' := (XW g q x_crowd x_latestFault x_places x_mask x_w_robots x_w_size x_w_nexts x_a_length x_t_length x_t_token x_t_from x_t_value z x_r_wants x_r_pairs x_r_sees x_r_row x_b_size x_s_size x_w_names x_w_goals x_w_links x_w_linked x_w_ups x_w_downs x_w_next x_a_begun x_t_bytes x_b_rows x_b_acts x_s_rows x_s_acts)) uX5 tyX5 tyX5_ok nmX5 4 rfl rfl 5 (by decide) rfl (by decide +kernel) rfl rfl (show 5 < 6 by decide) rfl F E J hl hdg kk
theorem rcX5 : RC (XW g q x_crowd x_latestFault x_places x_mask x_w_robots x_w_size x_w_nexts x_a_length x_t_length x_t_token x_t_from x_t_value x_t_behind x_r_wants x_r_pairs x_r_sees x_r_row x_b_size x_s_size x_w_names x_w_goals x_w_links x_w_linked x_w_ups x_w_downs x_w_next x_a_begun x_t_bytes x_b_rows x_b_acts x_s_rows x_s_acts) (q 5) RX2 := ⟨5, 2, _, _, rfl, rfl, rfl⟩
theorem xg_5_0 (F : CallFix p m c cc nL s args BIG own) (E : EV g A s) (J : VJ g A s.heap (XW g q x_crowd x_latestFault x_places x_mask x_w_robots x_w_size x_w_nexts x_a_length x_t_length x_t_token x_t_from x_t_value x_t_behind x_r_wants x_r_pairs x_r_sees x_r_row x_b_size x_s_size x_w_names x_w_goals x_w_links x_w_linked x_w_ups x_w_downs x_w_next x_a_begun x_t_bytes x_b_rows x_b_acts x_s_rows x_s_acts) H locs) (hl : Cond.fieldLink own index RX2 "tape" "LRingCrowd$Tape;" ∈ BIG) (hdg : decode cc pc = .ok (.getfield index, 3)) (kk : W p l e R s m args below meth c H locs 0 0 Q (F0 m (pc + 3) ls (.ref (q 4) :: rest))) : W p l e R s m args below meth c H locs 0 0 Q (F0 m pc ls (.ref (q 5) :: rest)) := cGet uX2 5 rfl rfl 0 (by decide) rfl rfl F E J hl hdg kk
theorem xg_5_1 (F : CallFix p m c cc nL s args BIG own) (E : EV g A s) (J : VJ g A s.heap (XW g q x_crowd x_latestFault x_places x_mask x_w_robots x_w_size x_w_nexts x_a_length x_t_length x_t_token x_t_from x_t_value x_t_behind x_r_wants x_r_pairs x_r_sees x_r_row x_b_size x_s_size x_w_names x_w_goals x_w_links x_w_linked x_w_ups x_w_downs x_w_next x_a_begun x_t_bytes x_b_rows x_b_acts x_s_rows x_s_acts) H locs) (hl : Cond.fieldLink own index RX2 "wants" "I" ∈ BIG) (hdg : decode cc pc = .ok (.getfield index, 3)) (kk : W p l e R s m args below meth c H locs 0 0 Q (F0 m (pc + 3) ls (.int x_r_wants :: rest))) : W p l e R s m args below meth c H locs 0 0 Q (F0 m pc ls (.ref (q 5) :: rest)) := cGet uX2 5 rfl rfl 1 (by decide) rfl rfl F E J hl hdg kk
theorem xp_5_1 {z : Int32} (F : CallFix p m c cc nL s args BIG own) (E : EV g A s) (J : VJ g A s.heap (XW g q x_crowd x_latestFault x_places x_mask x_w_robots x_w_size x_w_nexts x_a_length x_t_length x_t_token x_t_from x_t_value x_t_behind x_r_wants x_r_pairs x_r_sees x_r_row x_b_size x_s_size x_w_names x_w_goals x_w_links x_w_linked x_w_ups x_w_downs x_w_next x_a_begun x_t_bytes x_b_rows x_b_acts x_s_rows x_s_acts) H locs) (hl : Cond.fieldLink own index RX2 "wants" "I" ∈ BIG) (hdg : decode cc pc = .ok (.putfield index, 3)) (kk : ∀ (H1 : Heap) (locs1 : List Loc), VJ g A s.heap (XW g q x_crowd x_latestFault x_places x_mask x_w_robots x_w_size x_w_nexts x_a_length x_t_length x_t_token x_t_from x_t_value x_t_behind z x_r_pairs x_r_sees x_r_row x_b_size x_s_size x_w_names x_w_goals x_w_links x_w_linked x_w_ups x_w_downs x_w_next x_a_begun x_t_bytes x_b_rows x_b_acts x_s_rows x_s_acts) H1 locs1 → W p l e R s m args below meth c H1 locs1 0 0 Q (F0 m (pc + 3) ls rest)) : W p l e R s m args below meth c H locs 0 0 Q (F0 m pc ls (.int z :: .ref (q 5) :: rest)) := cPut (ty := .int) (ci := 2) (fs := [.ref (q 4), .int x_r_wants, .int x_r_pairs, .int x_r_sees, .long x_r_row]) (ws' := (XW g q x_crowd x_latestFault x_places x_mask x_w_robots x_w_size x_w_nexts x_a_length x_t_length x_t_token x_t_from x_t_value x_t_behind z x_r_pairs x_r_sees x_r_row x_b_size x_s_size x_w_names x_w_goals x_w_links x_w_linked x_w_ups x_w_downs x_w_next x_a_begun x_t_bytes x_b_rows x_b_acts x_s_rows x_s_acts)) uX2 tyX2 tyX2_ok nmX2 5 rfl rfl 1 (by decide) rfl (by decide +kernel) rfl rfl (show 1 < 5 by decide) rfl F E J hl hdg kk
theorem xg_5_2 (F : CallFix p m c cc nL s args BIG own) (E : EV g A s) (J : VJ g A s.heap (XW g q x_crowd x_latestFault x_places x_mask x_w_robots x_w_size x_w_nexts x_a_length x_t_length x_t_token x_t_from x_t_value x_t_behind x_r_wants x_r_pairs x_r_sees x_r_row x_b_size x_s_size x_w_names x_w_goals x_w_links x_w_linked x_w_ups x_w_downs x_w_next x_a_begun x_t_bytes x_b_rows x_b_acts x_s_rows x_s_acts) H locs) (hl : Cond.fieldLink own index RX2 "pairs" "I" ∈ BIG) (hdg : decode cc pc = .ok (.getfield index, 3)) (kk : W p l e R s m args below meth c H locs 0 0 Q (F0 m (pc + 3) ls (.int x_r_pairs :: rest))) : W p l e R s m args below meth c H locs 0 0 Q (F0 m pc ls (.ref (q 5) :: rest)) := cGet uX2 5 rfl rfl 2 (by decide) rfl rfl F E J hl hdg kk
theorem xp_5_2 {z : Int32} (F : CallFix p m c cc nL s args BIG own) (E : EV g A s) (J : VJ g A s.heap (XW g q x_crowd x_latestFault x_places x_mask x_w_robots x_w_size x_w_nexts x_a_length x_t_length x_t_token x_t_from x_t_value x_t_behind x_r_wants x_r_pairs x_r_sees x_r_row x_b_size x_s_size x_w_names x_w_goals x_w_links x_w_linked x_w_ups x_w_downs x_w_next x_a_begun x_t_bytes x_b_rows x_b_acts x_s_rows x_s_acts) H locs) (hl : Cond.fieldLink own index RX2 "pairs" "I" ∈ BIG) (hdg : decode cc pc = .ok (.putfield index, 3)) (kk : ∀ (H1 : Heap) (locs1 : List Loc), VJ g A s.heap (XW g q x_crowd x_latestFault x_places x_mask x_w_robots x_w_size x_w_nexts x_a_length x_t_length x_t_token x_t_from x_t_value x_t_behind x_r_wants z x_r_sees x_r_row x_b_size x_s_size x_w_names x_w_goals x_w_links x_w_linked x_w_ups x_w_downs x_w_next x_a_begun x_t_bytes x_b_rows x_b_acts x_s_rows x_s_acts) H1 locs1 → W p l e R s m args below meth c H1 locs1 0 0 Q (F0 m (pc + 3) ls rest)) : W p l e R s m args below meth c H locs 0 0 Q (F0 m pc ls (.int z :: .ref (q 5) :: rest)) := cPut (ty := .int) (ci := 2) (fs := [.ref (q 4), .int x_r_wants, .int x_r_pairs, .int x_r_sees, .long x_r_row]) (ws' := (XW g q x_crowd x_latestFault x_places x_mask x_w_robots x_w_size x_w_nexts x_a_length x_t_length x_t_token x_t_from x_t_value x_t_behind x_r_wants z x_r_sees x_r_row x_b_size x_s_size x_w_names x_w_goals x_w_links x_w_linked x_w_ups x_w_downs x_w_next x_a_begun x_t_bytes x_b_rows x_b_acts x_s_rows x_s_acts)) uX2 tyX2 tyX2_ok nmX2 5 rfl rfl 2 (by decide) rfl (by decide +kernel) rfl rfl (show 2 < 5 by decide) rfl F E J hl hdg kk
theorem xg_5_3 (F : CallFix p m c cc nL s args BIG own) (E : EV g A s) (J : VJ g A s.heap (XW g q x_crowd x_latestFault x_places x_mask x_w_robots x_w_size x_w_nexts x_a_length x_t_length x_t_token x_t_from x_t_value x_t_behind x_r_wants x_r_pairs x_r_sees x_r_row x_b_size x_s_size x_w_names x_w_goals x_w_links x_w_linked x_w_ups x_w_downs x_w_next x_a_begun x_t_bytes x_b_rows x_b_acts x_s_rows x_s_acts) H locs) (hl : Cond.fieldLink own index RX2 "sees" "I" ∈ BIG) (hdg : decode cc pc = .ok (.getfield index, 3)) (kk : W p l e R s m args below meth c H locs 0 0 Q (F0 m (pc + 3) ls (.int x_r_sees :: rest))) : W p l e R s m args below meth c H locs 0 0 Q (F0 m pc ls (.ref (q 5) :: rest)) := cGet uX2 5 rfl rfl 3 (by decide) rfl rfl F E J hl hdg kk
theorem xp_5_3 {z : Int32} (F : CallFix p m c cc nL s args BIG own) (E : EV g A s) (J : VJ g A s.heap (XW g q x_crowd x_latestFault x_places x_mask x_w_robots x_w_size x_w_nexts x_a_length x_t_length x_t_token x_t_from x_t_value x_t_behind x_r_wants x_r_pairs x_r_sees x_r_row x_b_size x_s_size x_w_names x_w_goals x_w_links x_w_linked x_w_ups x_w_downs x_w_next x_a_begun x_t_bytes x_b_rows x_b_acts x_s_rows x_s_acts) H locs) (hl : Cond.fieldLink own index RX2 "sees" "I" ∈ BIG) (hdg : decode cc pc = .ok (.putfield index, 3)) (kk : ∀ (H1 : Heap) (locs1 : List Loc), VJ g A s.heap (XW g q x_crowd x_latestFault x_places x_mask x_w_robots x_w_size x_w_nexts x_a_length x_t_length x_t_token x_t_from x_t_value x_t_behind x_r_wants x_r_pairs z x_r_row x_b_size x_s_size x_w_names x_w_goals x_w_links x_w_linked x_w_ups x_w_downs x_w_next x_a_begun x_t_bytes x_b_rows x_b_acts x_s_rows x_s_acts) H1 locs1 → W p l e R s m args below meth c H1 locs1 0 0 Q (F0 m (pc + 3) ls rest)) : W p l e R s m args below meth c H locs 0 0 Q (F0 m pc ls (.int z :: .ref (q 5) :: rest)) := cPut (ty := .int) (ci := 2) (fs := [.ref (q 4), .int x_r_wants, .int x_r_pairs, .int x_r_sees, .long x_r_row]) (ws' := (XW g q x_crowd x_latestFault x_places x_mask x_w_robots x_w_size x_w_nexts x_a_length x_t_length x_t_token x_t_from x_t_value x_t_behind x_r_wants x_r_pairs z x_r_row x_b_size x_s_size x_w_names x_w_goals x_w_links x_w_linked x_w_ups x_w_downs x_w_next x_a_begun x_t_bytes x_b_rows x_b_acts x_s_rows x_s_acts)) uX2 tyX2 tyX2_ok nmX2 5 rfl rfl 3 (by decide) rfl (by decide +kernel) rfl rfl (show 3 < 5 by decide) rfl F E J hl hdg kk
theorem xg_5_4 (F : CallFix p m c cc nL s args BIG own) (E : EV g A s) (J : VJ g A s.heap (XW g q x_crowd x_latestFault x_places x_mask x_w_robots x_w_size x_w_nexts x_a_length x_t_length x_t_token x_t_from x_t_value x_t_behind x_r_wants x_r_pairs x_r_sees x_r_row x_b_size x_s_size x_w_names x_w_goals x_w_links x_w_linked x_w_ups x_w_downs x_w_next x_a_begun x_t_bytes x_b_rows x_b_acts x_s_rows x_s_acts) H locs) (hl : Cond.fieldLink own index RX2 "row" "J" ∈ BIG) (hdg : decode cc pc = .ok (.getfield index, 3)) (kk : W p l e R s m args below meth c H locs 0 0 Q (F0 m (pc + 3) ls (.long x_r_row :: rest))) : W p l e R s m args below meth c H locs 0 0 Q (F0 m pc ls (.ref (q 5) :: rest)) := cGet uX2 5 rfl rfl 4 (by decide) rfl rfl F E J hl hdg kk
theorem xp_5_4 {z : Int64} (F : CallFix p m c cc nL s args BIG own) (E : EV g A s) (J : VJ g A s.heap (XW g q x_crowd x_latestFault x_places x_mask x_w_robots x_w_size x_w_nexts x_a_length x_t_length x_t_token x_t_from x_t_value x_t_behind x_r_wants x_r_pairs x_r_sees x_r_row x_b_size x_s_size x_w_names x_w_goals x_w_links x_w_linked x_w_ups x_w_downs x_w_next x_a_begun x_t_bytes x_b_rows x_b_acts x_s_rows x_s_acts) H locs) (hl : Cond.fieldLink own index RX2 "row" "J" ∈ BIG) (hdg : decode cc pc = .ok (.putfield index, 3)) (kk : ∀ (H1 : Heap) (locs1 : List Loc), VJ g A s.heap (XW g q x_crowd x_latestFault x_places x_mask x_w_robots x_w_size x_w_nexts x_a_length x_t_length x_t_token x_t_from x_t_value x_t_behind x_r_wants x_r_pairs x_r_sees z x_b_size x_s_size x_w_names x_w_goals x_w_links x_w_linked x_w_ups x_w_downs x_w_next x_a_begun x_t_bytes x_b_rows x_b_acts x_s_rows x_s_acts) H1 locs1 → W p l e R s m args below meth c H1 locs1 0 0 Q (F0 m (pc + 3) ls rest)) : W p l e R s m args below meth c H locs 0 0 Q (F0 m pc ls (.long z :: .ref (q 5) :: rest)) := cPut (ty := .long) (ci := 2) (fs := [.ref (q 4), .int x_r_wants, .int x_r_pairs, .int x_r_sees, .long x_r_row]) (ws' := (XW g q x_crowd x_latestFault x_places x_mask x_w_robots x_w_size x_w_nexts x_a_length x_t_length x_t_token x_t_from x_t_value x_t_behind x_r_wants x_r_pairs x_r_sees z x_b_size x_s_size x_w_names x_w_goals x_w_links x_w_linked x_w_ups x_w_downs x_w_next x_a_begun x_t_bytes x_b_rows x_b_acts x_s_rows x_s_acts)) uX2 tyX2 tyX2_ok nmX2 5 rfl rfl 4 (by decide) rfl (by decide +kernel) rfl rfl (show 4 < 5 by decide) rfl F E J hl hdg kk
theorem rcX6 : RC (XW g q x_crowd x_latestFault x_places x_mask x_w_robots x_w_size x_w_nexts x_a_length x_t_length x_t_token x_t_from x_t_value x_t_behind x_r_wants x_r_pairs x_r_sees x_r_row x_b_size x_s_size x_w_names x_w_goals x_w_links x_w_linked x_w_ups x_w_downs x_w_next x_a_begun x_t_bytes x_b_rows x_b_acts x_s_rows x_s_acts) (q 6) RX1 := ⟨6, 1, _, _, rfl, rfl, rfl⟩
theorem xg_6_0 (F : CallFix p m c cc nL s args BIG own) (E : EV g A s) (J : VJ g A s.heap (XW g q x_crowd x_latestFault x_places x_mask x_w_robots x_w_size x_w_nexts x_a_length x_t_length x_t_token x_t_from x_t_value x_t_behind x_r_wants x_r_pairs x_r_sees x_r_row x_b_size x_s_size x_w_names x_w_goals x_w_links x_w_linked x_w_ups x_w_downs x_w_next x_a_begun x_t_bytes x_b_rows x_b_acts x_s_rows x_s_acts) H locs) (hl : Cond.fieldLink own index RX1 "rows" "[J" ∈ BIG) (hdg : decode cc pc = .ok (.getfield index, 3)) (kk : W p l e R s m args below meth c H locs 0 0 Q (F0 m (pc + 3) ls (.ref (q 17) :: rest))) : W p l e R s m args below meth c H locs 0 0 Q (F0 m pc ls (.ref (q 6) :: rest)) := cGet uX1 6 rfl rfl 0 (by decide) rfl rfl F E J hl hdg kk
theorem xg_6_1 (F : CallFix p m c cc nL s args BIG own) (E : EV g A s) (J : VJ g A s.heap (XW g q x_crowd x_latestFault x_places x_mask x_w_robots x_w_size x_w_nexts x_a_length x_t_length x_t_token x_t_from x_t_value x_t_behind x_r_wants x_r_pairs x_r_sees x_r_row x_b_size x_s_size x_w_names x_w_goals x_w_links x_w_linked x_w_ups x_w_downs x_w_next x_a_begun x_t_bytes x_b_rows x_b_acts x_s_rows x_s_acts) H locs) (hl : Cond.fieldLink own index RX1 "acts" "[I" ∈ BIG) (hdg : decode cc pc = .ok (.getfield index, 3)) (kk : W p l e R s m args below meth c H locs 0 0 Q (F0 m (pc + 3) ls (.ref (q 18) :: rest))) : W p l e R s m args below meth c H locs 0 0 Q (F0 m pc ls (.ref (q 6) :: rest)) := cGet uX1 6 rfl rfl 1 (by decide) rfl rfl F E J hl hdg kk
theorem xg_6_2 (F : CallFix p m c cc nL s args BIG own) (E : EV g A s) (J : VJ g A s.heap (XW g q x_crowd x_latestFault x_places x_mask x_w_robots x_w_size x_w_nexts x_a_length x_t_length x_t_token x_t_from x_t_value x_t_behind x_r_wants x_r_pairs x_r_sees x_r_row x_b_size x_s_size x_w_names x_w_goals x_w_links x_w_linked x_w_ups x_w_downs x_w_next x_a_begun x_t_bytes x_b_rows x_b_acts x_s_rows x_s_acts) H locs) (hl : Cond.fieldLink own index RX1 "size" "I" ∈ BIG) (hdg : decode cc pc = .ok (.getfield index, 3)) (kk : W p l e R s m args below meth c H locs 0 0 Q (F0 m (pc + 3) ls (.int x_b_size :: rest))) : W p l e R s m args below meth c H locs 0 0 Q (F0 m pc ls (.ref (q 6) :: rest)) := cGet uX1 6 rfl rfl 2 (by decide) rfl rfl F E J hl hdg kk
theorem xgN_6_2 (F : CallFix p m c cc nL s args BIG own) (E : EV g A s) (J : VJ g A s.heap (XW g q x_crowd x_latestFault x_places x_mask x_w_robots x_w_size x_w_nexts x_a_length x_t_length x_t_token x_t_from x_t_value x_t_behind x_r_wants x_r_pairs x_r_sees x_r_row x_b_size x_s_size x_w_names x_w_goals x_w_links x_w_linked x_w_ups x_w_downs x_w_next x_a_begun x_t_bytes x_b_rows x_b_acts x_s_rows x_s_acts) H locs) (hl : (own, index, RX1, "size", "I", host) ∈ nsF) (hdg : decode cc pc = .ok (.getfield index, 3)) (kk : W p l e R s m args below meth c H locs 0 0 Q (F0 m (pc + 3) ls (.int x_b_size :: rest))) : W p l e R s m args below meth c H locs 0 0 Q (F0 m pc ls (.ref (q 6) :: rest)) := cGetN uX1 6 rfl rfl 2 (by decide) rfl rfl F E J hl hdg kk
theorem xp_6_2 {z : Int32} (F : CallFix p m c cc nL s args BIG own) (E : EV g A s) (J : VJ g A s.heap (XW g q x_crowd x_latestFault x_places x_mask x_w_robots x_w_size x_w_nexts x_a_length x_t_length x_t_token x_t_from x_t_value x_t_behind x_r_wants x_r_pairs x_r_sees x_r_row x_b_size x_s_size x_w_names x_w_goals x_w_links x_w_linked x_w_ups x_w_downs x_w_next x_a_begun x_t_bytes x_b_rows x_b_acts x_s_rows x_s_acts) H locs) (hl : Cond.fieldLink own index RX1 "size" "I" ∈ BIG) (hdg : decode cc pc = .ok (.putfield index, 3)) (kk : ∀ (H1 : Heap) (locs1 : List Loc), VJ g A s.heap (XW g q x_crowd x_latestFault x_places x_mask x_w_robots x_w_size x_w_nexts x_a_length x_t_length x_t_token x_t_from x_t_value x_t_behind x_r_wants x_r_pairs x_r_sees x_r_row z x_s_size x_w_names x_w_goals x_w_links x_w_linked x_w_ups x_w_downs x_w_next x_a_begun x_t_bytes x_b_rows x_b_acts x_s_rows x_s_acts) H1 locs1 → W p l e R s m args below meth c H1 locs1 0 0 Q (F0 m (pc + 3) ls rest)) : W p l e R s m args below meth c H locs 0 0 Q (F0 m pc ls (.int z :: .ref (q 6) :: rest)) := cPut (ty := .int) (ci := 1) (fs := [.ref (q 17), .ref (q 18), .int x_b_size]) (ws' := (XW g q x_crowd x_latestFault x_places x_mask x_w_robots x_w_size x_w_nexts x_a_length x_t_length x_t_token x_t_from x_t_value x_t_behind x_r_wants x_r_pairs x_r_sees x_r_row z x_s_size x_w_names x_w_goals x_w_links x_w_linked x_w_ups x_w_downs x_w_next x_a_begun x_t_bytes x_b_rows x_b_acts x_s_rows x_s_acts)) uX1 tyX1 tyX1_ok nmX1 6 rfl rfl 2 (by decide) rfl (by decide +kernel) rfl rfl (show 2 < 3 by decide) rfl F E J hl hdg kk
theorem rcX7 : RC (XW g q x_crowd x_latestFault x_places x_mask x_w_robots x_w_size x_w_nexts x_a_length x_t_length x_t_token x_t_from x_t_value x_t_behind x_r_wants x_r_pairs x_r_sees x_r_row x_b_size x_s_size x_w_names x_w_goals x_w_links x_w_linked x_w_ups x_w_downs x_w_next x_a_begun x_t_bytes x_b_rows x_b_acts x_s_rows x_s_acts) (q 7) RX1 := ⟨7, 1, _, _, rfl, rfl, rfl⟩
theorem xg_7_0 (F : CallFix p m c cc nL s args BIG own) (E : EV g A s) (J : VJ g A s.heap (XW g q x_crowd x_latestFault x_places x_mask x_w_robots x_w_size x_w_nexts x_a_length x_t_length x_t_token x_t_from x_t_value x_t_behind x_r_wants x_r_pairs x_r_sees x_r_row x_b_size x_s_size x_w_names x_w_goals x_w_links x_w_linked x_w_ups x_w_downs x_w_next x_a_begun x_t_bytes x_b_rows x_b_acts x_s_rows x_s_acts) H locs) (hl : Cond.fieldLink own index RX1 "rows" "[J" ∈ BIG) (hdg : decode cc pc = .ok (.getfield index, 3)) (kk : W p l e R s m args below meth c H locs 0 0 Q (F0 m (pc + 3) ls (.ref (q 19) :: rest))) : W p l e R s m args below meth c H locs 0 0 Q (F0 m pc ls (.ref (q 7) :: rest)) := cGet uX1 7 rfl rfl 0 (by decide) rfl rfl F E J hl hdg kk
theorem xg_7_1 (F : CallFix p m c cc nL s args BIG own) (E : EV g A s) (J : VJ g A s.heap (XW g q x_crowd x_latestFault x_places x_mask x_w_robots x_w_size x_w_nexts x_a_length x_t_length x_t_token x_t_from x_t_value x_t_behind x_r_wants x_r_pairs x_r_sees x_r_row x_b_size x_s_size x_w_names x_w_goals x_w_links x_w_linked x_w_ups x_w_downs x_w_next x_a_begun x_t_bytes x_b_rows x_b_acts x_s_rows x_s_acts) H locs) (hl : Cond.fieldLink own index RX1 "acts" "[I" ∈ BIG) (hdg : decode cc pc = .ok (.getfield index, 3)) (kk : W p l e R s m args below meth c H locs 0 0 Q (F0 m (pc + 3) ls (.ref (q 20) :: rest))) : W p l e R s m args below meth c H locs 0 0 Q (F0 m pc ls (.ref (q 7) :: rest)) := cGet uX1 7 rfl rfl 1 (by decide) rfl rfl F E J hl hdg kk
theorem xg_7_2 (F : CallFix p m c cc nL s args BIG own) (E : EV g A s) (J : VJ g A s.heap (XW g q x_crowd x_latestFault x_places x_mask x_w_robots x_w_size x_w_nexts x_a_length x_t_length x_t_token x_t_from x_t_value x_t_behind x_r_wants x_r_pairs x_r_sees x_r_row x_b_size x_s_size x_w_names x_w_goals x_w_links x_w_linked x_w_ups x_w_downs x_w_next x_a_begun x_t_bytes x_b_rows x_b_acts x_s_rows x_s_acts) H locs) (hl : Cond.fieldLink own index RX1 "size" "I" ∈ BIG) (hdg : decode cc pc = .ok (.getfield index, 3)) (kk : W p l e R s m args below meth c H locs 0 0 Q (F0 m (pc + 3) ls (.int x_s_size :: rest))) : W p l e R s m args below meth c H locs 0 0 Q (F0 m pc ls (.ref (q 7) :: rest)) := cGet uX1 7 rfl rfl 2 (by decide) rfl rfl F E J hl hdg kk
theorem xgN_7_2 (F : CallFix p m c cc nL s args BIG own) (E : EV g A s) (J : VJ g A s.heap (XW g q x_crowd x_latestFault x_places x_mask x_w_robots x_w_size x_w_nexts x_a_length x_t_length x_t_token x_t_from x_t_value x_t_behind x_r_wants x_r_pairs x_r_sees x_r_row x_b_size x_s_size x_w_names x_w_goals x_w_links x_w_linked x_w_ups x_w_downs x_w_next x_a_begun x_t_bytes x_b_rows x_b_acts x_s_rows x_s_acts) H locs) (hl : (own, index, RX1, "size", "I", host) ∈ nsF) (hdg : decode cc pc = .ok (.getfield index, 3)) (kk : W p l e R s m args below meth c H locs 0 0 Q (F0 m (pc + 3) ls (.int x_s_size :: rest))) : W p l e R s m args below meth c H locs 0 0 Q (F0 m pc ls (.ref (q 7) :: rest)) := cGetN uX1 7 rfl rfl 2 (by decide) rfl rfl F E J hl hdg kk
theorem xp_7_2 {z : Int32} (F : CallFix p m c cc nL s args BIG own) (E : EV g A s) (J : VJ g A s.heap (XW g q x_crowd x_latestFault x_places x_mask x_w_robots x_w_size x_w_nexts x_a_length x_t_length x_t_token x_t_from x_t_value x_t_behind x_r_wants x_r_pairs x_r_sees x_r_row x_b_size x_s_size x_w_names x_w_goals x_w_links x_w_linked x_w_ups x_w_downs x_w_next x_a_begun x_t_bytes x_b_rows x_b_acts x_s_rows x_s_acts) H locs) (hl : Cond.fieldLink own index RX1 "size" "I" ∈ BIG) (hdg : decode cc pc = .ok (.putfield index, 3)) (kk : ∀ (H1 : Heap) (locs1 : List Loc), VJ g A s.heap (XW g q x_crowd x_latestFault x_places x_mask x_w_robots x_w_size x_w_nexts x_a_length x_t_length x_t_token x_t_from x_t_value x_t_behind x_r_wants x_r_pairs x_r_sees x_r_row x_b_size z x_w_names x_w_goals x_w_links x_w_linked x_w_ups x_w_downs x_w_next x_a_begun x_t_bytes x_b_rows x_b_acts x_s_rows x_s_acts) H1 locs1 → W p l e R s m args below meth c H1 locs1 0 0 Q (F0 m (pc + 3) ls rest)) : W p l e R s m args below meth c H locs 0 0 Q (F0 m pc ls (.int z :: .ref (q 7) :: rest)) := cPut (ty := .int) (ci := 1) (fs := [.ref (q 19), .ref (q 20), .int x_s_size]) (ws' := (XW g q x_crowd x_latestFault x_places x_mask x_w_robots x_w_size x_w_nexts x_a_length x_t_length x_t_token x_t_from x_t_value x_t_behind x_r_wants x_r_pairs x_r_sees x_r_row x_b_size z x_w_names x_w_goals x_w_links x_w_linked x_w_ups x_w_downs x_w_next x_a_begun x_t_bytes x_b_rows x_b_acts x_s_rows x_s_acts)) uX1 tyX1 tyX1_ok nmX1 7 rfl rfl 2 (by decide) rfl (by decide +kernel) rfl rfl (show 2 < 3 by decide) rfl F E J hl hdg kk
theorem xl_8 (F : CallFix p m c cc nL s args BIG own) (E : EV g A s) (J : VJ g A s.heap (XW g q x_crowd x_latestFault x_places x_mask x_w_robots x_w_size x_w_nexts x_a_length x_t_length x_t_token x_t_from x_t_value x_t_behind x_r_wants x_r_pairs x_r_sees x_r_row x_b_size x_s_size x_w_names x_w_goals x_w_links x_w_linked x_w_ups x_w_downs x_w_next x_a_begun x_t_bytes x_b_rows x_b_acts x_s_rows x_s_acts) H locs) {i : Int32} (hin : vp_in i 64) (hdg : decode cc pc = .ok (.iaload, 1)) (kk : W p l e R s m args below meth c H locs 0 0 Q (F0 m (pc + 1) ls (.int (x_w_names i.toNatClampNeg) :: rest))) : W p l e R s m args below meth c H locs 0 0 Q (F0 m pc ls (.int i :: .ref (q 8) :: rest)) := va_iald F.1 F.2.1 E.1 J.1 8 0 rfl rfl hin hdg kk
theorem xs_8 {z : Int32} (F : CallFix p m c cc nL s args BIG own) (E : EV g A s) (J : VJ g A s.heap (XW g q x_crowd x_latestFault x_places x_mask x_w_robots x_w_size x_w_nexts x_a_length x_t_length x_t_token x_t_from x_t_value x_t_behind x_r_wants x_r_pairs x_r_sees x_r_row x_b_size x_s_size x_w_names x_w_goals x_w_links x_w_linked x_w_ups x_w_downs x_w_next x_a_begun x_t_bytes x_b_rows x_b_acts x_s_rows x_s_acts) H locs) {i : Int32} (hin : vp_in i 64) (hdg : decode cc pc = .ok (.iastore, 1)) (kk : ∀ (H1 : Heap) (locs1 : List Loc), VJ g A s.heap (XW g q x_crowd x_latestFault x_places x_mask x_w_robots x_w_size x_w_nexts x_a_length x_t_length x_t_token x_t_from x_t_value x_t_behind x_r_wants x_r_pairs x_r_sees x_r_row x_b_size x_s_size (upd x_w_names i.toNatClampNeg z) x_w_goals x_w_links x_w_linked x_w_ups x_w_downs x_w_next x_a_begun x_t_bytes x_b_rows x_b_acts x_s_rows x_s_acts) H1 locs1 → W p l e R s m args below meth c H1 locs1 0 0 Q (F0 m (pc + 1) ls rest)) : W p l e R s m args below meth c H locs 0 0 Q (F0 m pc ls (.int z :: .int i :: .ref (q 8) :: rest)) := va_iast F.1 F.2.1 E.1 J.1 J.2.1 J.2.2 8 0 rfl rfl hin hdg (fun H1 locs1 h1 h2 h3 => kk H1 locs1 ⟨h1, h2, h3⟩)
theorem xl_9 (F : CallFix p m c cc nL s args BIG own) (E : EV g A s) (J : VJ g A s.heap (XW g q x_crowd x_latestFault x_places x_mask x_w_robots x_w_size x_w_nexts x_a_length x_t_length x_t_token x_t_from x_t_value x_t_behind x_r_wants x_r_pairs x_r_sees x_r_row x_b_size x_s_size x_w_names x_w_goals x_w_links x_w_linked x_w_ups x_w_downs x_w_next x_a_begun x_t_bytes x_b_rows x_b_acts x_s_rows x_s_acts) H locs) {i : Int32} (hin : vp_in i 3) (hdg : decode cc pc = .ok (.laload, 1)) (kk : W p l e R s m args below meth c H locs 0 0 Q (F0 m (pc + 1) ls (.long (x_w_goals i.toNatClampNeg) :: rest))) : W p l e R s m args below meth c H locs 0 0 Q (F0 m pc ls (.int i :: .ref (q 9) :: rest)) := va_lald F.1 F.2.1 E.1 J.1 9 1 rfl rfl hin hdg kk
theorem xs_9 {z : Int64} (F : CallFix p m c cc nL s args BIG own) (E : EV g A s) (J : VJ g A s.heap (XW g q x_crowd x_latestFault x_places x_mask x_w_robots x_w_size x_w_nexts x_a_length x_t_length x_t_token x_t_from x_t_value x_t_behind x_r_wants x_r_pairs x_r_sees x_r_row x_b_size x_s_size x_w_names x_w_goals x_w_links x_w_linked x_w_ups x_w_downs x_w_next x_a_begun x_t_bytes x_b_rows x_b_acts x_s_rows x_s_acts) H locs) {i : Int32} (hin : vp_in i 3) (hdg : decode cc pc = .ok (.lastore, 1)) (kk : ∀ (H1 : Heap) (locs1 : List Loc), VJ g A s.heap (XW g q x_crowd x_latestFault x_places x_mask x_w_robots x_w_size x_w_nexts x_a_length x_t_length x_t_token x_t_from x_t_value x_t_behind x_r_wants x_r_pairs x_r_sees x_r_row x_b_size x_s_size x_w_names (vp_updL x_w_goals i.toNatClampNeg z) x_w_links x_w_linked x_w_ups x_w_downs x_w_next x_a_begun x_t_bytes x_b_rows x_b_acts x_s_rows x_s_acts) H1 locs1 → W p l e R s m args below meth c H1 locs1 0 0 Q (F0 m (pc + 1) ls rest)) : W p l e R s m args below meth c H locs 0 0 Q (F0 m pc ls (.long z :: .int i :: .ref (q 9) :: rest)) := va_last F.1 F.2.1 E.1 J.1 J.2.1 J.2.2 9 1 rfl rfl hin hdg (fun H1 locs1 h1 h2 h3 => kk H1 locs1 ⟨h1, h2, h3⟩)
theorem xl_10 (F : CallFix p m c cc nL s args BIG own) (E : EV g A s) (J : VJ g A s.heap (XW g q x_crowd x_latestFault x_places x_mask x_w_robots x_w_size x_w_nexts x_a_length x_t_length x_t_token x_t_from x_t_value x_t_behind x_r_wants x_r_pairs x_r_sees x_r_row x_b_size x_s_size x_w_names x_w_goals x_w_links x_w_linked x_w_ups x_w_downs x_w_next x_a_begun x_t_bytes x_b_rows x_b_acts x_s_rows x_s_acts) H locs) {i : Int32} (hin : vp_in i 192) (hdg : decode cc pc = .ok (.laload, 1)) (kk : W p l e R s m args below meth c H locs 0 0 Q (F0 m (pc + 1) ls (.long (x_w_links i.toNatClampNeg) :: rest))) : W p l e R s m args below meth c H locs 0 0 Q (F0 m pc ls (.int i :: .ref (q 10) :: rest)) := va_lald F.1 F.2.1 E.1 J.1 10 1 rfl rfl hin hdg kk
theorem xs_10 {z : Int64} (F : CallFix p m c cc nL s args BIG own) (E : EV g A s) (J : VJ g A s.heap (XW g q x_crowd x_latestFault x_places x_mask x_w_robots x_w_size x_w_nexts x_a_length x_t_length x_t_token x_t_from x_t_value x_t_behind x_r_wants x_r_pairs x_r_sees x_r_row x_b_size x_s_size x_w_names x_w_goals x_w_links x_w_linked x_w_ups x_w_downs x_w_next x_a_begun x_t_bytes x_b_rows x_b_acts x_s_rows x_s_acts) H locs) {i : Int32} (hin : vp_in i 192) (hdg : decode cc pc = .ok (.lastore, 1)) (kk : ∀ (H1 : Heap) (locs1 : List Loc), VJ g A s.heap (XW g q x_crowd x_latestFault x_places x_mask x_w_robots x_w_size x_w_nexts x_a_length x_t_length x_t_token x_t_from x_t_value x_t_behind x_r_wants x_r_pairs x_r_sees x_r_row x_b_size x_s_size x_w_names x_w_goals (vp_updL x_w_links i.toNatClampNeg z) x_w_linked x_w_ups x_w_downs x_w_next x_a_begun x_t_bytes x_b_rows x_b_acts x_s_rows x_s_acts) H1 locs1 → W p l e R s m args below meth c H1 locs1 0 0 Q (F0 m (pc + 1) ls rest)) : W p l e R s m args below meth c H locs 0 0 Q (F0 m pc ls (.long z :: .int i :: .ref (q 10) :: rest)) := va_last F.1 F.2.1 E.1 J.1 J.2.1 J.2.2 10 1 rfl rfl hin hdg (fun H1 locs1 h1 h2 h3 => kk H1 locs1 ⟨h1, h2, h3⟩)
theorem xl_11 (F : CallFix p m c cc nL s args BIG own) (E : EV g A s) (J : VJ g A s.heap (XW g q x_crowd x_latestFault x_places x_mask x_w_robots x_w_size x_w_nexts x_a_length x_t_length x_t_token x_t_from x_t_value x_t_behind x_r_wants x_r_pairs x_r_sees x_r_row x_b_size x_s_size x_w_names x_w_goals x_w_links x_w_linked x_w_ups x_w_downs x_w_next x_a_begun x_t_bytes x_b_rows x_b_acts x_s_rows x_s_acts) H locs) {i : Int32} (hin : vp_in i 3) (hdg : decode cc pc = .ok (.baload, 1)) (kk : W p l e R s m args below meth c H locs 0 0 Q (F0 m (pc + 1) ls (.int (x_w_linked i.toNatClampNeg) :: rest))) : W p l e R s m args below meth c H locs 0 0 Q (F0 m pc ls (.int i :: .ref (q 11) :: rest)) := va_zald F.1 F.2.1 E.1 J.1 11 2 rfl rfl hin hdg kk
theorem xs_11 {z : Int32} (F : CallFix p m c cc nL s args BIG own) (E : EV g A s) (J : VJ g A s.heap (XW g q x_crowd x_latestFault x_places x_mask x_w_robots x_w_size x_w_nexts x_a_length x_t_length x_t_token x_t_from x_t_value x_t_behind x_r_wants x_r_pairs x_r_sees x_r_row x_b_size x_s_size x_w_names x_w_goals x_w_links x_w_linked x_w_ups x_w_downs x_w_next x_a_begun x_t_bytes x_b_rows x_b_acts x_s_rows x_s_acts) H locs) {i : Int32} (hin : vp_in i 3) (hdg : decode cc pc = .ok (.bastore, 1)) (kk : ∀ (H1 : Heap) (locs1 : List Loc), VJ g A s.heap (XW g q x_crowd x_latestFault x_places x_mask x_w_robots x_w_size x_w_nexts x_a_length x_t_length x_t_token x_t_from x_t_value x_t_behind x_r_wants x_r_pairs x_r_sees x_r_row x_b_size x_s_size x_w_names x_w_goals x_w_links (upd x_w_linked i.toNatClampNeg (vp_nar .boolean z)) x_w_ups x_w_downs x_w_next x_a_begun x_t_bytes x_b_rows x_b_acts x_s_rows x_s_acts) H1 locs1 → W p l e R s m args below meth c H1 locs1 0 0 Q (F0 m (pc + 1) ls rest)) : W p l e R s m args below meth c H locs 0 0 Q (F0 m pc ls (.int z :: .int i :: .ref (q 11) :: rest)) := va_zast F.1 F.2.1 E.1 J.1 J.2.1 J.2.2 11 2 rfl rfl hin hdg (fun H1 locs1 h1 h2 h3 => kk H1 locs1 ⟨h1, h2, h3⟩)
theorem xl_12 (F : CallFix p m c cc nL s args BIG own) (E : EV g A s) (J : VJ g A s.heap (XW g q x_crowd x_latestFault x_places x_mask x_w_robots x_w_size x_w_nexts x_a_length x_t_length x_t_token x_t_from x_t_value x_t_behind x_r_wants x_r_pairs x_r_sees x_r_row x_b_size x_s_size x_w_names x_w_goals x_w_links x_w_linked x_w_ups x_w_downs x_w_next x_a_begun x_t_bytes x_b_rows x_b_acts x_s_rows x_s_acts) H locs) {i : Int32} (hin : vp_in i 9) (hdg : decode cc pc = .ok (.iaload, 1)) (kk : W p l e R s m args below meth c H locs 0 0 Q (F0 m (pc + 1) ls (.int (x_w_ups i.toNatClampNeg) :: rest))) : W p l e R s m args below meth c H locs 0 0 Q (F0 m pc ls (.int i :: .ref (q 12) :: rest)) := va_iald F.1 F.2.1 E.1 J.1 12 0 rfl rfl hin hdg kk
theorem xs_12 {z : Int32} (F : CallFix p m c cc nL s args BIG own) (E : EV g A s) (J : VJ g A s.heap (XW g q x_crowd x_latestFault x_places x_mask x_w_robots x_w_size x_w_nexts x_a_length x_t_length x_t_token x_t_from x_t_value x_t_behind x_r_wants x_r_pairs x_r_sees x_r_row x_b_size x_s_size x_w_names x_w_goals x_w_links x_w_linked x_w_ups x_w_downs x_w_next x_a_begun x_t_bytes x_b_rows x_b_acts x_s_rows x_s_acts) H locs) {i : Int32} (hin : vp_in i 9) (hdg : decode cc pc = .ok (.iastore, 1)) (kk : ∀ (H1 : Heap) (locs1 : List Loc), VJ g A s.heap (XW g q x_crowd x_latestFault x_places x_mask x_w_robots x_w_size x_w_nexts x_a_length x_t_length x_t_token x_t_from x_t_value x_t_behind x_r_wants x_r_pairs x_r_sees x_r_row x_b_size x_s_size x_w_names x_w_goals x_w_links x_w_linked (upd x_w_ups i.toNatClampNeg z) x_w_downs x_w_next x_a_begun x_t_bytes x_b_rows x_b_acts x_s_rows x_s_acts) H1 locs1 → W p l e R s m args below meth c H1 locs1 0 0 Q (F0 m (pc + 1) ls rest)) : W p l e R s m args below meth c H locs 0 0 Q (F0 m pc ls (.int z :: .int i :: .ref (q 12) :: rest)) := va_iast F.1 F.2.1 E.1 J.1 J.2.1 J.2.2 12 0 rfl rfl hin hdg (fun H1 locs1 h1 h2 h3 => kk H1 locs1 ⟨h1, h2, h3⟩)
theorem xl_13 (F : CallFix p m c cc nL s args BIG own) (E : EV g A s) (J : VJ g A s.heap (XW g q x_crowd x_latestFault x_places x_mask x_w_robots x_w_size x_w_nexts x_a_length x_t_length x_t_token x_t_from x_t_value x_t_behind x_r_wants x_r_pairs x_r_sees x_r_row x_b_size x_s_size x_w_names x_w_goals x_w_links x_w_linked x_w_ups x_w_downs x_w_next x_a_begun x_t_bytes x_b_rows x_b_acts x_s_rows x_s_acts) H locs) {i : Int32} (hin : vp_in i 9) (hdg : decode cc pc = .ok (.iaload, 1)) (kk : W p l e R s m args below meth c H locs 0 0 Q (F0 m (pc + 1) ls (.int (x_w_downs i.toNatClampNeg) :: rest))) : W p l e R s m args below meth c H locs 0 0 Q (F0 m pc ls (.int i :: .ref (q 13) :: rest)) := va_iald F.1 F.2.1 E.1 J.1 13 0 rfl rfl hin hdg kk
theorem xs_13 {z : Int32} (F : CallFix p m c cc nL s args BIG own) (E : EV g A s) (J : VJ g A s.heap (XW g q x_crowd x_latestFault x_places x_mask x_w_robots x_w_size x_w_nexts x_a_length x_t_length x_t_token x_t_from x_t_value x_t_behind x_r_wants x_r_pairs x_r_sees x_r_row x_b_size x_s_size x_w_names x_w_goals x_w_links x_w_linked x_w_ups x_w_downs x_w_next x_a_begun x_t_bytes x_b_rows x_b_acts x_s_rows x_s_acts) H locs) {i : Int32} (hin : vp_in i 9) (hdg : decode cc pc = .ok (.iastore, 1)) (kk : ∀ (H1 : Heap) (locs1 : List Loc), VJ g A s.heap (XW g q x_crowd x_latestFault x_places x_mask x_w_robots x_w_size x_w_nexts x_a_length x_t_length x_t_token x_t_from x_t_value x_t_behind x_r_wants x_r_pairs x_r_sees x_r_row x_b_size x_s_size x_w_names x_w_goals x_w_links x_w_linked x_w_ups (upd x_w_downs i.toNatClampNeg z) x_w_next x_a_begun x_t_bytes x_b_rows x_b_acts x_s_rows x_s_acts) H1 locs1 → W p l e R s m args below meth c H1 locs1 0 0 Q (F0 m (pc + 1) ls rest)) : W p l e R s m args below meth c H locs 0 0 Q (F0 m pc ls (.int z :: .int i :: .ref (q 13) :: rest)) := va_iast F.1 F.2.1 E.1 J.1 J.2.1 J.2.2 13 0 rfl rfl hin hdg (fun H1 locs1 h1 h2 h3 => kk H1 locs1 ⟨h1, h2, h3⟩)
theorem xl_14 (F : CallFix p m c cc nL s args BIG own) (E : EV g A s) (J : VJ g A s.heap (XW g q x_crowd x_latestFault x_places x_mask x_w_robots x_w_size x_w_nexts x_a_length x_t_length x_t_token x_t_from x_t_value x_t_behind x_r_wants x_r_pairs x_r_sees x_r_row x_b_size x_s_size x_w_names x_w_goals x_w_links x_w_linked x_w_ups x_w_downs x_w_next x_a_begun x_t_bytes x_b_rows x_b_acts x_s_rows x_s_acts) H locs) {i : Int32} (hin : vp_in i 81) (hdg : decode cc pc = .ok (.iaload, 1)) (kk : W p l e R s m args below meth c H locs 0 0 Q (F0 m (pc + 1) ls (.int (x_w_next i.toNatClampNeg) :: rest))) : W p l e R s m args below meth c H locs 0 0 Q (F0 m pc ls (.int i :: .ref (q 14) :: rest)) := va_iald F.1 F.2.1 E.1 J.1 14 0 rfl rfl hin hdg kk
theorem xs_14 {z : Int32} (F : CallFix p m c cc nL s args BIG own) (E : EV g A s) (J : VJ g A s.heap (XW g q x_crowd x_latestFault x_places x_mask x_w_robots x_w_size x_w_nexts x_a_length x_t_length x_t_token x_t_from x_t_value x_t_behind x_r_wants x_r_pairs x_r_sees x_r_row x_b_size x_s_size x_w_names x_w_goals x_w_links x_w_linked x_w_ups x_w_downs x_w_next x_a_begun x_t_bytes x_b_rows x_b_acts x_s_rows x_s_acts) H locs) {i : Int32} (hin : vp_in i 81) (hdg : decode cc pc = .ok (.iastore, 1)) (kk : ∀ (H1 : Heap) (locs1 : List Loc), VJ g A s.heap (XW g q x_crowd x_latestFault x_places x_mask x_w_robots x_w_size x_w_nexts x_a_length x_t_length x_t_token x_t_from x_t_value x_t_behind x_r_wants x_r_pairs x_r_sees x_r_row x_b_size x_s_size x_w_names x_w_goals x_w_links x_w_linked x_w_ups x_w_downs (upd x_w_next i.toNatClampNeg z) x_a_begun x_t_bytes x_b_rows x_b_acts x_s_rows x_s_acts) H1 locs1 → W p l e R s m args below meth c H1 locs1 0 0 Q (F0 m (pc + 1) ls rest)) : W p l e R s m args below meth c H locs 0 0 Q (F0 m pc ls (.int z :: .int i :: .ref (q 14) :: rest)) := va_iast F.1 F.2.1 E.1 J.1 J.2.1 J.2.2 14 0 rfl rfl hin hdg (fun H1 locs1 h1 h2 h3 => kk H1 locs1 ⟨h1, h2, h3⟩)
theorem xl_15 (F : CallFix p m c cc nL s args BIG own) (E : EV g A s) (J : VJ g A s.heap (XW g q x_crowd x_latestFault x_places x_mask x_w_robots x_w_size x_w_nexts x_a_length x_t_length x_t_token x_t_from x_t_value x_t_behind x_r_wants x_r_pairs x_r_sees x_r_row x_b_size x_s_size x_w_names x_w_goals x_w_links x_w_linked x_w_ups x_w_downs x_w_next x_a_begun x_t_bytes x_b_rows x_b_acts x_s_rows x_s_acts) H locs) {i : Int32} (hin : vp_in i 16) (hdg : decode cc pc = .ok (.iaload, 1)) (kk : W p l e R s m args below meth c H locs 0 0 Q (F0 m (pc + 1) ls (.int (x_a_begun i.toNatClampNeg) :: rest))) : W p l e R s m args below meth c H locs 0 0 Q (F0 m pc ls (.int i :: .ref (q 15) :: rest)) := va_iald F.1 F.2.1 E.1 J.1 15 0 rfl rfl hin hdg kk
theorem xs_15 {z : Int32} (F : CallFix p m c cc nL s args BIG own) (E : EV g A s) (J : VJ g A s.heap (XW g q x_crowd x_latestFault x_places x_mask x_w_robots x_w_size x_w_nexts x_a_length x_t_length x_t_token x_t_from x_t_value x_t_behind x_r_wants x_r_pairs x_r_sees x_r_row x_b_size x_s_size x_w_names x_w_goals x_w_links x_w_linked x_w_ups x_w_downs x_w_next x_a_begun x_t_bytes x_b_rows x_b_acts x_s_rows x_s_acts) H locs) {i : Int32} (hin : vp_in i 16) (hdg : decode cc pc = .ok (.iastore, 1)) (kk : ∀ (H1 : Heap) (locs1 : List Loc), VJ g A s.heap (XW g q x_crowd x_latestFault x_places x_mask x_w_robots x_w_size x_w_nexts x_a_length x_t_length x_t_token x_t_from x_t_value x_t_behind x_r_wants x_r_pairs x_r_sees x_r_row x_b_size x_s_size x_w_names x_w_goals x_w_links x_w_linked x_w_ups x_w_downs x_w_next (upd x_a_begun i.toNatClampNeg z) x_t_bytes x_b_rows x_b_acts x_s_rows x_s_acts) H1 locs1 → W p l e R s m args below meth c H1 locs1 0 0 Q (F0 m (pc + 1) ls rest)) : W p l e R s m args below meth c H locs 0 0 Q (F0 m pc ls (.int z :: .int i :: .ref (q 15) :: rest)) := va_iast F.1 F.2.1 E.1 J.1 J.2.1 J.2.2 15 0 rfl rfl hin hdg (fun H1 locs1 h1 h2 h3 => kk H1 locs1 ⟨h1, h2, h3⟩)
theorem xl_16 (F : CallFix p m c cc nL s args BIG own) (E : EV g A s) (J : VJ g A s.heap (XW g q x_crowd x_latestFault x_places x_mask x_w_robots x_w_size x_w_nexts x_a_length x_t_length x_t_token x_t_from x_t_value x_t_behind x_r_wants x_r_pairs x_r_sees x_r_row x_b_size x_s_size x_w_names x_w_goals x_w_links x_w_linked x_w_ups x_w_downs x_w_next x_a_begun x_t_bytes x_b_rows x_b_acts x_s_rows x_s_acts) H locs) {i : Int32} (hin : vp_in i 400) (hdg : decode cc pc = .ok (.iaload, 1)) (kk : W p l e R s m args below meth c H locs 0 0 Q (F0 m (pc + 1) ls (.int (x_t_bytes i.toNatClampNeg) :: rest))) : W p l e R s m args below meth c H locs 0 0 Q (F0 m pc ls (.int i :: .ref (q 16) :: rest)) := va_iald F.1 F.2.1 E.1 J.1 16 0 rfl rfl hin hdg kk
theorem xs_16 {z : Int32} (F : CallFix p m c cc nL s args BIG own) (E : EV g A s) (J : VJ g A s.heap (XW g q x_crowd x_latestFault x_places x_mask x_w_robots x_w_size x_w_nexts x_a_length x_t_length x_t_token x_t_from x_t_value x_t_behind x_r_wants x_r_pairs x_r_sees x_r_row x_b_size x_s_size x_w_names x_w_goals x_w_links x_w_linked x_w_ups x_w_downs x_w_next x_a_begun x_t_bytes x_b_rows x_b_acts x_s_rows x_s_acts) H locs) {i : Int32} (hin : vp_in i 400) (hdg : decode cc pc = .ok (.iastore, 1)) (kk : ∀ (H1 : Heap) (locs1 : List Loc), VJ g A s.heap (XW g q x_crowd x_latestFault x_places x_mask x_w_robots x_w_size x_w_nexts x_a_length x_t_length x_t_token x_t_from x_t_value x_t_behind x_r_wants x_r_pairs x_r_sees x_r_row x_b_size x_s_size x_w_names x_w_goals x_w_links x_w_linked x_w_ups x_w_downs x_w_next x_a_begun (upd x_t_bytes i.toNatClampNeg z) x_b_rows x_b_acts x_s_rows x_s_acts) H1 locs1 → W p l e R s m args below meth c H1 locs1 0 0 Q (F0 m (pc + 1) ls rest)) : W p l e R s m args below meth c H locs 0 0 Q (F0 m pc ls (.int z :: .int i :: .ref (q 16) :: rest)) := va_iast F.1 F.2.1 E.1 J.1 J.2.1 J.2.2 16 0 rfl rfl hin hdg (fun H1 locs1 h1 h2 h3 => kk H1 locs1 ⟨h1, h2, h3⟩)
theorem xl_17 (F : CallFix p m c cc nL s args BIG own) (E : EV g A s) (J : VJ g A s.heap (XW g q x_crowd x_latestFault x_places x_mask x_w_robots x_w_size x_w_nexts x_a_length x_t_length x_t_token x_t_from x_t_value x_t_behind x_r_wants x_r_pairs x_r_sees x_r_row x_b_size x_s_size x_w_names x_w_goals x_w_links x_w_linked x_w_ups x_w_downs x_w_next x_a_begun x_t_bytes x_b_rows x_b_acts x_s_rows x_s_acts) H locs) {i : Int32} (hin : vp_in i 30) (hdg : decode cc pc = .ok (.laload, 1)) (kk : W p l e R s m args below meth c H locs 0 0 Q (F0 m (pc + 1) ls (.long (x_b_rows i.toNatClampNeg) :: rest))) : W p l e R s m args below meth c H locs 0 0 Q (F0 m pc ls (.int i :: .ref (q 17) :: rest)) := va_lald F.1 F.2.1 E.1 J.1 17 1 rfl rfl hin hdg kk
theorem xs_17 {z : Int64} (F : CallFix p m c cc nL s args BIG own) (E : EV g A s) (J : VJ g A s.heap (XW g q x_crowd x_latestFault x_places x_mask x_w_robots x_w_size x_w_nexts x_a_length x_t_length x_t_token x_t_from x_t_value x_t_behind x_r_wants x_r_pairs x_r_sees x_r_row x_b_size x_s_size x_w_names x_w_goals x_w_links x_w_linked x_w_ups x_w_downs x_w_next x_a_begun x_t_bytes x_b_rows x_b_acts x_s_rows x_s_acts) H locs) {i : Int32} (hin : vp_in i 30) (hdg : decode cc pc = .ok (.lastore, 1)) (kk : ∀ (H1 : Heap) (locs1 : List Loc), VJ g A s.heap (XW g q x_crowd x_latestFault x_places x_mask x_w_robots x_w_size x_w_nexts x_a_length x_t_length x_t_token x_t_from x_t_value x_t_behind x_r_wants x_r_pairs x_r_sees x_r_row x_b_size x_s_size x_w_names x_w_goals x_w_links x_w_linked x_w_ups x_w_downs x_w_next x_a_begun x_t_bytes (vp_updL x_b_rows i.toNatClampNeg z) x_b_acts x_s_rows x_s_acts) H1 locs1 → W p l e R s m args below meth c H1 locs1 0 0 Q (F0 m (pc + 1) ls rest)) : W p l e R s m args below meth c H locs 0 0 Q (F0 m pc ls (.long z :: .int i :: .ref (q 17) :: rest)) := va_last F.1 F.2.1 E.1 J.1 J.2.1 J.2.2 17 1 rfl rfl hin hdg (fun H1 locs1 h1 h2 h3 => kk H1 locs1 ⟨h1, h2, h3⟩)
theorem xl_18 (F : CallFix p m c cc nL s args BIG own) (E : EV g A s) (J : VJ g A s.heap (XW g q x_crowd x_latestFault x_places x_mask x_w_robots x_w_size x_w_nexts x_a_length x_t_length x_t_token x_t_from x_t_value x_t_behind x_r_wants x_r_pairs x_r_sees x_r_row x_b_size x_s_size x_w_names x_w_goals x_w_links x_w_linked x_w_ups x_w_downs x_w_next x_a_begun x_t_bytes x_b_rows x_b_acts x_s_rows x_s_acts) H locs) {i : Int32} (hin : vp_in i 30) (hdg : decode cc pc = .ok (.iaload, 1)) (kk : W p l e R s m args below meth c H locs 0 0 Q (F0 m (pc + 1) ls (.int (x_b_acts i.toNatClampNeg) :: rest))) : W p l e R s m args below meth c H locs 0 0 Q (F0 m pc ls (.int i :: .ref (q 18) :: rest)) := va_iald F.1 F.2.1 E.1 J.1 18 0 rfl rfl hin hdg kk
theorem xs_18 {z : Int32} (F : CallFix p m c cc nL s args BIG own) (E : EV g A s) (J : VJ g A s.heap (XW g q x_crowd x_latestFault x_places x_mask x_w_robots x_w_size x_w_nexts x_a_length x_t_length x_t_token x_t_from x_t_value x_t_behind x_r_wants x_r_pairs x_r_sees x_r_row x_b_size x_s_size x_w_names x_w_goals x_w_links x_w_linked x_w_ups x_w_downs x_w_next x_a_begun x_t_bytes x_b_rows x_b_acts x_s_rows x_s_acts) H locs) {i : Int32} (hin : vp_in i 30) (hdg : decode cc pc = .ok (.iastore, 1)) (kk : ∀ (H1 : Heap) (locs1 : List Loc), VJ g A s.heap (XW g q x_crowd x_latestFault x_places x_mask x_w_robots x_w_size x_w_nexts x_a_length x_t_length x_t_token x_t_from x_t_value x_t_behind x_r_wants x_r_pairs x_r_sees x_r_row x_b_size x_s_size x_w_names x_w_goals x_w_links x_w_linked x_w_ups x_w_downs x_w_next x_a_begun x_t_bytes x_b_rows (upd x_b_acts i.toNatClampNeg z) x_s_rows x_s_acts) H1 locs1 → W p l e R s m args below meth c H1 locs1 0 0 Q (F0 m (pc + 1) ls rest)) : W p l e R s m args below meth c H locs 0 0 Q (F0 m pc ls (.int z :: .int i :: .ref (q 18) :: rest)) := va_iast F.1 F.2.1 E.1 J.1 J.2.1 J.2.2 18 0 rfl rfl hin hdg (fun H1 locs1 h1 h2 h3 => kk H1 locs1 ⟨h1, h2, h3⟩)
theorem xl_19 (F : CallFix p m c cc nL s args BIG own) (E : EV g A s) (J : VJ g A s.heap (XW g q x_crowd x_latestFault x_places x_mask x_w_robots x_w_size x_w_nexts x_a_length x_t_length x_t_token x_t_from x_t_value x_t_behind x_r_wants x_r_pairs x_r_sees x_r_row x_b_size x_s_size x_w_names x_w_goals x_w_links x_w_linked x_w_ups x_w_downs x_w_next x_a_begun x_t_bytes x_b_rows x_b_acts x_s_rows x_s_acts) H locs) {i : Int32} (hin : vp_in i 30) (hdg : decode cc pc = .ok (.laload, 1)) (kk : W p l e R s m args below meth c H locs 0 0 Q (F0 m (pc + 1) ls (.long (x_s_rows i.toNatClampNeg) :: rest))) : W p l e R s m args below meth c H locs 0 0 Q (F0 m pc ls (.int i :: .ref (q 19) :: rest)) := va_lald F.1 F.2.1 E.1 J.1 19 1 rfl rfl hin hdg kk
theorem xs_19 {z : Int64} (F : CallFix p m c cc nL s args BIG own) (E : EV g A s) (J : VJ g A s.heap (XW g q x_crowd x_latestFault x_places x_mask x_w_robots x_w_size x_w_nexts x_a_length x_t_length x_t_token x_t_from x_t_value x_t_behind x_r_wants x_r_pairs x_r_sees x_r_row x_b_size x_s_size x_w_names x_w_goals x_w_links x_w_linked x_w_ups x_w_downs x_w_next x_a_begun x_t_bytes x_b_rows x_b_acts x_s_rows x_s_acts) H locs) {i : Int32} (hin : vp_in i 30) (hdg : decode cc pc = .ok (.lastore, 1)) (kk : ∀ (H1 : Heap) (locs1 : List Loc), VJ g A s.heap (XW g q x_crowd x_latestFault x_places x_mask x_w_robots x_w_size x_w_nexts x_a_length x_t_length x_t_token x_t_from x_t_value x_t_behind x_r_wants x_r_pairs x_r_sees x_r_row x_b_size x_s_size x_w_names x_w_goals x_w_links x_w_linked x_w_ups x_w_downs x_w_next x_a_begun x_t_bytes x_b_rows x_b_acts (vp_updL x_s_rows i.toNatClampNeg z) x_s_acts) H1 locs1 → W p l e R s m args below meth c H1 locs1 0 0 Q (F0 m (pc + 1) ls rest)) : W p l e R s m args below meth c H locs 0 0 Q (F0 m pc ls (.long z :: .int i :: .ref (q 19) :: rest)) := va_last F.1 F.2.1 E.1 J.1 J.2.1 J.2.2 19 1 rfl rfl hin hdg (fun H1 locs1 h1 h2 h3 => kk H1 locs1 ⟨h1, h2, h3⟩)
theorem xl_20 (F : CallFix p m c cc nL s args BIG own) (E : EV g A s) (J : VJ g A s.heap (XW g q x_crowd x_latestFault x_places x_mask x_w_robots x_w_size x_w_nexts x_a_length x_t_length x_t_token x_t_from x_t_value x_t_behind x_r_wants x_r_pairs x_r_sees x_r_row x_b_size x_s_size x_w_names x_w_goals x_w_links x_w_linked x_w_ups x_w_downs x_w_next x_a_begun x_t_bytes x_b_rows x_b_acts x_s_rows x_s_acts) H locs) {i : Int32} (hin : vp_in i 30) (hdg : decode cc pc = .ok (.iaload, 1)) (kk : W p l e R s m args below meth c H locs 0 0 Q (F0 m (pc + 1) ls (.int (x_s_acts i.toNatClampNeg) :: rest))) : W p l e R s m args below meth c H locs 0 0 Q (F0 m pc ls (.int i :: .ref (q 20) :: rest)) := va_iald F.1 F.2.1 E.1 J.1 20 0 rfl rfl hin hdg kk
theorem xs_20 {z : Int32} (F : CallFix p m c cc nL s args BIG own) (E : EV g A s) (J : VJ g A s.heap (XW g q x_crowd x_latestFault x_places x_mask x_w_robots x_w_size x_w_nexts x_a_length x_t_length x_t_token x_t_from x_t_value x_t_behind x_r_wants x_r_pairs x_r_sees x_r_row x_b_size x_s_size x_w_names x_w_goals x_w_links x_w_linked x_w_ups x_w_downs x_w_next x_a_begun x_t_bytes x_b_rows x_b_acts x_s_rows x_s_acts) H locs) {i : Int32} (hin : vp_in i 30) (hdg : decode cc pc = .ok (.iastore, 1)) (kk : ∀ (H1 : Heap) (locs1 : List Loc), VJ g A s.heap (XW g q x_crowd x_latestFault x_places x_mask x_w_robots x_w_size x_w_nexts x_a_length x_t_length x_t_token x_t_from x_t_value x_t_behind x_r_wants x_r_pairs x_r_sees x_r_row x_b_size x_s_size x_w_names x_w_goals x_w_links x_w_linked x_w_ups x_w_downs x_w_next x_a_begun x_t_bytes x_b_rows x_b_acts x_s_rows (upd x_s_acts i.toNatClampNeg z)) H1 locs1 → W p l e R s m args below meth c H1 locs1 0 0 Q (F0 m (pc + 1) ls rest)) : W p l e R s m args below meth c H locs 0 0 Q (F0 m pc ls (.int z :: .int i :: .ref (q 20) :: rest)) := va_iast F.1 F.2.1 E.1 J.1 J.2.1 J.2.2 20 0 rfl rfl hin hdg (fun H1 locs1 h1 h2 h3 => kk H1 locs1 ⟨h1, h2, h3⟩)
end XCELLS
def MW (g : GG) (q : Nat → Nat) (m_thrown m_n m_robots m_viewed m_rules m_taped m_latest m_size m_at m_sort m_place m_end m_fault m_faultAt m_read m_crowds m_traced : Int32) (m_here m_hand m_view m_up m_down m_ruleSize m_ruleRow m_ruleDoes m_name m_goes m_tape m_readSize m_readRow m_readDoes m_own m_crowd m_isStep m_isOfGoal m_isMet m_most m_stands m_doesHere m_from m_trace : Nat → Int32) : va_W := [(q 0, .inr (7, [.int m_thrown, .int m_n, .int m_robots, .ref (q 1), .ref (q 2), .int m_viewed, .ref (q 3), .ref (q 4), .ref (q 5), .int m_rules, .ref (q 6), .ref (q 7), .ref (q 8), .ref (q 9), .ref (q 10), .ref (q 11), .int m_taped, .int m_latest, .int m_size, .int m_at, .int m_sort, .int m_place, .int m_end, .int m_fault, .int m_faultAt, .int m_read, .ref (q 12), .ref (q 13), .ref (q 14), .ref (q 15), .int m_crowds, .ref (q 16), .ref (q 17), .ref (q 18), .ref (q 19), .ref (q 20), .ref (q 21), .ref (q 22), .ref (q 23), .ref (q 24), .int m_traced])), (q 1, .inl (g.2.1.1, 9, .inl m_here)), (q 2, .inl (g.2.1.1, 9, .inl m_hand)), (q 3, .inl (g.2.1.1, 8, .inl m_view)), (q 4, .inl (g.2.1.1, 8, .inl m_up)), (q 5, .inl (g.2.1.1, 8, .inl m_down)), (q 6, .inl (g.2.1.1, 30, .inl m_ruleSize)), (q 7, .inl (g.2.1.1, 240, .inl m_ruleRow)), (q 8, .inl (g.2.1.1, 30, .inl m_ruleDoes)), (q 9, .inl (g.2.1.1, 9, .inl m_name)), (q 10, .inl (g.2.1.1, 9, .inl m_goes)), (q 11, .inl (g.2.1.1, 400, .inl m_tape)), (q 12, .inl (g.2.1.1, 30, .inl m_readSize)), (q 13, .inl (g.2.1.1, 240, .inl m_readRow)), (q 14, .inl (g.2.1.1, 30, .inl m_readDoes)), (q 15, .inl (g.2.1.1, 8, .inl m_own)), (q 16, .inl (g.2.1.1, 1080, .inl m_crowd)), (q 17, .inl (g.2.1.2.2, 14400, .inl m_isStep)), (q 18, .inl (g.2.1.2.2, 120, .inl m_isOfGoal)), (q 19, .inl (g.2.1.2.2, 120, .inl m_isMet)), (q 20, .inl (g.2.1.1, 120, .inl m_most)), (q 21, .inl (g.2.1.1, 4, .inl m_stands)), (q 22, .inl (g.2.1.1, 4, .inl m_doesHere)), (q 23, .inl (g.2.1.1, 9, .inl m_from)), (q 24, .inl (g.2.1.1, 16, .inl m_trace))]
section MCELLS
variable {p : Program} {l : Launch} {e : Env} {R : Room} {s : State} {m : MethodId} {args : Array Value} {below : List Frame} {meth : Method} {c : Code} {H : Heap} {locs : List Loc} {Q : State → Prop}
variable {g : GG} {A : Nat → Prop} {cc : ByteArray} {nL index pc : Nat} {own host : String} {ls : Array Slot} {rest : List Value} {q : Nat → Nat}
variable {m_thrown m_n m_robots m_viewed m_rules m_taped m_latest m_size m_at m_sort m_place m_end m_fault m_faultAt m_read m_crowds m_traced : Int32} {m_here m_hand m_view m_up m_down m_ruleSize m_ruleRow m_ruleDoes m_name m_goes m_tape m_readSize m_readRow m_readDoes m_own m_crowd m_isStep m_isOfGoal m_isMet m_most m_stands m_doesHere m_from m_trace : Nat → Int32}
theorem rcM0 : RC (MW g q m_thrown m_n m_robots m_viewed m_rules m_taped m_latest m_size m_at m_sort m_place m_end m_fault m_faultAt m_read m_crowds m_traced m_here m_hand m_view m_up m_down m_ruleSize m_ruleRow m_ruleDoes m_name m_goes m_tape m_readSize m_readRow m_readDoes m_own m_crowd m_isStep m_isOfGoal m_isMet m_most m_stands m_doesHere m_from m_trace) (q 0) RX8 := ⟨0, 7, _, _, rfl, rfl, rfl⟩
theorem mg_0_0 (F : CallFix p m c cc nL s args BIG own) (E : EV g A s) (J : VJ g A s.heap (MW g q m_thrown m_n m_robots m_viewed m_rules m_taped m_latest m_size m_at m_sort m_place m_end m_fault m_faultAt m_read m_crowds m_traced m_here m_hand m_view m_up m_down m_ruleSize m_ruleRow m_ruleDoes m_name m_goes m_tape m_readSize m_readRow m_readDoes m_own m_crowd m_isStep m_isOfGoal m_isMet m_most m_stands m_doesHere m_from m_trace) H locs) (hl : Cond.fieldLink own index RX8 "thrown" "I" ∈ BIG) (hdg : decode cc pc = .ok (.getfield index, 3)) (kk : W p l e R s m args below meth c H locs 0 0 Q (F0 m (pc + 3) ls (.int m_thrown :: rest))) : W p l e R s m args below meth c H locs 0 0 Q (F0 m pc ls (.ref (q 0) :: rest)) := cGet uX8 0 rfl rfl 0 (by decide) rfl rfl F E J hl hdg kk
theorem mp_0_0 {z : Int32} (F : CallFix p m c cc nL s args BIG own) (E : EV g A s) (J : VJ g A s.heap (MW g q m_thrown m_n m_robots m_viewed m_rules m_taped m_latest m_size m_at m_sort m_place m_end m_fault m_faultAt m_read m_crowds m_traced m_here m_hand m_view m_up m_down m_ruleSize m_ruleRow m_ruleDoes m_name m_goes m_tape m_readSize m_readRow m_readDoes m_own m_crowd m_isStep m_isOfGoal m_isMet m_most m_stands m_doesHere m_from m_trace) H locs) (hl : Cond.fieldLink own index RX8 "thrown" "I" ∈ BIG) (hdg : decode cc pc = .ok (.putfield index, 3)) (kk : ∀ (H1 : Heap) (locs1 : List Loc), VJ g A s.heap (MW g q z m_n m_robots m_viewed m_rules m_taped m_latest m_size m_at m_sort m_place m_end m_fault m_faultAt m_read m_crowds m_traced m_here m_hand m_view m_up m_down m_ruleSize m_ruleRow m_ruleDoes m_name m_goes m_tape m_readSize m_readRow m_readDoes m_own m_crowd m_isStep m_isOfGoal m_isMet m_most m_stands m_doesHere m_from m_trace) H1 locs1 → W p l e R s m args below meth c H1 locs1 0 0 Q (F0 m (pc + 3) ls rest)) : W p l e R s m args below meth c H locs 0 0 Q (F0 m pc ls (.int z :: .ref (q 0) :: rest)) := cPut (ty := .int) (ci := 7) (fs := [.int m_thrown, .int m_n, .int m_robots, .ref (q 1), .ref (q 2), .int m_viewed, .ref (q 3), .ref (q 4), .ref (q 5), .int m_rules, .ref (q 6), .ref (q 7), .ref (q 8), .ref (q 9), .ref (q 10), .ref (q 11), .int m_taped, .int m_latest, .int m_size, .int m_at, .int m_sort, .int m_place, .int m_end, .int m_fault, .int m_faultAt, .int m_read, .ref (q 12), .ref (q 13), .ref (q 14), .ref (q 15), .int m_crowds, .ref (q 16), .ref (q 17), .ref (q 18), .ref (q 19), .ref (q 20), .ref (q 21), .ref (q 22), .ref (q 23), .ref (q 24), .int m_traced]) (ws' := (MW g q z m_n m_robots m_viewed m_rules m_taped m_latest m_size m_at m_sort m_place m_end m_fault m_faultAt m_read m_crowds m_traced m_here m_hand m_view m_up m_down m_ruleSize m_ruleRow m_ruleDoes m_name m_goes m_tape m_readSize m_readRow m_readDoes m_own m_crowd m_isStep m_isOfGoal m_isMet m_most m_stands m_doesHere m_from m_trace)) uX8 tyX8 tyX8_ok nmX8 0 rfl rfl 0 (by decide) rfl (by decide +kernel) rfl rfl (show 0 < 41 by decide) rfl F E J hl hdg kk
theorem mg_0_1 (F : CallFix p m c cc nL s args BIG own) (E : EV g A s) (J : VJ g A s.heap (MW g q m_thrown m_n m_robots m_viewed m_rules m_taped m_latest m_size m_at m_sort m_place m_end m_fault m_faultAt m_read m_crowds m_traced m_here m_hand m_view m_up m_down m_ruleSize m_ruleRow m_ruleDoes m_name m_goes m_tape m_readSize m_readRow m_readDoes m_own m_crowd m_isStep m_isOfGoal m_isMet m_most m_stands m_doesHere m_from m_trace) H locs) (hl : Cond.fieldLink own index RX8 "n" "I" ∈ BIG) (hdg : decode cc pc = .ok (.getfield index, 3)) (kk : W p l e R s m args below meth c H locs 0 0 Q (F0 m (pc + 3) ls (.int m_n :: rest))) : W p l e R s m args below meth c H locs 0 0 Q (F0 m pc ls (.ref (q 0) :: rest)) := cGet uX8 0 rfl rfl 1 (by decide) rfl rfl F E J hl hdg kk
theorem mg_0_2 (F : CallFix p m c cc nL s args BIG own) (E : EV g A s) (J : VJ g A s.heap (MW g q m_thrown m_n m_robots m_viewed m_rules m_taped m_latest m_size m_at m_sort m_place m_end m_fault m_faultAt m_read m_crowds m_traced m_here m_hand m_view m_up m_down m_ruleSize m_ruleRow m_ruleDoes m_name m_goes m_tape m_readSize m_readRow m_readDoes m_own m_crowd m_isStep m_isOfGoal m_isMet m_most m_stands m_doesHere m_from m_trace) H locs) (hl : Cond.fieldLink own index RX8 "robots" "I" ∈ BIG) (hdg : decode cc pc = .ok (.getfield index, 3)) (kk : W p l e R s m args below meth c H locs 0 0 Q (F0 m (pc + 3) ls (.int m_robots :: rest))) : W p l e R s m args below meth c H locs 0 0 Q (F0 m pc ls (.ref (q 0) :: rest)) := cGet uX8 0 rfl rfl 2 (by decide) rfl rfl F E J hl hdg kk
theorem mp_0_2 {z : Int32} (F : CallFix p m c cc nL s args BIG own) (E : EV g A s) (J : VJ g A s.heap (MW g q m_thrown m_n m_robots m_viewed m_rules m_taped m_latest m_size m_at m_sort m_place m_end m_fault m_faultAt m_read m_crowds m_traced m_here m_hand m_view m_up m_down m_ruleSize m_ruleRow m_ruleDoes m_name m_goes m_tape m_readSize m_readRow m_readDoes m_own m_crowd m_isStep m_isOfGoal m_isMet m_most m_stands m_doesHere m_from m_trace) H locs) (hl : Cond.fieldLink own index RX8 "robots" "I" ∈ BIG) (hdg : decode cc pc = .ok (.putfield index, 3)) (kk : ∀ (H1 : Heap) (locs1 : List Loc), VJ g A s.heap (MW g q m_thrown m_n z m_viewed m_rules m_taped m_latest m_size m_at m_sort m_place m_end m_fault m_faultAt m_read m_crowds m_traced m_here m_hand m_view m_up m_down m_ruleSize m_ruleRow m_ruleDoes m_name m_goes m_tape m_readSize m_readRow m_readDoes m_own m_crowd m_isStep m_isOfGoal m_isMet m_most m_stands m_doesHere m_from m_trace) H1 locs1 → W p l e R s m args below meth c H1 locs1 0 0 Q (F0 m (pc + 3) ls rest)) : W p l e R s m args below meth c H locs 0 0 Q (F0 m pc ls (.int z :: .ref (q 0) :: rest)) := cPut (ty := .int) (ci := 7) (fs := [.int m_thrown, .int m_n, .int m_robots, .ref (q 1), .ref (q 2), .int m_viewed, .ref (q 3), .ref (q 4), .ref (q 5), .int m_rules, .ref (q 6), .ref (q 7), .ref (q 8), .ref (q 9), .ref (q 10), .ref (q 11), .int m_taped, .int m_latest, .int m_size, .int m_at, .int m_sort, .int m_place, .int m_end, .int m_fault, .int m_faultAt, .int m_read, .ref (q 12), .ref (q 13), .ref (q 14), .ref (q 15), .int m_crowds, .ref (q 16), .ref (q 17), .ref (q 18), .ref (q 19), .ref (q 20), .ref (q 21), .ref (q 22), .ref (q 23), .ref (q 24), .int m_traced]) (ws' := (MW g q m_thrown m_n z m_viewed m_rules m_taped m_latest m_size m_at m_sort m_place m_end m_fault m_faultAt m_read m_crowds m_traced m_here m_hand m_view m_up m_down m_ruleSize m_ruleRow m_ruleDoes m_name m_goes m_tape m_readSize m_readRow m_readDoes m_own m_crowd m_isStep m_isOfGoal m_isMet m_most m_stands m_doesHere m_from m_trace)) uX8 tyX8 tyX8_ok nmX8 0 rfl rfl 2 (by decide) rfl (by decide +kernel) rfl rfl (show 2 < 41 by decide) rfl F E J hl hdg kk
theorem mg_0_3 (F : CallFix p m c cc nL s args BIG own) (E : EV g A s) (J : VJ g A s.heap (MW g q m_thrown m_n m_robots m_viewed m_rules m_taped m_latest m_size m_at m_sort m_place m_end m_fault m_faultAt m_read m_crowds m_traced m_here m_hand m_view m_up m_down m_ruleSize m_ruleRow m_ruleDoes m_name m_goes m_tape m_readSize m_readRow m_readDoes m_own m_crowd m_isStep m_isOfGoal m_isMet m_most m_stands m_doesHere m_from m_trace) H locs) (hl : Cond.fieldLink own index RX8 "here" "[I" ∈ BIG) (hdg : decode cc pc = .ok (.getfield index, 3)) (kk : W p l e R s m args below meth c H locs 0 0 Q (F0 m (pc + 3) ls (.ref (q 1) :: rest))) : W p l e R s m args below meth c H locs 0 0 Q (F0 m pc ls (.ref (q 0) :: rest)) := cGet uX8 0 rfl rfl 3 (by decide) rfl rfl F E J hl hdg kk
theorem mg_0_4 (F : CallFix p m c cc nL s args BIG own) (E : EV g A s) (J : VJ g A s.heap (MW g q m_thrown m_n m_robots m_viewed m_rules m_taped m_latest m_size m_at m_sort m_place m_end m_fault m_faultAt m_read m_crowds m_traced m_here m_hand m_view m_up m_down m_ruleSize m_ruleRow m_ruleDoes m_name m_goes m_tape m_readSize m_readRow m_readDoes m_own m_crowd m_isStep m_isOfGoal m_isMet m_most m_stands m_doesHere m_from m_trace) H locs) (hl : Cond.fieldLink own index RX8 "hand" "[I" ∈ BIG) (hdg : decode cc pc = .ok (.getfield index, 3)) (kk : W p l e R s m args below meth c H locs 0 0 Q (F0 m (pc + 3) ls (.ref (q 2) :: rest))) : W p l e R s m args below meth c H locs 0 0 Q (F0 m pc ls (.ref (q 0) :: rest)) := cGet uX8 0 rfl rfl 4 (by decide) rfl rfl F E J hl hdg kk
theorem mg_0_5 (F : CallFix p m c cc nL s args BIG own) (E : EV g A s) (J : VJ g A s.heap (MW g q m_thrown m_n m_robots m_viewed m_rules m_taped m_latest m_size m_at m_sort m_place m_end m_fault m_faultAt m_read m_crowds m_traced m_here m_hand m_view m_up m_down m_ruleSize m_ruleRow m_ruleDoes m_name m_goes m_tape m_readSize m_readRow m_readDoes m_own m_crowd m_isStep m_isOfGoal m_isMet m_most m_stands m_doesHere m_from m_trace) H locs) (hl : Cond.fieldLink own index RX8 "viewed" "I" ∈ BIG) (hdg : decode cc pc = .ok (.getfield index, 3)) (kk : W p l e R s m args below meth c H locs 0 0 Q (F0 m (pc + 3) ls (.int m_viewed :: rest))) : W p l e R s m args below meth c H locs 0 0 Q (F0 m pc ls (.ref (q 0) :: rest)) := cGet uX8 0 rfl rfl 5 (by decide) rfl rfl F E J hl hdg kk
theorem mp_0_5 {z : Int32} (F : CallFix p m c cc nL s args BIG own) (E : EV g A s) (J : VJ g A s.heap (MW g q m_thrown m_n m_robots m_viewed m_rules m_taped m_latest m_size m_at m_sort m_place m_end m_fault m_faultAt m_read m_crowds m_traced m_here m_hand m_view m_up m_down m_ruleSize m_ruleRow m_ruleDoes m_name m_goes m_tape m_readSize m_readRow m_readDoes m_own m_crowd m_isStep m_isOfGoal m_isMet m_most m_stands m_doesHere m_from m_trace) H locs) (hl : Cond.fieldLink own index RX8 "viewed" "I" ∈ BIG) (hdg : decode cc pc = .ok (.putfield index, 3)) (kk : ∀ (H1 : Heap) (locs1 : List Loc), VJ g A s.heap (MW g q m_thrown m_n m_robots z m_rules m_taped m_latest m_size m_at m_sort m_place m_end m_fault m_faultAt m_read m_crowds m_traced m_here m_hand m_view m_up m_down m_ruleSize m_ruleRow m_ruleDoes m_name m_goes m_tape m_readSize m_readRow m_readDoes m_own m_crowd m_isStep m_isOfGoal m_isMet m_most m_stands m_doesHere m_from m_trace) H1 locs1 → W p l e R s m args below meth c H1 locs1 0 0 Q (F0 m (pc + 3) ls rest)) : W p l e R s m args below meth c H locs 0 0 Q (F0 m pc ls (.int z :: .ref (q 0) :: rest)) := cPut (ty := .int) (ci := 7) (fs := [.int m_thrown, .int m_n, .int m_robots, .ref (q 1), .ref (q 2), .int m_viewed, .ref (q 3), .ref (q 4), .ref (q 5), .int m_rules, .ref (q 6), .ref (q 7), .ref (q 8), .ref (q 9), .ref (q 10), .ref (q 11), .int m_taped, .int m_latest, .int m_size, .int m_at, .int m_sort, .int m_place, .int m_end, .int m_fault, .int m_faultAt, .int m_read, .ref (q 12), .ref (q 13), .ref (q 14), .ref (q 15), .int m_crowds, .ref (q 16), .ref (q 17), .ref (q 18), .ref (q 19), .ref (q 20), .ref (q 21), .ref (q 22), .ref (q 23), .ref (q 24), .int m_traced]) (ws' := (MW g q m_thrown m_n m_robots z m_rules m_taped m_latest m_size m_at m_sort m_place m_end m_fault m_faultAt m_read m_crowds m_traced m_here m_hand m_view m_up m_down m_ruleSize m_ruleRow m_ruleDoes m_name m_goes m_tape m_readSize m_readRow m_readDoes m_own m_crowd m_isStep m_isOfGoal m_isMet m_most m_stands m_doesHere m_from m_trace)) uX8 tyX8 tyX8_ok nmX8 0 rfl rfl 5 (by decide) rfl (by decide +kernel) rfl rfl (show 5 < 41 by decide) rfl F E J hl hdg kk
theorem mg_0_6 (F : CallFix p m c cc nL s args BIG own) (E : EV g A s) (J : VJ g A s.heap (MW g q m_thrown m_n m_robots m_viewed m_rules m_taped m_latest m_size m_at m_sort m_place m_end m_fault m_faultAt m_read m_crowds m_traced m_here m_hand m_view m_up m_down m_ruleSize m_ruleRow m_ruleDoes m_name m_goes m_tape m_readSize m_readRow m_readDoes m_own m_crowd m_isStep m_isOfGoal m_isMet m_most m_stands m_doesHere m_from m_trace) H locs) (hl : Cond.fieldLink own index RX8 "view" "[I" ∈ BIG) (hdg : decode cc pc = .ok (.getfield index, 3)) (kk : W p l e R s m args below meth c H locs 0 0 Q (F0 m (pc + 3) ls (.ref (q 3) :: rest))) : W p l e R s m args below meth c H locs 0 0 Q (F0 m pc ls (.ref (q 0) :: rest)) := cGet uX8 0 rfl rfl 6 (by decide) rfl rfl F E J hl hdg kk
theorem mg_0_7 (F : CallFix p m c cc nL s args BIG own) (E : EV g A s) (J : VJ g A s.heap (MW g q m_thrown m_n m_robots m_viewed m_rules m_taped m_latest m_size m_at m_sort m_place m_end m_fault m_faultAt m_read m_crowds m_traced m_here m_hand m_view m_up m_down m_ruleSize m_ruleRow m_ruleDoes m_name m_goes m_tape m_readSize m_readRow m_readDoes m_own m_crowd m_isStep m_isOfGoal m_isMet m_most m_stands m_doesHere m_from m_trace) H locs) (hl : Cond.fieldLink own index RX8 "up" "[I" ∈ BIG) (hdg : decode cc pc = .ok (.getfield index, 3)) (kk : W p l e R s m args below meth c H locs 0 0 Q (F0 m (pc + 3) ls (.ref (q 4) :: rest))) : W p l e R s m args below meth c H locs 0 0 Q (F0 m pc ls (.ref (q 0) :: rest)) := cGet uX8 0 rfl rfl 7 (by decide) rfl rfl F E J hl hdg kk
theorem mg_0_8 (F : CallFix p m c cc nL s args BIG own) (E : EV g A s) (J : VJ g A s.heap (MW g q m_thrown m_n m_robots m_viewed m_rules m_taped m_latest m_size m_at m_sort m_place m_end m_fault m_faultAt m_read m_crowds m_traced m_here m_hand m_view m_up m_down m_ruleSize m_ruleRow m_ruleDoes m_name m_goes m_tape m_readSize m_readRow m_readDoes m_own m_crowd m_isStep m_isOfGoal m_isMet m_most m_stands m_doesHere m_from m_trace) H locs) (hl : Cond.fieldLink own index RX8 "down" "[I" ∈ BIG) (hdg : decode cc pc = .ok (.getfield index, 3)) (kk : W p l e R s m args below meth c H locs 0 0 Q (F0 m (pc + 3) ls (.ref (q 5) :: rest))) : W p l e R s m args below meth c H locs 0 0 Q (F0 m pc ls (.ref (q 0) :: rest)) := cGet uX8 0 rfl rfl 8 (by decide) rfl rfl F E J hl hdg kk
theorem mg_0_9 (F : CallFix p m c cc nL s args BIG own) (E : EV g A s) (J : VJ g A s.heap (MW g q m_thrown m_n m_robots m_viewed m_rules m_taped m_latest m_size m_at m_sort m_place m_end m_fault m_faultAt m_read m_crowds m_traced m_here m_hand m_view m_up m_down m_ruleSize m_ruleRow m_ruleDoes m_name m_goes m_tape m_readSize m_readRow m_readDoes m_own m_crowd m_isStep m_isOfGoal m_isMet m_most m_stands m_doesHere m_from m_trace) H locs) (hl : Cond.fieldLink own index RX8 "rules" "I" ∈ BIG) (hdg : decode cc pc = .ok (.getfield index, 3)) (kk : W p l e R s m args below meth c H locs 0 0 Q (F0 m (pc + 3) ls (.int m_rules :: rest))) : W p l e R s m args below meth c H locs 0 0 Q (F0 m pc ls (.ref (q 0) :: rest)) := cGet uX8 0 rfl rfl 9 (by decide) rfl rfl F E J hl hdg kk
theorem mp_0_9 {z : Int32} (F : CallFix p m c cc nL s args BIG own) (E : EV g A s) (J : VJ g A s.heap (MW g q m_thrown m_n m_robots m_viewed m_rules m_taped m_latest m_size m_at m_sort m_place m_end m_fault m_faultAt m_read m_crowds m_traced m_here m_hand m_view m_up m_down m_ruleSize m_ruleRow m_ruleDoes m_name m_goes m_tape m_readSize m_readRow m_readDoes m_own m_crowd m_isStep m_isOfGoal m_isMet m_most m_stands m_doesHere m_from m_trace) H locs) (hl : Cond.fieldLink own index RX8 "rules" "I" ∈ BIG) (hdg : decode cc pc = .ok (.putfield index, 3)) (kk : ∀ (H1 : Heap) (locs1 : List Loc), VJ g A s.heap (MW g q m_thrown m_n m_robots m_viewed z m_taped m_latest m_size m_at m_sort m_place m_end m_fault m_faultAt m_read m_crowds m_traced m_here m_hand m_view m_up m_down m_ruleSize m_ruleRow m_ruleDoes m_name m_goes m_tape m_readSize m_readRow m_readDoes m_own m_crowd m_isStep m_isOfGoal m_isMet m_most m_stands m_doesHere m_from m_trace) H1 locs1 → W p l e R s m args below meth c H1 locs1 0 0 Q (F0 m (pc + 3) ls rest)) : W p l e R s m args below meth c H locs 0 0 Q (F0 m pc ls (.int z :: .ref (q 0) :: rest)) := cPut (ty := .int) (ci := 7) (fs := [.int m_thrown, .int m_n, .int m_robots, .ref (q 1), .ref (q 2), .int m_viewed, .ref (q 3), .ref (q 4), .ref (q 5), .int m_rules, .ref (q 6), .ref (q 7), .ref (q 8), .ref (q 9), .ref (q 10), .ref (q 11), .int m_taped, .int m_latest, .int m_size, .int m_at, .int m_sort, .int m_place, .int m_end, .int m_fault, .int m_faultAt, .int m_read, .ref (q 12), .ref (q 13), .ref (q 14), .ref (q 15), .int m_crowds, .ref (q 16), .ref (q 17), .ref (q 18), .ref (q 19), .ref (q 20), .ref (q 21), .ref (q 22), .ref (q 23), .ref (q 24), .int m_traced]) (ws' := (MW g q m_thrown m_n m_robots m_viewed z m_taped m_latest m_size m_at m_sort m_place m_end m_fault m_faultAt m_read m_crowds m_traced m_here m_hand m_view m_up m_down m_ruleSize m_ruleRow m_ruleDoes m_name m_goes m_tape m_readSize m_readRow m_readDoes m_own m_crowd m_isStep m_isOfGoal m_isMet m_most m_stands m_doesHere m_from m_trace)) uX8 tyX8 tyX8_ok nmX8 0 rfl rfl 9 (by decide) rfl (by decide +kernel) rfl rfl (show 9 < 41 by decide) rfl F E J hl hdg kk
theorem mg_0_10 (F : CallFix p m c cc nL s args BIG own) (E : EV g A s) (J : VJ g A s.heap (MW g q m_thrown m_n m_robots m_viewed m_rules m_taped m_latest m_size m_at m_sort m_place m_end m_fault m_faultAt m_read m_crowds m_traced m_here m_hand m_view m_up m_down m_ruleSize m_ruleRow m_ruleDoes m_name m_goes m_tape m_readSize m_readRow m_readDoes m_own m_crowd m_isStep m_isOfGoal m_isMet m_most m_stands m_doesHere m_from m_trace) H locs) (hl : Cond.fieldLink own index RX8 "ruleSize" "[I" ∈ BIG) (hdg : decode cc pc = .ok (.getfield index, 3)) (kk : W p l e R s m args below meth c H locs 0 0 Q (F0 m (pc + 3) ls (.ref (q 6) :: rest))) : W p l e R s m args below meth c H locs 0 0 Q (F0 m pc ls (.ref (q 0) :: rest)) := cGet uX8 0 rfl rfl 10 (by decide) rfl rfl F E J hl hdg kk
theorem mg_0_11 (F : CallFix p m c cc nL s args BIG own) (E : EV g A s) (J : VJ g A s.heap (MW g q m_thrown m_n m_robots m_viewed m_rules m_taped m_latest m_size m_at m_sort m_place m_end m_fault m_faultAt m_read m_crowds m_traced m_here m_hand m_view m_up m_down m_ruleSize m_ruleRow m_ruleDoes m_name m_goes m_tape m_readSize m_readRow m_readDoes m_own m_crowd m_isStep m_isOfGoal m_isMet m_most m_stands m_doesHere m_from m_trace) H locs) (hl : Cond.fieldLink own index RX8 "ruleRow" "[I" ∈ BIG) (hdg : decode cc pc = .ok (.getfield index, 3)) (kk : W p l e R s m args below meth c H locs 0 0 Q (F0 m (pc + 3) ls (.ref (q 7) :: rest))) : W p l e R s m args below meth c H locs 0 0 Q (F0 m pc ls (.ref (q 0) :: rest)) := cGet uX8 0 rfl rfl 11 (by decide) rfl rfl F E J hl hdg kk
theorem mg_0_12 (F : CallFix p m c cc nL s args BIG own) (E : EV g A s) (J : VJ g A s.heap (MW g q m_thrown m_n m_robots m_viewed m_rules m_taped m_latest m_size m_at m_sort m_place m_end m_fault m_faultAt m_read m_crowds m_traced m_here m_hand m_view m_up m_down m_ruleSize m_ruleRow m_ruleDoes m_name m_goes m_tape m_readSize m_readRow m_readDoes m_own m_crowd m_isStep m_isOfGoal m_isMet m_most m_stands m_doesHere m_from m_trace) H locs) (hl : Cond.fieldLink own index RX8 "ruleDoes" "[I" ∈ BIG) (hdg : decode cc pc = .ok (.getfield index, 3)) (kk : W p l e R s m args below meth c H locs 0 0 Q (F0 m (pc + 3) ls (.ref (q 8) :: rest))) : W p l e R s m args below meth c H locs 0 0 Q (F0 m pc ls (.ref (q 0) :: rest)) := cGet uX8 0 rfl rfl 12 (by decide) rfl rfl F E J hl hdg kk
theorem mg_0_13 (F : CallFix p m c cc nL s args BIG own) (E : EV g A s) (J : VJ g A s.heap (MW g q m_thrown m_n m_robots m_viewed m_rules m_taped m_latest m_size m_at m_sort m_place m_end m_fault m_faultAt m_read m_crowds m_traced m_here m_hand m_view m_up m_down m_ruleSize m_ruleRow m_ruleDoes m_name m_goes m_tape m_readSize m_readRow m_readDoes m_own m_crowd m_isStep m_isOfGoal m_isMet m_most m_stands m_doesHere m_from m_trace) H locs) (hl : Cond.fieldLink own index RX8 "name" "[I" ∈ BIG) (hdg : decode cc pc = .ok (.getfield index, 3)) (kk : W p l e R s m args below meth c H locs 0 0 Q (F0 m (pc + 3) ls (.ref (q 9) :: rest))) : W p l e R s m args below meth c H locs 0 0 Q (F0 m pc ls (.ref (q 0) :: rest)) := cGet uX8 0 rfl rfl 13 (by decide) rfl rfl F E J hl hdg kk
theorem mg_0_14 (F : CallFix p m c cc nL s args BIG own) (E : EV g A s) (J : VJ g A s.heap (MW g q m_thrown m_n m_robots m_viewed m_rules m_taped m_latest m_size m_at m_sort m_place m_end m_fault m_faultAt m_read m_crowds m_traced m_here m_hand m_view m_up m_down m_ruleSize m_ruleRow m_ruleDoes m_name m_goes m_tape m_readSize m_readRow m_readDoes m_own m_crowd m_isStep m_isOfGoal m_isMet m_most m_stands m_doesHere m_from m_trace) H locs) (hl : Cond.fieldLink own index RX8 "goes" "[I" ∈ BIG) (hdg : decode cc pc = .ok (.getfield index, 3)) (kk : W p l e R s m args below meth c H locs 0 0 Q (F0 m (pc + 3) ls (.ref (q 10) :: rest))) : W p l e R s m args below meth c H locs 0 0 Q (F0 m pc ls (.ref (q 0) :: rest)) := cGet uX8 0 rfl rfl 14 (by decide) rfl rfl F E J hl hdg kk
theorem mg_0_15 (F : CallFix p m c cc nL s args BIG own) (E : EV g A s) (J : VJ g A s.heap (MW g q m_thrown m_n m_robots m_viewed m_rules m_taped m_latest m_size m_at m_sort m_place m_end m_fault m_faultAt m_read m_crowds m_traced m_here m_hand m_view m_up m_down m_ruleSize m_ruleRow m_ruleDoes m_name m_goes m_tape m_readSize m_readRow m_readDoes m_own m_crowd m_isStep m_isOfGoal m_isMet m_most m_stands m_doesHere m_from m_trace) H locs) (hl : Cond.fieldLink own index RX8 "tape" "[I" ∈ BIG) (hdg : decode cc pc = .ok (.getfield index, 3)) (kk : W p l e R s m args below meth c H locs 0 0 Q (F0 m (pc + 3) ls (.ref (q 11) :: rest))) : W p l e R s m args below meth c H locs 0 0 Q (F0 m pc ls (.ref (q 0) :: rest)) := cGet uX8 0 rfl rfl 15 (by decide) rfl rfl F E J hl hdg kk
theorem mg_0_16 (F : CallFix p m c cc nL s args BIG own) (E : EV g A s) (J : VJ g A s.heap (MW g q m_thrown m_n m_robots m_viewed m_rules m_taped m_latest m_size m_at m_sort m_place m_end m_fault m_faultAt m_read m_crowds m_traced m_here m_hand m_view m_up m_down m_ruleSize m_ruleRow m_ruleDoes m_name m_goes m_tape m_readSize m_readRow m_readDoes m_own m_crowd m_isStep m_isOfGoal m_isMet m_most m_stands m_doesHere m_from m_trace) H locs) (hl : Cond.fieldLink own index RX8 "taped" "I" ∈ BIG) (hdg : decode cc pc = .ok (.getfield index, 3)) (kk : W p l e R s m args below meth c H locs 0 0 Q (F0 m (pc + 3) ls (.int m_taped :: rest))) : W p l e R s m args below meth c H locs 0 0 Q (F0 m pc ls (.ref (q 0) :: rest)) := cGet uX8 0 rfl rfl 16 (by decide) rfl rfl F E J hl hdg kk
theorem mp_0_16 {z : Int32} (F : CallFix p m c cc nL s args BIG own) (E : EV g A s) (J : VJ g A s.heap (MW g q m_thrown m_n m_robots m_viewed m_rules m_taped m_latest m_size m_at m_sort m_place m_end m_fault m_faultAt m_read m_crowds m_traced m_here m_hand m_view m_up m_down m_ruleSize m_ruleRow m_ruleDoes m_name m_goes m_tape m_readSize m_readRow m_readDoes m_own m_crowd m_isStep m_isOfGoal m_isMet m_most m_stands m_doesHere m_from m_trace) H locs) (hl : Cond.fieldLink own index RX8 "taped" "I" ∈ BIG) (hdg : decode cc pc = .ok (.putfield index, 3)) (kk : ∀ (H1 : Heap) (locs1 : List Loc), VJ g A s.heap (MW g q m_thrown m_n m_robots m_viewed m_rules z m_latest m_size m_at m_sort m_place m_end m_fault m_faultAt m_read m_crowds m_traced m_here m_hand m_view m_up m_down m_ruleSize m_ruleRow m_ruleDoes m_name m_goes m_tape m_readSize m_readRow m_readDoes m_own m_crowd m_isStep m_isOfGoal m_isMet m_most m_stands m_doesHere m_from m_trace) H1 locs1 → W p l e R s m args below meth c H1 locs1 0 0 Q (F0 m (pc + 3) ls rest)) : W p l e R s m args below meth c H locs 0 0 Q (F0 m pc ls (.int z :: .ref (q 0) :: rest)) := cPut (ty := .int) (ci := 7) (fs := [.int m_thrown, .int m_n, .int m_robots, .ref (q 1), .ref (q 2), .int m_viewed, .ref (q 3), .ref (q 4), .ref (q 5), .int m_rules, .ref (q 6), .ref (q 7), .ref (q 8), .ref (q 9), .ref (q 10), .ref (q 11), .int m_taped, .int m_latest, .int m_size, .int m_at, .int m_sort, .int m_place, .int m_end, .int m_fault, .int m_faultAt, .int m_read, .ref (q 12), .ref (q 13), .ref (q 14), .ref (q 15), .int m_crowds, .ref (q 16), .ref (q 17), .ref (q 18), .ref (q 19), .ref (q 20), .ref (q 21), .ref (q 22), .ref (q 23), .ref (q 24), .int m_traced]) (ws' := (MW g q m_thrown m_n m_robots m_viewed m_rules z m_latest m_size m_at m_sort m_place m_end m_fault m_faultAt m_read m_crowds m_traced m_here m_hand m_view m_up m_down m_ruleSize m_ruleRow m_ruleDoes m_name m_goes m_tape m_readSize m_readRow m_readDoes m_own m_crowd m_isStep m_isOfGoal m_isMet m_most m_stands m_doesHere m_from m_trace)) uX8 tyX8 tyX8_ok nmX8 0 rfl rfl 16 (by decide) rfl (by decide +kernel) rfl rfl (show 16 < 41 by decide) rfl F E J hl hdg kk
theorem mg_0_17 (F : CallFix p m c cc nL s args BIG own) (E : EV g A s) (J : VJ g A s.heap (MW g q m_thrown m_n m_robots m_viewed m_rules m_taped m_latest m_size m_at m_sort m_place m_end m_fault m_faultAt m_read m_crowds m_traced m_here m_hand m_view m_up m_down m_ruleSize m_ruleRow m_ruleDoes m_name m_goes m_tape m_readSize m_readRow m_readDoes m_own m_crowd m_isStep m_isOfGoal m_isMet m_most m_stands m_doesHere m_from m_trace) H locs) (hl : Cond.fieldLink own index RX8 "latest" "I" ∈ BIG) (hdg : decode cc pc = .ok (.getfield index, 3)) (kk : W p l e R s m args below meth c H locs 0 0 Q (F0 m (pc + 3) ls (.int m_latest :: rest))) : W p l e R s m args below meth c H locs 0 0 Q (F0 m pc ls (.ref (q 0) :: rest)) := cGet uX8 0 rfl rfl 17 (by decide) rfl rfl F E J hl hdg kk
theorem mp_0_17 {z : Int32} (F : CallFix p m c cc nL s args BIG own) (E : EV g A s) (J : VJ g A s.heap (MW g q m_thrown m_n m_robots m_viewed m_rules m_taped m_latest m_size m_at m_sort m_place m_end m_fault m_faultAt m_read m_crowds m_traced m_here m_hand m_view m_up m_down m_ruleSize m_ruleRow m_ruleDoes m_name m_goes m_tape m_readSize m_readRow m_readDoes m_own m_crowd m_isStep m_isOfGoal m_isMet m_most m_stands m_doesHere m_from m_trace) H locs) (hl : Cond.fieldLink own index RX8 "latest" "I" ∈ BIG) (hdg : decode cc pc = .ok (.putfield index, 3)) (kk : ∀ (H1 : Heap) (locs1 : List Loc), VJ g A s.heap (MW g q m_thrown m_n m_robots m_viewed m_rules m_taped z m_size m_at m_sort m_place m_end m_fault m_faultAt m_read m_crowds m_traced m_here m_hand m_view m_up m_down m_ruleSize m_ruleRow m_ruleDoes m_name m_goes m_tape m_readSize m_readRow m_readDoes m_own m_crowd m_isStep m_isOfGoal m_isMet m_most m_stands m_doesHere m_from m_trace) H1 locs1 → W p l e R s m args below meth c H1 locs1 0 0 Q (F0 m (pc + 3) ls rest)) : W p l e R s m args below meth c H locs 0 0 Q (F0 m pc ls (.int z :: .ref (q 0) :: rest)) := cPut (ty := .int) (ci := 7) (fs := [.int m_thrown, .int m_n, .int m_robots, .ref (q 1), .ref (q 2), .int m_viewed, .ref (q 3), .ref (q 4), .ref (q 5), .int m_rules, .ref (q 6), .ref (q 7), .ref (q 8), .ref (q 9), .ref (q 10), .ref (q 11), .int m_taped, .int m_latest, .int m_size, .int m_at, .int m_sort, .int m_place, .int m_end, .int m_fault, .int m_faultAt, .int m_read, .ref (q 12), .ref (q 13), .ref (q 14), .ref (q 15), .int m_crowds, .ref (q 16), .ref (q 17), .ref (q 18), .ref (q 19), .ref (q 20), .ref (q 21), .ref (q 22), .ref (q 23), .ref (q 24), .int m_traced]) (ws' := (MW g q m_thrown m_n m_robots m_viewed m_rules m_taped z m_size m_at m_sort m_place m_end m_fault m_faultAt m_read m_crowds m_traced m_here m_hand m_view m_up m_down m_ruleSize m_ruleRow m_ruleDoes m_name m_goes m_tape m_readSize m_readRow m_readDoes m_own m_crowd m_isStep m_isOfGoal m_isMet m_most m_stands m_doesHere m_from m_trace)) uX8 tyX8 tyX8_ok nmX8 0 rfl rfl 17 (by decide) rfl (by decide +kernel) rfl rfl (show 17 < 41 by decide) rfl F E J hl hdg kk
theorem mg_0_18 (F : CallFix p m c cc nL s args BIG own) (E : EV g A s) (J : VJ g A s.heap (MW g q m_thrown m_n m_robots m_viewed m_rules m_taped m_latest m_size m_at m_sort m_place m_end m_fault m_faultAt m_read m_crowds m_traced m_here m_hand m_view m_up m_down m_ruleSize m_ruleRow m_ruleDoes m_name m_goes m_tape m_readSize m_readRow m_readDoes m_own m_crowd m_isStep m_isOfGoal m_isMet m_most m_stands m_doesHere m_from m_trace) H locs) (hl : Cond.fieldLink own index RX8 "size" "I" ∈ BIG) (hdg : decode cc pc = .ok (.getfield index, 3)) (kk : W p l e R s m args below meth c H locs 0 0 Q (F0 m (pc + 3) ls (.int m_size :: rest))) : W p l e R s m args below meth c H locs 0 0 Q (F0 m pc ls (.ref (q 0) :: rest)) := cGet uX8 0 rfl rfl 18 (by decide) rfl rfl F E J hl hdg kk
theorem mp_0_18 {z : Int32} (F : CallFix p m c cc nL s args BIG own) (E : EV g A s) (J : VJ g A s.heap (MW g q m_thrown m_n m_robots m_viewed m_rules m_taped m_latest m_size m_at m_sort m_place m_end m_fault m_faultAt m_read m_crowds m_traced m_here m_hand m_view m_up m_down m_ruleSize m_ruleRow m_ruleDoes m_name m_goes m_tape m_readSize m_readRow m_readDoes m_own m_crowd m_isStep m_isOfGoal m_isMet m_most m_stands m_doesHere m_from m_trace) H locs) (hl : Cond.fieldLink own index RX8 "size" "I" ∈ BIG) (hdg : decode cc pc = .ok (.putfield index, 3)) (kk : ∀ (H1 : Heap) (locs1 : List Loc), VJ g A s.heap (MW g q m_thrown m_n m_robots m_viewed m_rules m_taped m_latest z m_at m_sort m_place m_end m_fault m_faultAt m_read m_crowds m_traced m_here m_hand m_view m_up m_down m_ruleSize m_ruleRow m_ruleDoes m_name m_goes m_tape m_readSize m_readRow m_readDoes m_own m_crowd m_isStep m_isOfGoal m_isMet m_most m_stands m_doesHere m_from m_trace) H1 locs1 → W p l e R s m args below meth c H1 locs1 0 0 Q (F0 m (pc + 3) ls rest)) : W p l e R s m args below meth c H locs 0 0 Q (F0 m pc ls (.int z :: .ref (q 0) :: rest)) := cPut (ty := .int) (ci := 7) (fs := [.int m_thrown, .int m_n, .int m_robots, .ref (q 1), .ref (q 2), .int m_viewed, .ref (q 3), .ref (q 4), .ref (q 5), .int m_rules, .ref (q 6), .ref (q 7), .ref (q 8), .ref (q 9), .ref (q 10), .ref (q 11), .int m_taped, .int m_latest, .int m_size, .int m_at, .int m_sort, .int m_place, .int m_end, .int m_fault, .int m_faultAt, .int m_read, .ref (q 12), .ref (q 13), .ref (q 14), .ref (q 15), .int m_crowds, .ref (q 16), .ref (q 17), .ref (q 18), .ref (q 19), .ref (q 20), .ref (q 21), .ref (q 22), .ref (q 23), .ref (q 24), .int m_traced]) (ws' := (MW g q m_thrown m_n m_robots m_viewed m_rules m_taped m_latest z m_at m_sort m_place m_end m_fault m_faultAt m_read m_crowds m_traced m_here m_hand m_view m_up m_down m_ruleSize m_ruleRow m_ruleDoes m_name m_goes m_tape m_readSize m_readRow m_readDoes m_own m_crowd m_isStep m_isOfGoal m_isMet m_most m_stands m_doesHere m_from m_trace)) uX8 tyX8 tyX8_ok nmX8 0 rfl rfl 18 (by decide) rfl (by decide +kernel) rfl rfl (show 18 < 41 by decide) rfl F E J hl hdg kk
theorem mg_0_19 (F : CallFix p m c cc nL s args BIG own) (E : EV g A s) (J : VJ g A s.heap (MW g q m_thrown m_n m_robots m_viewed m_rules m_taped m_latest m_size m_at m_sort m_place m_end m_fault m_faultAt m_read m_crowds m_traced m_here m_hand m_view m_up m_down m_ruleSize m_ruleRow m_ruleDoes m_name m_goes m_tape m_readSize m_readRow m_readDoes m_own m_crowd m_isStep m_isOfGoal m_isMet m_most m_stands m_doesHere m_from m_trace) H locs) (hl : Cond.fieldLink own index RX8 "at" "I" ∈ BIG) (hdg : decode cc pc = .ok (.getfield index, 3)) (kk : W p l e R s m args below meth c H locs 0 0 Q (F0 m (pc + 3) ls (.int m_at :: rest))) : W p l e R s m args below meth c H locs 0 0 Q (F0 m pc ls (.ref (q 0) :: rest)) := cGet uX8 0 rfl rfl 19 (by decide) rfl rfl F E J hl hdg kk
theorem mp_0_19 {z : Int32} (F : CallFix p m c cc nL s args BIG own) (E : EV g A s) (J : VJ g A s.heap (MW g q m_thrown m_n m_robots m_viewed m_rules m_taped m_latest m_size m_at m_sort m_place m_end m_fault m_faultAt m_read m_crowds m_traced m_here m_hand m_view m_up m_down m_ruleSize m_ruleRow m_ruleDoes m_name m_goes m_tape m_readSize m_readRow m_readDoes m_own m_crowd m_isStep m_isOfGoal m_isMet m_most m_stands m_doesHere m_from m_trace) H locs) (hl : Cond.fieldLink own index RX8 "at" "I" ∈ BIG) (hdg : decode cc pc = .ok (.putfield index, 3)) (kk : ∀ (H1 : Heap) (locs1 : List Loc), VJ g A s.heap (MW g q m_thrown m_n m_robots m_viewed m_rules m_taped m_latest m_size z m_sort m_place m_end m_fault m_faultAt m_read m_crowds m_traced m_here m_hand m_view m_up m_down m_ruleSize m_ruleRow m_ruleDoes m_name m_goes m_tape m_readSize m_readRow m_readDoes m_own m_crowd m_isStep m_isOfGoal m_isMet m_most m_stands m_doesHere m_from m_trace) H1 locs1 → W p l e R s m args below meth c H1 locs1 0 0 Q (F0 m (pc + 3) ls rest)) : W p l e R s m args below meth c H locs 0 0 Q (F0 m pc ls (.int z :: .ref (q 0) :: rest)) := cPut (ty := .int) (ci := 7) (fs := [.int m_thrown, .int m_n, .int m_robots, .ref (q 1), .ref (q 2), .int m_viewed, .ref (q 3), .ref (q 4), .ref (q 5), .int m_rules, .ref (q 6), .ref (q 7), .ref (q 8), .ref (q 9), .ref (q 10), .ref (q 11), .int m_taped, .int m_latest, .int m_size, .int m_at, .int m_sort, .int m_place, .int m_end, .int m_fault, .int m_faultAt, .int m_read, .ref (q 12), .ref (q 13), .ref (q 14), .ref (q 15), .int m_crowds, .ref (q 16), .ref (q 17), .ref (q 18), .ref (q 19), .ref (q 20), .ref (q 21), .ref (q 22), .ref (q 23), .ref (q 24), .int m_traced]) (ws' := (MW g q m_thrown m_n m_robots m_viewed m_rules m_taped m_latest m_size z m_sort m_place m_end m_fault m_faultAt m_read m_crowds m_traced m_here m_hand m_view m_up m_down m_ruleSize m_ruleRow m_ruleDoes m_name m_goes m_tape m_readSize m_readRow m_readDoes m_own m_crowd m_isStep m_isOfGoal m_isMet m_most m_stands m_doesHere m_from m_trace)) uX8 tyX8 tyX8_ok nmX8 0 rfl rfl 19 (by decide) rfl (by decide +kernel) rfl rfl (show 19 < 41 by decide) rfl F E J hl hdg kk
theorem mg_0_20 (F : CallFix p m c cc nL s args BIG own) (E : EV g A s) (J : VJ g A s.heap (MW g q m_thrown m_n m_robots m_viewed m_rules m_taped m_latest m_size m_at m_sort m_place m_end m_fault m_faultAt m_read m_crowds m_traced m_here m_hand m_view m_up m_down m_ruleSize m_ruleRow m_ruleDoes m_name m_goes m_tape m_readSize m_readRow m_readDoes m_own m_crowd m_isStep m_isOfGoal m_isMet m_most m_stands m_doesHere m_from m_trace) H locs) (hl : Cond.fieldLink own index RX8 "sort" "I" ∈ BIG) (hdg : decode cc pc = .ok (.getfield index, 3)) (kk : W p l e R s m args below meth c H locs 0 0 Q (F0 m (pc + 3) ls (.int m_sort :: rest))) : W p l e R s m args below meth c H locs 0 0 Q (F0 m pc ls (.ref (q 0) :: rest)) := cGet uX8 0 rfl rfl 20 (by decide) rfl rfl F E J hl hdg kk
theorem mp_0_20 {z : Int32} (F : CallFix p m c cc nL s args BIG own) (E : EV g A s) (J : VJ g A s.heap (MW g q m_thrown m_n m_robots m_viewed m_rules m_taped m_latest m_size m_at m_sort m_place m_end m_fault m_faultAt m_read m_crowds m_traced m_here m_hand m_view m_up m_down m_ruleSize m_ruleRow m_ruleDoes m_name m_goes m_tape m_readSize m_readRow m_readDoes m_own m_crowd m_isStep m_isOfGoal m_isMet m_most m_stands m_doesHere m_from m_trace) H locs) (hl : Cond.fieldLink own index RX8 "sort" "I" ∈ BIG) (hdg : decode cc pc = .ok (.putfield index, 3)) (kk : ∀ (H1 : Heap) (locs1 : List Loc), VJ g A s.heap (MW g q m_thrown m_n m_robots m_viewed m_rules m_taped m_latest m_size m_at z m_place m_end m_fault m_faultAt m_read m_crowds m_traced m_here m_hand m_view m_up m_down m_ruleSize m_ruleRow m_ruleDoes m_name m_goes m_tape m_readSize m_readRow m_readDoes m_own m_crowd m_isStep m_isOfGoal m_isMet m_most m_stands m_doesHere m_from m_trace) H1 locs1 → W p l e R s m args below meth c H1 locs1 0 0 Q (F0 m (pc + 3) ls rest)) : W p l e R s m args below meth c H locs 0 0 Q (F0 m pc ls (.int z :: .ref (q 0) :: rest)) := cPut (ty := .int) (ci := 7) (fs := [.int m_thrown, .int m_n, .int m_robots, .ref (q 1), .ref (q 2), .int m_viewed, .ref (q 3), .ref (q 4), .ref (q 5), .int m_rules, .ref (q 6), .ref (q 7), .ref (q 8), .ref (q 9), .ref (q 10), .ref (q 11), .int m_taped, .int m_latest, .int m_size, .int m_at, .int m_sort, .int m_place, .int m_end, .int m_fault, .int m_faultAt, .int m_read, .ref (q 12), .ref (q 13), .ref (q 14), .ref (q 15), .int m_crowds, .ref (q 16), .ref (q 17), .ref (q 18), .ref (q 19), .ref (q 20), .ref (q 21), .ref (q 22), .ref (q 23), .ref (q 24), .int m_traced]) (ws' := (MW g q m_thrown m_n m_robots m_viewed m_rules m_taped m_latest m_size m_at z m_place m_end m_fault m_faultAt m_read m_crowds m_traced m_here m_hand m_view m_up m_down m_ruleSize m_ruleRow m_ruleDoes m_name m_goes m_tape m_readSize m_readRow m_readDoes m_own m_crowd m_isStep m_isOfGoal m_isMet m_most m_stands m_doesHere m_from m_trace)) uX8 tyX8 tyX8_ok nmX8 0 rfl rfl 20 (by decide) rfl (by decide +kernel) rfl rfl (show 20 < 41 by decide) rfl F E J hl hdg kk
theorem mg_0_21 (F : CallFix p m c cc nL s args BIG own) (E : EV g A s) (J : VJ g A s.heap (MW g q m_thrown m_n m_robots m_viewed m_rules m_taped m_latest m_size m_at m_sort m_place m_end m_fault m_faultAt m_read m_crowds m_traced m_here m_hand m_view m_up m_down m_ruleSize m_ruleRow m_ruleDoes m_name m_goes m_tape m_readSize m_readRow m_readDoes m_own m_crowd m_isStep m_isOfGoal m_isMet m_most m_stands m_doesHere m_from m_trace) H locs) (hl : Cond.fieldLink own index RX8 "place" "I" ∈ BIG) (hdg : decode cc pc = .ok (.getfield index, 3)) (kk : W p l e R s m args below meth c H locs 0 0 Q (F0 m (pc + 3) ls (.int m_place :: rest))) : W p l e R s m args below meth c H locs 0 0 Q (F0 m pc ls (.ref (q 0) :: rest)) := cGet uX8 0 rfl rfl 21 (by decide) rfl rfl F E J hl hdg kk
theorem mp_0_21 {z : Int32} (F : CallFix p m c cc nL s args BIG own) (E : EV g A s) (J : VJ g A s.heap (MW g q m_thrown m_n m_robots m_viewed m_rules m_taped m_latest m_size m_at m_sort m_place m_end m_fault m_faultAt m_read m_crowds m_traced m_here m_hand m_view m_up m_down m_ruleSize m_ruleRow m_ruleDoes m_name m_goes m_tape m_readSize m_readRow m_readDoes m_own m_crowd m_isStep m_isOfGoal m_isMet m_most m_stands m_doesHere m_from m_trace) H locs) (hl : Cond.fieldLink own index RX8 "place" "I" ∈ BIG) (hdg : decode cc pc = .ok (.putfield index, 3)) (kk : ∀ (H1 : Heap) (locs1 : List Loc), VJ g A s.heap (MW g q m_thrown m_n m_robots m_viewed m_rules m_taped m_latest m_size m_at m_sort z m_end m_fault m_faultAt m_read m_crowds m_traced m_here m_hand m_view m_up m_down m_ruleSize m_ruleRow m_ruleDoes m_name m_goes m_tape m_readSize m_readRow m_readDoes m_own m_crowd m_isStep m_isOfGoal m_isMet m_most m_stands m_doesHere m_from m_trace) H1 locs1 → W p l e R s m args below meth c H1 locs1 0 0 Q (F0 m (pc + 3) ls rest)) : W p l e R s m args below meth c H locs 0 0 Q (F0 m pc ls (.int z :: .ref (q 0) :: rest)) := cPut (ty := .int) (ci := 7) (fs := [.int m_thrown, .int m_n, .int m_robots, .ref (q 1), .ref (q 2), .int m_viewed, .ref (q 3), .ref (q 4), .ref (q 5), .int m_rules, .ref (q 6), .ref (q 7), .ref (q 8), .ref (q 9), .ref (q 10), .ref (q 11), .int m_taped, .int m_latest, .int m_size, .int m_at, .int m_sort, .int m_place, .int m_end, .int m_fault, .int m_faultAt, .int m_read, .ref (q 12), .ref (q 13), .ref (q 14), .ref (q 15), .int m_crowds, .ref (q 16), .ref (q 17), .ref (q 18), .ref (q 19), .ref (q 20), .ref (q 21), .ref (q 22), .ref (q 23), .ref (q 24), .int m_traced]) (ws' := (MW g q m_thrown m_n m_robots m_viewed m_rules m_taped m_latest m_size m_at m_sort z m_end m_fault m_faultAt m_read m_crowds m_traced m_here m_hand m_view m_up m_down m_ruleSize m_ruleRow m_ruleDoes m_name m_goes m_tape m_readSize m_readRow m_readDoes m_own m_crowd m_isStep m_isOfGoal m_isMet m_most m_stands m_doesHere m_from m_trace)) uX8 tyX8 tyX8_ok nmX8 0 rfl rfl 21 (by decide) rfl (by decide +kernel) rfl rfl (show 21 < 41 by decide) rfl F E J hl hdg kk
theorem mg_0_22 (F : CallFix p m c cc nL s args BIG own) (E : EV g A s) (J : VJ g A s.heap (MW g q m_thrown m_n m_robots m_viewed m_rules m_taped m_latest m_size m_at m_sort m_place m_end m_fault m_faultAt m_read m_crowds m_traced m_here m_hand m_view m_up m_down m_ruleSize m_ruleRow m_ruleDoes m_name m_goes m_tape m_readSize m_readRow m_readDoes m_own m_crowd m_isStep m_isOfGoal m_isMet m_most m_stands m_doesHere m_from m_trace) H locs) (hl : Cond.fieldLink own index RX8 "end" "I" ∈ BIG) (hdg : decode cc pc = .ok (.getfield index, 3)) (kk : W p l e R s m args below meth c H locs 0 0 Q (F0 m (pc + 3) ls (.int m_end :: rest))) : W p l e R s m args below meth c H locs 0 0 Q (F0 m pc ls (.ref (q 0) :: rest)) := cGet uX8 0 rfl rfl 22 (by decide) rfl rfl F E J hl hdg kk
theorem mp_0_22 {z : Int32} (F : CallFix p m c cc nL s args BIG own) (E : EV g A s) (J : VJ g A s.heap (MW g q m_thrown m_n m_robots m_viewed m_rules m_taped m_latest m_size m_at m_sort m_place m_end m_fault m_faultAt m_read m_crowds m_traced m_here m_hand m_view m_up m_down m_ruleSize m_ruleRow m_ruleDoes m_name m_goes m_tape m_readSize m_readRow m_readDoes m_own m_crowd m_isStep m_isOfGoal m_isMet m_most m_stands m_doesHere m_from m_trace) H locs) (hl : Cond.fieldLink own index RX8 "end" "I" ∈ BIG) (hdg : decode cc pc = .ok (.putfield index, 3)) (kk : ∀ (H1 : Heap) (locs1 : List Loc), VJ g A s.heap (MW g q m_thrown m_n m_robots m_viewed m_rules m_taped m_latest m_size m_at m_sort m_place z m_fault m_faultAt m_read m_crowds m_traced m_here m_hand m_view m_up m_down m_ruleSize m_ruleRow m_ruleDoes m_name m_goes m_tape m_readSize m_readRow m_readDoes m_own m_crowd m_isStep m_isOfGoal m_isMet m_most m_stands m_doesHere m_from m_trace) H1 locs1 → W p l e R s m args below meth c H1 locs1 0 0 Q (F0 m (pc + 3) ls rest)) : W p l e R s m args below meth c H locs 0 0 Q (F0 m pc ls (.int z :: .ref (q 0) :: rest)) := cPut (ty := .int) (ci := 7) (fs := [.int m_thrown, .int m_n, .int m_robots, .ref (q 1), .ref (q 2), .int m_viewed, .ref (q 3), .ref (q 4), .ref (q 5), .int m_rules, .ref (q 6), .ref (q 7), .ref (q 8), .ref (q 9), .ref (q 10), .ref (q 11), .int m_taped, .int m_latest, .int m_size, .int m_at, .int m_sort, .int m_place, .int m_end, .int m_fault, .int m_faultAt, .int m_read, .ref (q 12), .ref (q 13), .ref (q 14), .ref (q 15), .int m_crowds, .ref (q 16), .ref (q 17), .ref (q 18), .ref (q 19), .ref (q 20), .ref (q 21), .ref (q 22), .ref (q 23), .ref (q 24), .int m_traced]) (ws' := (MW g q m_thrown m_n m_robots m_viewed m_rules m_taped m_latest m_size m_at m_sort m_place z m_fault m_faultAt m_read m_crowds m_traced m_here m_hand m_view m_up m_down m_ruleSize m_ruleRow m_ruleDoes m_name m_goes m_tape m_readSize m_readRow m_readDoes m_own m_crowd m_isStep m_isOfGoal m_isMet m_most m_stands m_doesHere m_from m_trace)) uX8 tyX8 tyX8_ok nmX8 0 rfl rfl 22 (by decide) rfl (by decide +kernel) rfl rfl (show 22 < 41 by decide) rfl F E J hl hdg kk
theorem mg_0_23 (F : CallFix p m c cc nL s args BIG own) (E : EV g A s) (J : VJ g A s.heap (MW g q m_thrown m_n m_robots m_viewed m_rules m_taped m_latest m_size m_at m_sort m_place m_end m_fault m_faultAt m_read m_crowds m_traced m_here m_hand m_view m_up m_down m_ruleSize m_ruleRow m_ruleDoes m_name m_goes m_tape m_readSize m_readRow m_readDoes m_own m_crowd m_isStep m_isOfGoal m_isMet m_most m_stands m_doesHere m_from m_trace) H locs) (hl : Cond.fieldLink own index RX8 "fault" "I" ∈ BIG) (hdg : decode cc pc = .ok (.getfield index, 3)) (kk : W p l e R s m args below meth c H locs 0 0 Q (F0 m (pc + 3) ls (.int m_fault :: rest))) : W p l e R s m args below meth c H locs 0 0 Q (F0 m pc ls (.ref (q 0) :: rest)) := cGet uX8 0 rfl rfl 23 (by decide) rfl rfl F E J hl hdg kk
theorem mp_0_23 {z : Int32} (F : CallFix p m c cc nL s args BIG own) (E : EV g A s) (J : VJ g A s.heap (MW g q m_thrown m_n m_robots m_viewed m_rules m_taped m_latest m_size m_at m_sort m_place m_end m_fault m_faultAt m_read m_crowds m_traced m_here m_hand m_view m_up m_down m_ruleSize m_ruleRow m_ruleDoes m_name m_goes m_tape m_readSize m_readRow m_readDoes m_own m_crowd m_isStep m_isOfGoal m_isMet m_most m_stands m_doesHere m_from m_trace) H locs) (hl : Cond.fieldLink own index RX8 "fault" "I" ∈ BIG) (hdg : decode cc pc = .ok (.putfield index, 3)) (kk : ∀ (H1 : Heap) (locs1 : List Loc), VJ g A s.heap (MW g q m_thrown m_n m_robots m_viewed m_rules m_taped m_latest m_size m_at m_sort m_place m_end z m_faultAt m_read m_crowds m_traced m_here m_hand m_view m_up m_down m_ruleSize m_ruleRow m_ruleDoes m_name m_goes m_tape m_readSize m_readRow m_readDoes m_own m_crowd m_isStep m_isOfGoal m_isMet m_most m_stands m_doesHere m_from m_trace) H1 locs1 → W p l e R s m args below meth c H1 locs1 0 0 Q (F0 m (pc + 3) ls rest)) : W p l e R s m args below meth c H locs 0 0 Q (F0 m pc ls (.int z :: .ref (q 0) :: rest)) := cPut (ty := .int) (ci := 7) (fs := [.int m_thrown, .int m_n, .int m_robots, .ref (q 1), .ref (q 2), .int m_viewed, .ref (q 3), .ref (q 4), .ref (q 5), .int m_rules, .ref (q 6), .ref (q 7), .ref (q 8), .ref (q 9), .ref (q 10), .ref (q 11), .int m_taped, .int m_latest, .int m_size, .int m_at, .int m_sort, .int m_place, .int m_end, .int m_fault, .int m_faultAt, .int m_read, .ref (q 12), .ref (q 13), .ref (q 14), .ref (q 15), .int m_crowds, .ref (q 16), .ref (q 17), .ref (q 18), .ref (q 19), .ref (q 20), .ref (q 21), .ref (q 22), .ref (q 23), .ref (q 24), .int m_traced]) (ws' := (MW g q m_thrown m_n m_robots m_viewed m_rules m_taped m_latest m_size m_at m_sort m_place m_end z m_faultAt m_read m_crowds m_traced m_here m_hand m_view m_up m_down m_ruleSize m_ruleRow m_ruleDoes m_name m_goes m_tape m_readSize m_readRow m_readDoes m_own m_crowd m_isStep m_isOfGoal m_isMet m_most m_stands m_doesHere m_from m_trace)) uX8 tyX8 tyX8_ok nmX8 0 rfl rfl 23 (by decide) rfl (by decide +kernel) rfl rfl (show 23 < 41 by decide) rfl F E J hl hdg kk
theorem mg_0_24 (F : CallFix p m c cc nL s args BIG own) (E : EV g A s) (J : VJ g A s.heap (MW g q m_thrown m_n m_robots m_viewed m_rules m_taped m_latest m_size m_at m_sort m_place m_end m_fault m_faultAt m_read m_crowds m_traced m_here m_hand m_view m_up m_down m_ruleSize m_ruleRow m_ruleDoes m_name m_goes m_tape m_readSize m_readRow m_readDoes m_own m_crowd m_isStep m_isOfGoal m_isMet m_most m_stands m_doesHere m_from m_trace) H locs) (hl : Cond.fieldLink own index RX8 "faultAt" "I" ∈ BIG) (hdg : decode cc pc = .ok (.getfield index, 3)) (kk : W p l e R s m args below meth c H locs 0 0 Q (F0 m (pc + 3) ls (.int m_faultAt :: rest))) : W p l e R s m args below meth c H locs 0 0 Q (F0 m pc ls (.ref (q 0) :: rest)) := cGet uX8 0 rfl rfl 24 (by decide) rfl rfl F E J hl hdg kk
theorem mp_0_24 {z : Int32} (F : CallFix p m c cc nL s args BIG own) (E : EV g A s) (J : VJ g A s.heap (MW g q m_thrown m_n m_robots m_viewed m_rules m_taped m_latest m_size m_at m_sort m_place m_end m_fault m_faultAt m_read m_crowds m_traced m_here m_hand m_view m_up m_down m_ruleSize m_ruleRow m_ruleDoes m_name m_goes m_tape m_readSize m_readRow m_readDoes m_own m_crowd m_isStep m_isOfGoal m_isMet m_most m_stands m_doesHere m_from m_trace) H locs) (hl : Cond.fieldLink own index RX8 "faultAt" "I" ∈ BIG) (hdg : decode cc pc = .ok (.putfield index, 3)) (kk : ∀ (H1 : Heap) (locs1 : List Loc), VJ g A s.heap (MW g q m_thrown m_n m_robots m_viewed m_rules m_taped m_latest m_size m_at m_sort m_place m_end m_fault z m_read m_crowds m_traced m_here m_hand m_view m_up m_down m_ruleSize m_ruleRow m_ruleDoes m_name m_goes m_tape m_readSize m_readRow m_readDoes m_own m_crowd m_isStep m_isOfGoal m_isMet m_most m_stands m_doesHere m_from m_trace) H1 locs1 → W p l e R s m args below meth c H1 locs1 0 0 Q (F0 m (pc + 3) ls rest)) : W p l e R s m args below meth c H locs 0 0 Q (F0 m pc ls (.int z :: .ref (q 0) :: rest)) := cPut (ty := .int) (ci := 7) (fs := [.int m_thrown, .int m_n, .int m_robots, .ref (q 1), .ref (q 2), .int m_viewed, .ref (q 3), .ref (q 4), .ref (q 5), .int m_rules, .ref (q 6), .ref (q 7), .ref (q 8), .ref (q 9), .ref (q 10), .ref (q 11), .int m_taped, .int m_latest, .int m_size, .int m_at, .int m_sort, .int m_place, .int m_end, .int m_fault, .int m_faultAt, .int m_read, .ref (q 12), .ref (q 13), .ref (q 14), .ref (q 15), .int m_crowds, .ref (q 16), .ref (q 17), .ref (q 18), .ref (q 19), .ref (q 20), .ref (q 21), .ref (q 22), .ref (q 23), .ref (q 24), .int m_traced]) (ws' := (MW g q m_thrown m_n m_robots m_viewed m_rules m_taped m_latest m_size m_at m_sort m_place m_end m_fault z m_read m_crowds m_traced m_here m_hand m_view m_up m_down m_ruleSize m_ruleRow m_ruleDoes m_name m_goes m_tape m_readSize m_readRow m_readDoes m_own m_crowd m_isStep m_isOfGoal m_isMet m_most m_stands m_doesHere m_from m_trace)) uX8 tyX8 tyX8_ok nmX8 0 rfl rfl 24 (by decide) rfl (by decide +kernel) rfl rfl (show 24 < 41 by decide) rfl F E J hl hdg kk
theorem mg_0_25 (F : CallFix p m c cc nL s args BIG own) (E : EV g A s) (J : VJ g A s.heap (MW g q m_thrown m_n m_robots m_viewed m_rules m_taped m_latest m_size m_at m_sort m_place m_end m_fault m_faultAt m_read m_crowds m_traced m_here m_hand m_view m_up m_down m_ruleSize m_ruleRow m_ruleDoes m_name m_goes m_tape m_readSize m_readRow m_readDoes m_own m_crowd m_isStep m_isOfGoal m_isMet m_most m_stands m_doesHere m_from m_trace) H locs) (hl : Cond.fieldLink own index RX8 "read" "I" ∈ BIG) (hdg : decode cc pc = .ok (.getfield index, 3)) (kk : W p l e R s m args below meth c H locs 0 0 Q (F0 m (pc + 3) ls (.int m_read :: rest))) : W p l e R s m args below meth c H locs 0 0 Q (F0 m pc ls (.ref (q 0) :: rest)) := cGet uX8 0 rfl rfl 25 (by decide) rfl rfl F E J hl hdg kk
theorem mp_0_25 {z : Int32} (F : CallFix p m c cc nL s args BIG own) (E : EV g A s) (J : VJ g A s.heap (MW g q m_thrown m_n m_robots m_viewed m_rules m_taped m_latest m_size m_at m_sort m_place m_end m_fault m_faultAt m_read m_crowds m_traced m_here m_hand m_view m_up m_down m_ruleSize m_ruleRow m_ruleDoes m_name m_goes m_tape m_readSize m_readRow m_readDoes m_own m_crowd m_isStep m_isOfGoal m_isMet m_most m_stands m_doesHere m_from m_trace) H locs) (hl : Cond.fieldLink own index RX8 "read" "I" ∈ BIG) (hdg : decode cc pc = .ok (.putfield index, 3)) (kk : ∀ (H1 : Heap) (locs1 : List Loc), VJ g A s.heap (MW g q m_thrown m_n m_robots m_viewed m_rules m_taped m_latest m_size m_at m_sort m_place m_end m_fault m_faultAt z m_crowds m_traced m_here m_hand m_view m_up m_down m_ruleSize m_ruleRow m_ruleDoes m_name m_goes m_tape m_readSize m_readRow m_readDoes m_own m_crowd m_isStep m_isOfGoal m_isMet m_most m_stands m_doesHere m_from m_trace) H1 locs1 → W p l e R s m args below meth c H1 locs1 0 0 Q (F0 m (pc + 3) ls rest)) : W p l e R s m args below meth c H locs 0 0 Q (F0 m pc ls (.int z :: .ref (q 0) :: rest)) := cPut (ty := .int) (ci := 7) (fs := [.int m_thrown, .int m_n, .int m_robots, .ref (q 1), .ref (q 2), .int m_viewed, .ref (q 3), .ref (q 4), .ref (q 5), .int m_rules, .ref (q 6), .ref (q 7), .ref (q 8), .ref (q 9), .ref (q 10), .ref (q 11), .int m_taped, .int m_latest, .int m_size, .int m_at, .int m_sort, .int m_place, .int m_end, .int m_fault, .int m_faultAt, .int m_read, .ref (q 12), .ref (q 13), .ref (q 14), .ref (q 15), .int m_crowds, .ref (q 16), .ref (q 17), .ref (q 18), .ref (q 19), .ref (q 20), .ref (q 21), .ref (q 22), .ref (q 23), .ref (q 24), .int m_traced]) (ws' := (MW g q m_thrown m_n m_robots m_viewed m_rules m_taped m_latest m_size m_at m_sort m_place m_end m_fault m_faultAt z m_crowds m_traced m_here m_hand m_view m_up m_down m_ruleSize m_ruleRow m_ruleDoes m_name m_goes m_tape m_readSize m_readRow m_readDoes m_own m_crowd m_isStep m_isOfGoal m_isMet m_most m_stands m_doesHere m_from m_trace)) uX8 tyX8 tyX8_ok nmX8 0 rfl rfl 25 (by decide) rfl (by decide +kernel) rfl rfl (show 25 < 41 by decide) rfl F E J hl hdg kk
theorem mg_0_26 (F : CallFix p m c cc nL s args BIG own) (E : EV g A s) (J : VJ g A s.heap (MW g q m_thrown m_n m_robots m_viewed m_rules m_taped m_latest m_size m_at m_sort m_place m_end m_fault m_faultAt m_read m_crowds m_traced m_here m_hand m_view m_up m_down m_ruleSize m_ruleRow m_ruleDoes m_name m_goes m_tape m_readSize m_readRow m_readDoes m_own m_crowd m_isStep m_isOfGoal m_isMet m_most m_stands m_doesHere m_from m_trace) H locs) (hl : Cond.fieldLink own index RX8 "readSize" "[I" ∈ BIG) (hdg : decode cc pc = .ok (.getfield index, 3)) (kk : W p l e R s m args below meth c H locs 0 0 Q (F0 m (pc + 3) ls (.ref (q 12) :: rest))) : W p l e R s m args below meth c H locs 0 0 Q (F0 m pc ls (.ref (q 0) :: rest)) := cGet uX8 0 rfl rfl 26 (by decide) rfl rfl F E J hl hdg kk
theorem mg_0_27 (F : CallFix p m c cc nL s args BIG own) (E : EV g A s) (J : VJ g A s.heap (MW g q m_thrown m_n m_robots m_viewed m_rules m_taped m_latest m_size m_at m_sort m_place m_end m_fault m_faultAt m_read m_crowds m_traced m_here m_hand m_view m_up m_down m_ruleSize m_ruleRow m_ruleDoes m_name m_goes m_tape m_readSize m_readRow m_readDoes m_own m_crowd m_isStep m_isOfGoal m_isMet m_most m_stands m_doesHere m_from m_trace) H locs) (hl : Cond.fieldLink own index RX8 "readRow" "[I" ∈ BIG) (hdg : decode cc pc = .ok (.getfield index, 3)) (kk : W p l e R s m args below meth c H locs 0 0 Q (F0 m (pc + 3) ls (.ref (q 13) :: rest))) : W p l e R s m args below meth c H locs 0 0 Q (F0 m pc ls (.ref (q 0) :: rest)) := cGet uX8 0 rfl rfl 27 (by decide) rfl rfl F E J hl hdg kk
theorem mg_0_28 (F : CallFix p m c cc nL s args BIG own) (E : EV g A s) (J : VJ g A s.heap (MW g q m_thrown m_n m_robots m_viewed m_rules m_taped m_latest m_size m_at m_sort m_place m_end m_fault m_faultAt m_read m_crowds m_traced m_here m_hand m_view m_up m_down m_ruleSize m_ruleRow m_ruleDoes m_name m_goes m_tape m_readSize m_readRow m_readDoes m_own m_crowd m_isStep m_isOfGoal m_isMet m_most m_stands m_doesHere m_from m_trace) H locs) (hl : Cond.fieldLink own index RX8 "readDoes" "[I" ∈ BIG) (hdg : decode cc pc = .ok (.getfield index, 3)) (kk : W p l e R s m args below meth c H locs 0 0 Q (F0 m (pc + 3) ls (.ref (q 14) :: rest))) : W p l e R s m args below meth c H locs 0 0 Q (F0 m pc ls (.ref (q 0) :: rest)) := cGet uX8 0 rfl rfl 28 (by decide) rfl rfl F E J hl hdg kk
theorem mg_0_29 (F : CallFix p m c cc nL s args BIG own) (E : EV g A s) (J : VJ g A s.heap (MW g q m_thrown m_n m_robots m_viewed m_rules m_taped m_latest m_size m_at m_sort m_place m_end m_fault m_faultAt m_read m_crowds m_traced m_here m_hand m_view m_up m_down m_ruleSize m_ruleRow m_ruleDoes m_name m_goes m_tape m_readSize m_readRow m_readDoes m_own m_crowd m_isStep m_isOfGoal m_isMet m_most m_stands m_doesHere m_from m_trace) H locs) (hl : Cond.fieldLink own index RX8 "own" "[I" ∈ BIG) (hdg : decode cc pc = .ok (.getfield index, 3)) (kk : W p l e R s m args below meth c H locs 0 0 Q (F0 m (pc + 3) ls (.ref (q 15) :: rest))) : W p l e R s m args below meth c H locs 0 0 Q (F0 m pc ls (.ref (q 0) :: rest)) := cGet uX8 0 rfl rfl 29 (by decide) rfl rfl F E J hl hdg kk
theorem mg_0_30 (F : CallFix p m c cc nL s args BIG own) (E : EV g A s) (J : VJ g A s.heap (MW g q m_thrown m_n m_robots m_viewed m_rules m_taped m_latest m_size m_at m_sort m_place m_end m_fault m_faultAt m_read m_crowds m_traced m_here m_hand m_view m_up m_down m_ruleSize m_ruleRow m_ruleDoes m_name m_goes m_tape m_readSize m_readRow m_readDoes m_own m_crowd m_isStep m_isOfGoal m_isMet m_most m_stands m_doesHere m_from m_trace) H locs) (hl : Cond.fieldLink own index RX8 "crowds" "I" ∈ BIG) (hdg : decode cc pc = .ok (.getfield index, 3)) (kk : W p l e R s m args below meth c H locs 0 0 Q (F0 m (pc + 3) ls (.int m_crowds :: rest))) : W p l e R s m args below meth c H locs 0 0 Q (F0 m pc ls (.ref (q 0) :: rest)) := cGet uX8 0 rfl rfl 30 (by decide) rfl rfl F E J hl hdg kk
theorem mp_0_30 {z : Int32} (F : CallFix p m c cc nL s args BIG own) (E : EV g A s) (J : VJ g A s.heap (MW g q m_thrown m_n m_robots m_viewed m_rules m_taped m_latest m_size m_at m_sort m_place m_end m_fault m_faultAt m_read m_crowds m_traced m_here m_hand m_view m_up m_down m_ruleSize m_ruleRow m_ruleDoes m_name m_goes m_tape m_readSize m_readRow m_readDoes m_own m_crowd m_isStep m_isOfGoal m_isMet m_most m_stands m_doesHere m_from m_trace) H locs) (hl : Cond.fieldLink own index RX8 "crowds" "I" ∈ BIG) (hdg : decode cc pc = .ok (.putfield index, 3)) (kk : ∀ (H1 : Heap) (locs1 : List Loc), VJ g A s.heap (MW g q m_thrown m_n m_robots m_viewed m_rules m_taped m_latest m_size m_at m_sort m_place m_end m_fault m_faultAt m_read z m_traced m_here m_hand m_view m_up m_down m_ruleSize m_ruleRow m_ruleDoes m_name m_goes m_tape m_readSize m_readRow m_readDoes m_own m_crowd m_isStep m_isOfGoal m_isMet m_most m_stands m_doesHere m_from m_trace) H1 locs1 → W p l e R s m args below meth c H1 locs1 0 0 Q (F0 m (pc + 3) ls rest)) : W p l e R s m args below meth c H locs 0 0 Q (F0 m pc ls (.int z :: .ref (q 0) :: rest)) := cPut (ty := .int) (ci := 7) (fs := [.int m_thrown, .int m_n, .int m_robots, .ref (q 1), .ref (q 2), .int m_viewed, .ref (q 3), .ref (q 4), .ref (q 5), .int m_rules, .ref (q 6), .ref (q 7), .ref (q 8), .ref (q 9), .ref (q 10), .ref (q 11), .int m_taped, .int m_latest, .int m_size, .int m_at, .int m_sort, .int m_place, .int m_end, .int m_fault, .int m_faultAt, .int m_read, .ref (q 12), .ref (q 13), .ref (q 14), .ref (q 15), .int m_crowds, .ref (q 16), .ref (q 17), .ref (q 18), .ref (q 19), .ref (q 20), .ref (q 21), .ref (q 22), .ref (q 23), .ref (q 24), .int m_traced]) (ws' := (MW g q m_thrown m_n m_robots m_viewed m_rules m_taped m_latest m_size m_at m_sort m_place m_end m_fault m_faultAt m_read z m_traced m_here m_hand m_view m_up m_down m_ruleSize m_ruleRow m_ruleDoes m_name m_goes m_tape m_readSize m_readRow m_readDoes m_own m_crowd m_isStep m_isOfGoal m_isMet m_most m_stands m_doesHere m_from m_trace)) uX8 tyX8 tyX8_ok nmX8 0 rfl rfl 30 (by decide) rfl (by decide +kernel) rfl rfl (show 30 < 41 by decide) rfl F E J hl hdg kk
theorem mg_0_31 (F : CallFix p m c cc nL s args BIG own) (E : EV g A s) (J : VJ g A s.heap (MW g q m_thrown m_n m_robots m_viewed m_rules m_taped m_latest m_size m_at m_sort m_place m_end m_fault m_faultAt m_read m_crowds m_traced m_here m_hand m_view m_up m_down m_ruleSize m_ruleRow m_ruleDoes m_name m_goes m_tape m_readSize m_readRow m_readDoes m_own m_crowd m_isStep m_isOfGoal m_isMet m_most m_stands m_doesHere m_from m_trace) H locs) (hl : Cond.fieldLink own index RX8 "crowd" "[I" ∈ BIG) (hdg : decode cc pc = .ok (.getfield index, 3)) (kk : W p l e R s m args below meth c H locs 0 0 Q (F0 m (pc + 3) ls (.ref (q 16) :: rest))) : W p l e R s m args below meth c H locs 0 0 Q (F0 m pc ls (.ref (q 0) :: rest)) := cGet uX8 0 rfl rfl 31 (by decide) rfl rfl F E J hl hdg kk
theorem mg_0_32 (F : CallFix p m c cc nL s args BIG own) (E : EV g A s) (J : VJ g A s.heap (MW g q m_thrown m_n m_robots m_viewed m_rules m_taped m_latest m_size m_at m_sort m_place m_end m_fault m_faultAt m_read m_crowds m_traced m_here m_hand m_view m_up m_down m_ruleSize m_ruleRow m_ruleDoes m_name m_goes m_tape m_readSize m_readRow m_readDoes m_own m_crowd m_isStep m_isOfGoal m_isMet m_most m_stands m_doesHere m_from m_trace) H locs) (hl : Cond.fieldLink own index RX8 "isStep" "[Z" ∈ BIG) (hdg : decode cc pc = .ok (.getfield index, 3)) (kk : W p l e R s m args below meth c H locs 0 0 Q (F0 m (pc + 3) ls (.ref (q 17) :: rest))) : W p l e R s m args below meth c H locs 0 0 Q (F0 m pc ls (.ref (q 0) :: rest)) := cGet uX8 0 rfl rfl 32 (by decide) rfl rfl F E J hl hdg kk
theorem mg_0_33 (F : CallFix p m c cc nL s args BIG own) (E : EV g A s) (J : VJ g A s.heap (MW g q m_thrown m_n m_robots m_viewed m_rules m_taped m_latest m_size m_at m_sort m_place m_end m_fault m_faultAt m_read m_crowds m_traced m_here m_hand m_view m_up m_down m_ruleSize m_ruleRow m_ruleDoes m_name m_goes m_tape m_readSize m_readRow m_readDoes m_own m_crowd m_isStep m_isOfGoal m_isMet m_most m_stands m_doesHere m_from m_trace) H locs) (hl : Cond.fieldLink own index RX8 "isOfGoal" "[Z" ∈ BIG) (hdg : decode cc pc = .ok (.getfield index, 3)) (kk : W p l e R s m args below meth c H locs 0 0 Q (F0 m (pc + 3) ls (.ref (q 18) :: rest))) : W p l e R s m args below meth c H locs 0 0 Q (F0 m pc ls (.ref (q 0) :: rest)) := cGet uX8 0 rfl rfl 33 (by decide) rfl rfl F E J hl hdg kk
theorem mg_0_34 (F : CallFix p m c cc nL s args BIG own) (E : EV g A s) (J : VJ g A s.heap (MW g q m_thrown m_n m_robots m_viewed m_rules m_taped m_latest m_size m_at m_sort m_place m_end m_fault m_faultAt m_read m_crowds m_traced m_here m_hand m_view m_up m_down m_ruleSize m_ruleRow m_ruleDoes m_name m_goes m_tape m_readSize m_readRow m_readDoes m_own m_crowd m_isStep m_isOfGoal m_isMet m_most m_stands m_doesHere m_from m_trace) H locs) (hl : Cond.fieldLink own index RX8 "isMet" "[Z" ∈ BIG) (hdg : decode cc pc = .ok (.getfield index, 3)) (kk : W p l e R s m args below meth c H locs 0 0 Q (F0 m (pc + 3) ls (.ref (q 19) :: rest))) : W p l e R s m args below meth c H locs 0 0 Q (F0 m pc ls (.ref (q 0) :: rest)) := cGet uX8 0 rfl rfl 34 (by decide) rfl rfl F E J hl hdg kk
theorem mg_0_35 (F : CallFix p m c cc nL s args BIG own) (E : EV g A s) (J : VJ g A s.heap (MW g q m_thrown m_n m_robots m_viewed m_rules m_taped m_latest m_size m_at m_sort m_place m_end m_fault m_faultAt m_read m_crowds m_traced m_here m_hand m_view m_up m_down m_ruleSize m_ruleRow m_ruleDoes m_name m_goes m_tape m_readSize m_readRow m_readDoes m_own m_crowd m_isStep m_isOfGoal m_isMet m_most m_stands m_doesHere m_from m_trace) H locs) (hl : Cond.fieldLink own index RX8 "most" "[I" ∈ BIG) (hdg : decode cc pc = .ok (.getfield index, 3)) (kk : W p l e R s m args below meth c H locs 0 0 Q (F0 m (pc + 3) ls (.ref (q 20) :: rest))) : W p l e R s m args below meth c H locs 0 0 Q (F0 m pc ls (.ref (q 0) :: rest)) := cGet uX8 0 rfl rfl 35 (by decide) rfl rfl F E J hl hdg kk
theorem mg_0_36 (F : CallFix p m c cc nL s args BIG own) (E : EV g A s) (J : VJ g A s.heap (MW g q m_thrown m_n m_robots m_viewed m_rules m_taped m_latest m_size m_at m_sort m_place m_end m_fault m_faultAt m_read m_crowds m_traced m_here m_hand m_view m_up m_down m_ruleSize m_ruleRow m_ruleDoes m_name m_goes m_tape m_readSize m_readRow m_readDoes m_own m_crowd m_isStep m_isOfGoal m_isMet m_most m_stands m_doesHere m_from m_trace) H locs) (hl : Cond.fieldLink own index RX8 "stands" "[I" ∈ BIG) (hdg : decode cc pc = .ok (.getfield index, 3)) (kk : W p l e R s m args below meth c H locs 0 0 Q (F0 m (pc + 3) ls (.ref (q 21) :: rest))) : W p l e R s m args below meth c H locs 0 0 Q (F0 m pc ls (.ref (q 0) :: rest)) := cGet uX8 0 rfl rfl 36 (by decide) rfl rfl F E J hl hdg kk
theorem mg_0_37 (F : CallFix p m c cc nL s args BIG own) (E : EV g A s) (J : VJ g A s.heap (MW g q m_thrown m_n m_robots m_viewed m_rules m_taped m_latest m_size m_at m_sort m_place m_end m_fault m_faultAt m_read m_crowds m_traced m_here m_hand m_view m_up m_down m_ruleSize m_ruleRow m_ruleDoes m_name m_goes m_tape m_readSize m_readRow m_readDoes m_own m_crowd m_isStep m_isOfGoal m_isMet m_most m_stands m_doesHere m_from m_trace) H locs) (hl : Cond.fieldLink own index RX8 "doesHere" "[I" ∈ BIG) (hdg : decode cc pc = .ok (.getfield index, 3)) (kk : W p l e R s m args below meth c H locs 0 0 Q (F0 m (pc + 3) ls (.ref (q 22) :: rest))) : W p l e R s m args below meth c H locs 0 0 Q (F0 m pc ls (.ref (q 0) :: rest)) := cGet uX8 0 rfl rfl 37 (by decide) rfl rfl F E J hl hdg kk
theorem mg_0_38 (F : CallFix p m c cc nL s args BIG own) (E : EV g A s) (J : VJ g A s.heap (MW g q m_thrown m_n m_robots m_viewed m_rules m_taped m_latest m_size m_at m_sort m_place m_end m_fault m_faultAt m_read m_crowds m_traced m_here m_hand m_view m_up m_down m_ruleSize m_ruleRow m_ruleDoes m_name m_goes m_tape m_readSize m_readRow m_readDoes m_own m_crowd m_isStep m_isOfGoal m_isMet m_most m_stands m_doesHere m_from m_trace) H locs) (hl : Cond.fieldLink own index RX8 "from" "[I" ∈ BIG) (hdg : decode cc pc = .ok (.getfield index, 3)) (kk : W p l e R s m args below meth c H locs 0 0 Q (F0 m (pc + 3) ls (.ref (q 23) :: rest))) : W p l e R s m args below meth c H locs 0 0 Q (F0 m pc ls (.ref (q 0) :: rest)) := cGet uX8 0 rfl rfl 38 (by decide) rfl rfl F E J hl hdg kk
theorem mg_0_39 (F : CallFix p m c cc nL s args BIG own) (E : EV g A s) (J : VJ g A s.heap (MW g q m_thrown m_n m_robots m_viewed m_rules m_taped m_latest m_size m_at m_sort m_place m_end m_fault m_faultAt m_read m_crowds m_traced m_here m_hand m_view m_up m_down m_ruleSize m_ruleRow m_ruleDoes m_name m_goes m_tape m_readSize m_readRow m_readDoes m_own m_crowd m_isStep m_isOfGoal m_isMet m_most m_stands m_doesHere m_from m_trace) H locs) (hl : Cond.fieldLink own index RX8 "trace" "[I" ∈ BIG) (hdg : decode cc pc = .ok (.getfield index, 3)) (kk : W p l e R s m args below meth c H locs 0 0 Q (F0 m (pc + 3) ls (.ref (q 24) :: rest))) : W p l e R s m args below meth c H locs 0 0 Q (F0 m pc ls (.ref (q 0) :: rest)) := cGet uX8 0 rfl rfl 39 (by decide) rfl rfl F E J hl hdg kk
theorem mg_0_40 (F : CallFix p m c cc nL s args BIG own) (E : EV g A s) (J : VJ g A s.heap (MW g q m_thrown m_n m_robots m_viewed m_rules m_taped m_latest m_size m_at m_sort m_place m_end m_fault m_faultAt m_read m_crowds m_traced m_here m_hand m_view m_up m_down m_ruleSize m_ruleRow m_ruleDoes m_name m_goes m_tape m_readSize m_readRow m_readDoes m_own m_crowd m_isStep m_isOfGoal m_isMet m_most m_stands m_doesHere m_from m_trace) H locs) (hl : Cond.fieldLink own index RX8 "traced" "I" ∈ BIG) (hdg : decode cc pc = .ok (.getfield index, 3)) (kk : W p l e R s m args below meth c H locs 0 0 Q (F0 m (pc + 3) ls (.int m_traced :: rest))) : W p l e R s m args below meth c H locs 0 0 Q (F0 m pc ls (.ref (q 0) :: rest)) := cGet uX8 0 rfl rfl 40 (by decide) rfl rfl F E J hl hdg kk
theorem mp_0_40 {z : Int32} (F : CallFix p m c cc nL s args BIG own) (E : EV g A s) (J : VJ g A s.heap (MW g q m_thrown m_n m_robots m_viewed m_rules m_taped m_latest m_size m_at m_sort m_place m_end m_fault m_faultAt m_read m_crowds m_traced m_here m_hand m_view m_up m_down m_ruleSize m_ruleRow m_ruleDoes m_name m_goes m_tape m_readSize m_readRow m_readDoes m_own m_crowd m_isStep m_isOfGoal m_isMet m_most m_stands m_doesHere m_from m_trace) H locs) (hl : Cond.fieldLink own index RX8 "traced" "I" ∈ BIG) (hdg : decode cc pc = .ok (.putfield index, 3)) (kk : ∀ (H1 : Heap) (locs1 : List Loc), VJ g A s.heap (MW g q m_thrown m_n m_robots m_viewed m_rules m_taped m_latest m_size m_at m_sort m_place m_end m_fault m_faultAt m_read m_crowds z m_here m_hand m_view m_up m_down m_ruleSize m_ruleRow m_ruleDoes m_name m_goes m_tape m_readSize m_readRow m_readDoes m_own m_crowd m_isStep m_isOfGoal m_isMet m_most m_stands m_doesHere m_from m_trace) H1 locs1 → W p l e R s m args below meth c H1 locs1 0 0 Q (F0 m (pc + 3) ls rest)) : W p l e R s m args below meth c H locs 0 0 Q (F0 m pc ls (.int z :: .ref (q 0) :: rest)) := cPut (ty := .int) (ci := 7) (fs := [.int m_thrown, .int m_n, .int m_robots, .ref (q 1), .ref (q 2), .int m_viewed, .ref (q 3), .ref (q 4), .ref (q 5), .int m_rules, .ref (q 6), .ref (q 7), .ref (q 8), .ref (q 9), .ref (q 10), .ref (q 11), .int m_taped, .int m_latest, .int m_size, .int m_at, .int m_sort, .int m_place, .int m_end, .int m_fault, .int m_faultAt, .int m_read, .ref (q 12), .ref (q 13), .ref (q 14), .ref (q 15), .int m_crowds, .ref (q 16), .ref (q 17), .ref (q 18), .ref (q 19), .ref (q 20), .ref (q 21), .ref (q 22), .ref (q 23), .ref (q 24), .int m_traced]) (ws' := (MW g q m_thrown m_n m_robots m_viewed m_rules m_taped m_latest m_size m_at m_sort m_place m_end m_fault m_faultAt m_read m_crowds z m_here m_hand m_view m_up m_down m_ruleSize m_ruleRow m_ruleDoes m_name m_goes m_tape m_readSize m_readRow m_readDoes m_own m_crowd m_isStep m_isOfGoal m_isMet m_most m_stands m_doesHere m_from m_trace)) uX8 tyX8 tyX8_ok nmX8 0 rfl rfl 40 (by decide) rfl (by decide +kernel) rfl rfl (show 40 < 41 by decide) rfl F E J hl hdg kk
theorem ml_1 (F : CallFix p m c cc nL s args BIG own) (E : EV g A s) (J : VJ g A s.heap (MW g q m_thrown m_n m_robots m_viewed m_rules m_taped m_latest m_size m_at m_sort m_place m_end m_fault m_faultAt m_read m_crowds m_traced m_here m_hand m_view m_up m_down m_ruleSize m_ruleRow m_ruleDoes m_name m_goes m_tape m_readSize m_readRow m_readDoes m_own m_crowd m_isStep m_isOfGoal m_isMet m_most m_stands m_doesHere m_from m_trace) H locs) {i : Int32} (hin : vp_in i 9) (hdg : decode cc pc = .ok (.iaload, 1)) (kk : W p l e R s m args below meth c H locs 0 0 Q (F0 m (pc + 1) ls (.int (m_here i.toNatClampNeg) :: rest))) : W p l e R s m args below meth c H locs 0 0 Q (F0 m pc ls (.int i :: .ref (q 1) :: rest)) := va_iald F.1 F.2.1 E.1 J.1 1 0 rfl rfl hin hdg kk
theorem ms_1 {z : Int32} (F : CallFix p m c cc nL s args BIG own) (E : EV g A s) (J : VJ g A s.heap (MW g q m_thrown m_n m_robots m_viewed m_rules m_taped m_latest m_size m_at m_sort m_place m_end m_fault m_faultAt m_read m_crowds m_traced m_here m_hand m_view m_up m_down m_ruleSize m_ruleRow m_ruleDoes m_name m_goes m_tape m_readSize m_readRow m_readDoes m_own m_crowd m_isStep m_isOfGoal m_isMet m_most m_stands m_doesHere m_from m_trace) H locs) {i : Int32} (hin : vp_in i 9) (hdg : decode cc pc = .ok (.iastore, 1)) (kk : ∀ (H1 : Heap) (locs1 : List Loc), VJ g A s.heap (MW g q m_thrown m_n m_robots m_viewed m_rules m_taped m_latest m_size m_at m_sort m_place m_end m_fault m_faultAt m_read m_crowds m_traced (upd m_here i.toNatClampNeg z) m_hand m_view m_up m_down m_ruleSize m_ruleRow m_ruleDoes m_name m_goes m_tape m_readSize m_readRow m_readDoes m_own m_crowd m_isStep m_isOfGoal m_isMet m_most m_stands m_doesHere m_from m_trace) H1 locs1 → W p l e R s m args below meth c H1 locs1 0 0 Q (F0 m (pc + 1) ls rest)) : W p l e R s m args below meth c H locs 0 0 Q (F0 m pc ls (.int z :: .int i :: .ref (q 1) :: rest)) := va_iast F.1 F.2.1 E.1 J.1 J.2.1 J.2.2 1 0 rfl rfl hin hdg (fun H1 locs1 h1 h2 h3 => kk H1 locs1 ⟨h1, h2, h3⟩)
theorem ml_2 (F : CallFix p m c cc nL s args BIG own) (E : EV g A s) (J : VJ g A s.heap (MW g q m_thrown m_n m_robots m_viewed m_rules m_taped m_latest m_size m_at m_sort m_place m_end m_fault m_faultAt m_read m_crowds m_traced m_here m_hand m_view m_up m_down m_ruleSize m_ruleRow m_ruleDoes m_name m_goes m_tape m_readSize m_readRow m_readDoes m_own m_crowd m_isStep m_isOfGoal m_isMet m_most m_stands m_doesHere m_from m_trace) H locs) {i : Int32} (hin : vp_in i 9) (hdg : decode cc pc = .ok (.iaload, 1)) (kk : W p l e R s m args below meth c H locs 0 0 Q (F0 m (pc + 1) ls (.int (m_hand i.toNatClampNeg) :: rest))) : W p l e R s m args below meth c H locs 0 0 Q (F0 m pc ls (.int i :: .ref (q 2) :: rest)) := va_iald F.1 F.2.1 E.1 J.1 2 0 rfl rfl hin hdg kk
theorem ms_2 {z : Int32} (F : CallFix p m c cc nL s args BIG own) (E : EV g A s) (J : VJ g A s.heap (MW g q m_thrown m_n m_robots m_viewed m_rules m_taped m_latest m_size m_at m_sort m_place m_end m_fault m_faultAt m_read m_crowds m_traced m_here m_hand m_view m_up m_down m_ruleSize m_ruleRow m_ruleDoes m_name m_goes m_tape m_readSize m_readRow m_readDoes m_own m_crowd m_isStep m_isOfGoal m_isMet m_most m_stands m_doesHere m_from m_trace) H locs) {i : Int32} (hin : vp_in i 9) (hdg : decode cc pc = .ok (.iastore, 1)) (kk : ∀ (H1 : Heap) (locs1 : List Loc), VJ g A s.heap (MW g q m_thrown m_n m_robots m_viewed m_rules m_taped m_latest m_size m_at m_sort m_place m_end m_fault m_faultAt m_read m_crowds m_traced m_here (upd m_hand i.toNatClampNeg z) m_view m_up m_down m_ruleSize m_ruleRow m_ruleDoes m_name m_goes m_tape m_readSize m_readRow m_readDoes m_own m_crowd m_isStep m_isOfGoal m_isMet m_most m_stands m_doesHere m_from m_trace) H1 locs1 → W p l e R s m args below meth c H1 locs1 0 0 Q (F0 m (pc + 1) ls rest)) : W p l e R s m args below meth c H locs 0 0 Q (F0 m pc ls (.int z :: .int i :: .ref (q 2) :: rest)) := va_iast F.1 F.2.1 E.1 J.1 J.2.1 J.2.2 2 0 rfl rfl hin hdg (fun H1 locs1 h1 h2 h3 => kk H1 locs1 ⟨h1, h2, h3⟩)
theorem ml_3 (F : CallFix p m c cc nL s args BIG own) (E : EV g A s) (J : VJ g A s.heap (MW g q m_thrown m_n m_robots m_viewed m_rules m_taped m_latest m_size m_at m_sort m_place m_end m_fault m_faultAt m_read m_crowds m_traced m_here m_hand m_view m_up m_down m_ruleSize m_ruleRow m_ruleDoes m_name m_goes m_tape m_readSize m_readRow m_readDoes m_own m_crowd m_isStep m_isOfGoal m_isMet m_most m_stands m_doesHere m_from m_trace) H locs) {i : Int32} (hin : vp_in i 8) (hdg : decode cc pc = .ok (.iaload, 1)) (kk : W p l e R s m args below meth c H locs 0 0 Q (F0 m (pc + 1) ls (.int (m_view i.toNatClampNeg) :: rest))) : W p l e R s m args below meth c H locs 0 0 Q (F0 m pc ls (.int i :: .ref (q 3) :: rest)) := va_iald F.1 F.2.1 E.1 J.1 3 0 rfl rfl hin hdg kk
theorem ms_3 {z : Int32} (F : CallFix p m c cc nL s args BIG own) (E : EV g A s) (J : VJ g A s.heap (MW g q m_thrown m_n m_robots m_viewed m_rules m_taped m_latest m_size m_at m_sort m_place m_end m_fault m_faultAt m_read m_crowds m_traced m_here m_hand m_view m_up m_down m_ruleSize m_ruleRow m_ruleDoes m_name m_goes m_tape m_readSize m_readRow m_readDoes m_own m_crowd m_isStep m_isOfGoal m_isMet m_most m_stands m_doesHere m_from m_trace) H locs) {i : Int32} (hin : vp_in i 8) (hdg : decode cc pc = .ok (.iastore, 1)) (kk : ∀ (H1 : Heap) (locs1 : List Loc), VJ g A s.heap (MW g q m_thrown m_n m_robots m_viewed m_rules m_taped m_latest m_size m_at m_sort m_place m_end m_fault m_faultAt m_read m_crowds m_traced m_here m_hand (upd m_view i.toNatClampNeg z) m_up m_down m_ruleSize m_ruleRow m_ruleDoes m_name m_goes m_tape m_readSize m_readRow m_readDoes m_own m_crowd m_isStep m_isOfGoal m_isMet m_most m_stands m_doesHere m_from m_trace) H1 locs1 → W p l e R s m args below meth c H1 locs1 0 0 Q (F0 m (pc + 1) ls rest)) : W p l e R s m args below meth c H locs 0 0 Q (F0 m pc ls (.int z :: .int i :: .ref (q 3) :: rest)) := va_iast F.1 F.2.1 E.1 J.1 J.2.1 J.2.2 3 0 rfl rfl hin hdg (fun H1 locs1 h1 h2 h3 => kk H1 locs1 ⟨h1, h2, h3⟩)
theorem ml_4 (F : CallFix p m c cc nL s args BIG own) (E : EV g A s) (J : VJ g A s.heap (MW g q m_thrown m_n m_robots m_viewed m_rules m_taped m_latest m_size m_at m_sort m_place m_end m_fault m_faultAt m_read m_crowds m_traced m_here m_hand m_view m_up m_down m_ruleSize m_ruleRow m_ruleDoes m_name m_goes m_tape m_readSize m_readRow m_readDoes m_own m_crowd m_isStep m_isOfGoal m_isMet m_most m_stands m_doesHere m_from m_trace) H locs) {i : Int32} (hin : vp_in i 8) (hdg : decode cc pc = .ok (.iaload, 1)) (kk : W p l e R s m args below meth c H locs 0 0 Q (F0 m (pc + 1) ls (.int (m_up i.toNatClampNeg) :: rest))) : W p l e R s m args below meth c H locs 0 0 Q (F0 m pc ls (.int i :: .ref (q 4) :: rest)) := va_iald F.1 F.2.1 E.1 J.1 4 0 rfl rfl hin hdg kk
theorem ms_4 {z : Int32} (F : CallFix p m c cc nL s args BIG own) (E : EV g A s) (J : VJ g A s.heap (MW g q m_thrown m_n m_robots m_viewed m_rules m_taped m_latest m_size m_at m_sort m_place m_end m_fault m_faultAt m_read m_crowds m_traced m_here m_hand m_view m_up m_down m_ruleSize m_ruleRow m_ruleDoes m_name m_goes m_tape m_readSize m_readRow m_readDoes m_own m_crowd m_isStep m_isOfGoal m_isMet m_most m_stands m_doesHere m_from m_trace) H locs) {i : Int32} (hin : vp_in i 8) (hdg : decode cc pc = .ok (.iastore, 1)) (kk : ∀ (H1 : Heap) (locs1 : List Loc), VJ g A s.heap (MW g q m_thrown m_n m_robots m_viewed m_rules m_taped m_latest m_size m_at m_sort m_place m_end m_fault m_faultAt m_read m_crowds m_traced m_here m_hand m_view (upd m_up i.toNatClampNeg z) m_down m_ruleSize m_ruleRow m_ruleDoes m_name m_goes m_tape m_readSize m_readRow m_readDoes m_own m_crowd m_isStep m_isOfGoal m_isMet m_most m_stands m_doesHere m_from m_trace) H1 locs1 → W p l e R s m args below meth c H1 locs1 0 0 Q (F0 m (pc + 1) ls rest)) : W p l e R s m args below meth c H locs 0 0 Q (F0 m pc ls (.int z :: .int i :: .ref (q 4) :: rest)) := va_iast F.1 F.2.1 E.1 J.1 J.2.1 J.2.2 4 0 rfl rfl hin hdg (fun H1 locs1 h1 h2 h3 => kk H1 locs1 ⟨h1, h2, h3⟩)
theorem ml_5 (F : CallFix p m c cc nL s args BIG own) (E : EV g A s) (J : VJ g A s.heap (MW g q m_thrown m_n m_robots m_viewed m_rules m_taped m_latest m_size m_at m_sort m_place m_end m_fault m_faultAt m_read m_crowds m_traced m_here m_hand m_view m_up m_down m_ruleSize m_ruleRow m_ruleDoes m_name m_goes m_tape m_readSize m_readRow m_readDoes m_own m_crowd m_isStep m_isOfGoal m_isMet m_most m_stands m_doesHere m_from m_trace) H locs) {i : Int32} (hin : vp_in i 8) (hdg : decode cc pc = .ok (.iaload, 1)) (kk : W p l e R s m args below meth c H locs 0 0 Q (F0 m (pc + 1) ls (.int (m_down i.toNatClampNeg) :: rest))) : W p l e R s m args below meth c H locs 0 0 Q (F0 m pc ls (.int i :: .ref (q 5) :: rest)) := va_iald F.1 F.2.1 E.1 J.1 5 0 rfl rfl hin hdg kk
theorem ms_5 {z : Int32} (F : CallFix p m c cc nL s args BIG own) (E : EV g A s) (J : VJ g A s.heap (MW g q m_thrown m_n m_robots m_viewed m_rules m_taped m_latest m_size m_at m_sort m_place m_end m_fault m_faultAt m_read m_crowds m_traced m_here m_hand m_view m_up m_down m_ruleSize m_ruleRow m_ruleDoes m_name m_goes m_tape m_readSize m_readRow m_readDoes m_own m_crowd m_isStep m_isOfGoal m_isMet m_most m_stands m_doesHere m_from m_trace) H locs) {i : Int32} (hin : vp_in i 8) (hdg : decode cc pc = .ok (.iastore, 1)) (kk : ∀ (H1 : Heap) (locs1 : List Loc), VJ g A s.heap (MW g q m_thrown m_n m_robots m_viewed m_rules m_taped m_latest m_size m_at m_sort m_place m_end m_fault m_faultAt m_read m_crowds m_traced m_here m_hand m_view m_up (upd m_down i.toNatClampNeg z) m_ruleSize m_ruleRow m_ruleDoes m_name m_goes m_tape m_readSize m_readRow m_readDoes m_own m_crowd m_isStep m_isOfGoal m_isMet m_most m_stands m_doesHere m_from m_trace) H1 locs1 → W p l e R s m args below meth c H1 locs1 0 0 Q (F0 m (pc + 1) ls rest)) : W p l e R s m args below meth c H locs 0 0 Q (F0 m pc ls (.int z :: .int i :: .ref (q 5) :: rest)) := va_iast F.1 F.2.1 E.1 J.1 J.2.1 J.2.2 5 0 rfl rfl hin hdg (fun H1 locs1 h1 h2 h3 => kk H1 locs1 ⟨h1, h2, h3⟩)
theorem ml_6 (F : CallFix p m c cc nL s args BIG own) (E : EV g A s) (J : VJ g A s.heap (MW g q m_thrown m_n m_robots m_viewed m_rules m_taped m_latest m_size m_at m_sort m_place m_end m_fault m_faultAt m_read m_crowds m_traced m_here m_hand m_view m_up m_down m_ruleSize m_ruleRow m_ruleDoes m_name m_goes m_tape m_readSize m_readRow m_readDoes m_own m_crowd m_isStep m_isOfGoal m_isMet m_most m_stands m_doesHere m_from m_trace) H locs) {i : Int32} (hin : vp_in i 30) (hdg : decode cc pc = .ok (.iaload, 1)) (kk : W p l e R s m args below meth c H locs 0 0 Q (F0 m (pc + 1) ls (.int (m_ruleSize i.toNatClampNeg) :: rest))) : W p l e R s m args below meth c H locs 0 0 Q (F0 m pc ls (.int i :: .ref (q 6) :: rest)) := va_iald F.1 F.2.1 E.1 J.1 6 0 rfl rfl hin hdg kk
theorem ms_6 {z : Int32} (F : CallFix p m c cc nL s args BIG own) (E : EV g A s) (J : VJ g A s.heap (MW g q m_thrown m_n m_robots m_viewed m_rules m_taped m_latest m_size m_at m_sort m_place m_end m_fault m_faultAt m_read m_crowds m_traced m_here m_hand m_view m_up m_down m_ruleSize m_ruleRow m_ruleDoes m_name m_goes m_tape m_readSize m_readRow m_readDoes m_own m_crowd m_isStep m_isOfGoal m_isMet m_most m_stands m_doesHere m_from m_trace) H locs) {i : Int32} (hin : vp_in i 30) (hdg : decode cc pc = .ok (.iastore, 1)) (kk : ∀ (H1 : Heap) (locs1 : List Loc), VJ g A s.heap (MW g q m_thrown m_n m_robots m_viewed m_rules m_taped m_latest m_size m_at m_sort m_place m_end m_fault m_faultAt m_read m_crowds m_traced m_here m_hand m_view m_up m_down (upd m_ruleSize i.toNatClampNeg z) m_ruleRow m_ruleDoes m_name m_goes m_tape m_readSize m_readRow m_readDoes m_own m_crowd m_isStep m_isOfGoal m_isMet m_most m_stands m_doesHere m_from m_trace) H1 locs1 → W p l e R s m args below meth c H1 locs1 0 0 Q (F0 m (pc + 1) ls rest)) : W p l e R s m args below meth c H locs 0 0 Q (F0 m pc ls (.int z :: .int i :: .ref (q 6) :: rest)) := va_iast F.1 F.2.1 E.1 J.1 J.2.1 J.2.2 6 0 rfl rfl hin hdg (fun H1 locs1 h1 h2 h3 => kk H1 locs1 ⟨h1, h2, h3⟩)
theorem ml_7 (F : CallFix p m c cc nL s args BIG own) (E : EV g A s) (J : VJ g A s.heap (MW g q m_thrown m_n m_robots m_viewed m_rules m_taped m_latest m_size m_at m_sort m_place m_end m_fault m_faultAt m_read m_crowds m_traced m_here m_hand m_view m_up m_down m_ruleSize m_ruleRow m_ruleDoes m_name m_goes m_tape m_readSize m_readRow m_readDoes m_own m_crowd m_isStep m_isOfGoal m_isMet m_most m_stands m_doesHere m_from m_trace) H locs) {i : Int32} (hin : vp_in i 240) (hdg : decode cc pc = .ok (.iaload, 1)) (kk : W p l e R s m args below meth c H locs 0 0 Q (F0 m (pc + 1) ls (.int (m_ruleRow i.toNatClampNeg) :: rest))) : W p l e R s m args below meth c H locs 0 0 Q (F0 m pc ls (.int i :: .ref (q 7) :: rest)) := va_iald F.1 F.2.1 E.1 J.1 7 0 rfl rfl hin hdg kk
theorem ms_7 {z : Int32} (F : CallFix p m c cc nL s args BIG own) (E : EV g A s) (J : VJ g A s.heap (MW g q m_thrown m_n m_robots m_viewed m_rules m_taped m_latest m_size m_at m_sort m_place m_end m_fault m_faultAt m_read m_crowds m_traced m_here m_hand m_view m_up m_down m_ruleSize m_ruleRow m_ruleDoes m_name m_goes m_tape m_readSize m_readRow m_readDoes m_own m_crowd m_isStep m_isOfGoal m_isMet m_most m_stands m_doesHere m_from m_trace) H locs) {i : Int32} (hin : vp_in i 240) (hdg : decode cc pc = .ok (.iastore, 1)) (kk : ∀ (H1 : Heap) (locs1 : List Loc), VJ g A s.heap (MW g q m_thrown m_n m_robots m_viewed m_rules m_taped m_latest m_size m_at m_sort m_place m_end m_fault m_faultAt m_read m_crowds m_traced m_here m_hand m_view m_up m_down m_ruleSize (upd m_ruleRow i.toNatClampNeg z) m_ruleDoes m_name m_goes m_tape m_readSize m_readRow m_readDoes m_own m_crowd m_isStep m_isOfGoal m_isMet m_most m_stands m_doesHere m_from m_trace) H1 locs1 → W p l e R s m args below meth c H1 locs1 0 0 Q (F0 m (pc + 1) ls rest)) : W p l e R s m args below meth c H locs 0 0 Q (F0 m pc ls (.int z :: .int i :: .ref (q 7) :: rest)) := va_iast F.1 F.2.1 E.1 J.1 J.2.1 J.2.2 7 0 rfl rfl hin hdg (fun H1 locs1 h1 h2 h3 => kk H1 locs1 ⟨h1, h2, h3⟩)
theorem ml_8 (F : CallFix p m c cc nL s args BIG own) (E : EV g A s) (J : VJ g A s.heap (MW g q m_thrown m_n m_robots m_viewed m_rules m_taped m_latest m_size m_at m_sort m_place m_end m_fault m_faultAt m_read m_crowds m_traced m_here m_hand m_view m_up m_down m_ruleSize m_ruleRow m_ruleDoes m_name m_goes m_tape m_readSize m_readRow m_readDoes m_own m_crowd m_isStep m_isOfGoal m_isMet m_most m_stands m_doesHere m_from m_trace) H locs) {i : Int32} (hin : vp_in i 30) (hdg : decode cc pc = .ok (.iaload, 1)) (kk : W p l e R s m args below meth c H locs 0 0 Q (F0 m (pc + 1) ls (.int (m_ruleDoes i.toNatClampNeg) :: rest))) : W p l e R s m args below meth c H locs 0 0 Q (F0 m pc ls (.int i :: .ref (q 8) :: rest)) := va_iald F.1 F.2.1 E.1 J.1 8 0 rfl rfl hin hdg kk
theorem ms_8 {z : Int32} (F : CallFix p m c cc nL s args BIG own) (E : EV g A s) (J : VJ g A s.heap (MW g q m_thrown m_n m_robots m_viewed m_rules m_taped m_latest m_size m_at m_sort m_place m_end m_fault m_faultAt m_read m_crowds m_traced m_here m_hand m_view m_up m_down m_ruleSize m_ruleRow m_ruleDoes m_name m_goes m_tape m_readSize m_readRow m_readDoes m_own m_crowd m_isStep m_isOfGoal m_isMet m_most m_stands m_doesHere m_from m_trace) H locs) {i : Int32} (hin : vp_in i 30) (hdg : decode cc pc = .ok (.iastore, 1)) (kk : ∀ (H1 : Heap) (locs1 : List Loc), VJ g A s.heap (MW g q m_thrown m_n m_robots m_viewed m_rules m_taped m_latest m_size m_at m_sort m_place m_end m_fault m_faultAt m_read m_crowds m_traced m_here m_hand m_view m_up m_down m_ruleSize m_ruleRow (upd m_ruleDoes i.toNatClampNeg z) m_name m_goes m_tape m_readSize m_readRow m_readDoes m_own m_crowd m_isStep m_isOfGoal m_isMet m_most m_stands m_doesHere m_from m_trace) H1 locs1 → W p l e R s m args below meth c H1 locs1 0 0 Q (F0 m (pc + 1) ls rest)) : W p l e R s m args below meth c H locs 0 0 Q (F0 m pc ls (.int z :: .int i :: .ref (q 8) :: rest)) := va_iast F.1 F.2.1 E.1 J.1 J.2.1 J.2.2 8 0 rfl rfl hin hdg (fun H1 locs1 h1 h2 h3 => kk H1 locs1 ⟨h1, h2, h3⟩)
theorem ml_9 (F : CallFix p m c cc nL s args BIG own) (E : EV g A s) (J : VJ g A s.heap (MW g q m_thrown m_n m_robots m_viewed m_rules m_taped m_latest m_size m_at m_sort m_place m_end m_fault m_faultAt m_read m_crowds m_traced m_here m_hand m_view m_up m_down m_ruleSize m_ruleRow m_ruleDoes m_name m_goes m_tape m_readSize m_readRow m_readDoes m_own m_crowd m_isStep m_isOfGoal m_isMet m_most m_stands m_doesHere m_from m_trace) H locs) {i : Int32} (hin : vp_in i 9) (hdg : decode cc pc = .ok (.iaload, 1)) (kk : W p l e R s m args below meth c H locs 0 0 Q (F0 m (pc + 1) ls (.int (m_name i.toNatClampNeg) :: rest))) : W p l e R s m args below meth c H locs 0 0 Q (F0 m pc ls (.int i :: .ref (q 9) :: rest)) := va_iald F.1 F.2.1 E.1 J.1 9 0 rfl rfl hin hdg kk
theorem ms_9 {z : Int32} (F : CallFix p m c cc nL s args BIG own) (E : EV g A s) (J : VJ g A s.heap (MW g q m_thrown m_n m_robots m_viewed m_rules m_taped m_latest m_size m_at m_sort m_place m_end m_fault m_faultAt m_read m_crowds m_traced m_here m_hand m_view m_up m_down m_ruleSize m_ruleRow m_ruleDoes m_name m_goes m_tape m_readSize m_readRow m_readDoes m_own m_crowd m_isStep m_isOfGoal m_isMet m_most m_stands m_doesHere m_from m_trace) H locs) {i : Int32} (hin : vp_in i 9) (hdg : decode cc pc = .ok (.iastore, 1)) (kk : ∀ (H1 : Heap) (locs1 : List Loc), VJ g A s.heap (MW g q m_thrown m_n m_robots m_viewed m_rules m_taped m_latest m_size m_at m_sort m_place m_end m_fault m_faultAt m_read m_crowds m_traced m_here m_hand m_view m_up m_down m_ruleSize m_ruleRow m_ruleDoes (upd m_name i.toNatClampNeg z) m_goes m_tape m_readSize m_readRow m_readDoes m_own m_crowd m_isStep m_isOfGoal m_isMet m_most m_stands m_doesHere m_from m_trace) H1 locs1 → W p l e R s m args below meth c H1 locs1 0 0 Q (F0 m (pc + 1) ls rest)) : W p l e R s m args below meth c H locs 0 0 Q (F0 m pc ls (.int z :: .int i :: .ref (q 9) :: rest)) := va_iast F.1 F.2.1 E.1 J.1 J.2.1 J.2.2 9 0 rfl rfl hin hdg (fun H1 locs1 h1 h2 h3 => kk H1 locs1 ⟨h1, h2, h3⟩)
theorem ml_10 (F : CallFix p m c cc nL s args BIG own) (E : EV g A s) (J : VJ g A s.heap (MW g q m_thrown m_n m_robots m_viewed m_rules m_taped m_latest m_size m_at m_sort m_place m_end m_fault m_faultAt m_read m_crowds m_traced m_here m_hand m_view m_up m_down m_ruleSize m_ruleRow m_ruleDoes m_name m_goes m_tape m_readSize m_readRow m_readDoes m_own m_crowd m_isStep m_isOfGoal m_isMet m_most m_stands m_doesHere m_from m_trace) H locs) {i : Int32} (hin : vp_in i 9) (hdg : decode cc pc = .ok (.iaload, 1)) (kk : W p l e R s m args below meth c H locs 0 0 Q (F0 m (pc + 1) ls (.int (m_goes i.toNatClampNeg) :: rest))) : W p l e R s m args below meth c H locs 0 0 Q (F0 m pc ls (.int i :: .ref (q 10) :: rest)) := va_iald F.1 F.2.1 E.1 J.1 10 0 rfl rfl hin hdg kk
theorem ms_10 {z : Int32} (F : CallFix p m c cc nL s args BIG own) (E : EV g A s) (J : VJ g A s.heap (MW g q m_thrown m_n m_robots m_viewed m_rules m_taped m_latest m_size m_at m_sort m_place m_end m_fault m_faultAt m_read m_crowds m_traced m_here m_hand m_view m_up m_down m_ruleSize m_ruleRow m_ruleDoes m_name m_goes m_tape m_readSize m_readRow m_readDoes m_own m_crowd m_isStep m_isOfGoal m_isMet m_most m_stands m_doesHere m_from m_trace) H locs) {i : Int32} (hin : vp_in i 9) (hdg : decode cc pc = .ok (.iastore, 1)) (kk : ∀ (H1 : Heap) (locs1 : List Loc), VJ g A s.heap (MW g q m_thrown m_n m_robots m_viewed m_rules m_taped m_latest m_size m_at m_sort m_place m_end m_fault m_faultAt m_read m_crowds m_traced m_here m_hand m_view m_up m_down m_ruleSize m_ruleRow m_ruleDoes m_name (upd m_goes i.toNatClampNeg z) m_tape m_readSize m_readRow m_readDoes m_own m_crowd m_isStep m_isOfGoal m_isMet m_most m_stands m_doesHere m_from m_trace) H1 locs1 → W p l e R s m args below meth c H1 locs1 0 0 Q (F0 m (pc + 1) ls rest)) : W p l e R s m args below meth c H locs 0 0 Q (F0 m pc ls (.int z :: .int i :: .ref (q 10) :: rest)) := va_iast F.1 F.2.1 E.1 J.1 J.2.1 J.2.2 10 0 rfl rfl hin hdg (fun H1 locs1 h1 h2 h3 => kk H1 locs1 ⟨h1, h2, h3⟩)
theorem ml_11 (F : CallFix p m c cc nL s args BIG own) (E : EV g A s) (J : VJ g A s.heap (MW g q m_thrown m_n m_robots m_viewed m_rules m_taped m_latest m_size m_at m_sort m_place m_end m_fault m_faultAt m_read m_crowds m_traced m_here m_hand m_view m_up m_down m_ruleSize m_ruleRow m_ruleDoes m_name m_goes m_tape m_readSize m_readRow m_readDoes m_own m_crowd m_isStep m_isOfGoal m_isMet m_most m_stands m_doesHere m_from m_trace) H locs) {i : Int32} (hin : vp_in i 400) (hdg : decode cc pc = .ok (.iaload, 1)) (kk : W p l e R s m args below meth c H locs 0 0 Q (F0 m (pc + 1) ls (.int (m_tape i.toNatClampNeg) :: rest))) : W p l e R s m args below meth c H locs 0 0 Q (F0 m pc ls (.int i :: .ref (q 11) :: rest)) := va_iald F.1 F.2.1 E.1 J.1 11 0 rfl rfl hin hdg kk
theorem ms_11 {z : Int32} (F : CallFix p m c cc nL s args BIG own) (E : EV g A s) (J : VJ g A s.heap (MW g q m_thrown m_n m_robots m_viewed m_rules m_taped m_latest m_size m_at m_sort m_place m_end m_fault m_faultAt m_read m_crowds m_traced m_here m_hand m_view m_up m_down m_ruleSize m_ruleRow m_ruleDoes m_name m_goes m_tape m_readSize m_readRow m_readDoes m_own m_crowd m_isStep m_isOfGoal m_isMet m_most m_stands m_doesHere m_from m_trace) H locs) {i : Int32} (hin : vp_in i 400) (hdg : decode cc pc = .ok (.iastore, 1)) (kk : ∀ (H1 : Heap) (locs1 : List Loc), VJ g A s.heap (MW g q m_thrown m_n m_robots m_viewed m_rules m_taped m_latest m_size m_at m_sort m_place m_end m_fault m_faultAt m_read m_crowds m_traced m_here m_hand m_view m_up m_down m_ruleSize m_ruleRow m_ruleDoes m_name m_goes (upd m_tape i.toNatClampNeg z) m_readSize m_readRow m_readDoes m_own m_crowd m_isStep m_isOfGoal m_isMet m_most m_stands m_doesHere m_from m_trace) H1 locs1 → W p l e R s m args below meth c H1 locs1 0 0 Q (F0 m (pc + 1) ls rest)) : W p l e R s m args below meth c H locs 0 0 Q (F0 m pc ls (.int z :: .int i :: .ref (q 11) :: rest)) := va_iast F.1 F.2.1 E.1 J.1 J.2.1 J.2.2 11 0 rfl rfl hin hdg (fun H1 locs1 h1 h2 h3 => kk H1 locs1 ⟨h1, h2, h3⟩)
theorem ml_12 (F : CallFix p m c cc nL s args BIG own) (E : EV g A s) (J : VJ g A s.heap (MW g q m_thrown m_n m_robots m_viewed m_rules m_taped m_latest m_size m_at m_sort m_place m_end m_fault m_faultAt m_read m_crowds m_traced m_here m_hand m_view m_up m_down m_ruleSize m_ruleRow m_ruleDoes m_name m_goes m_tape m_readSize m_readRow m_readDoes m_own m_crowd m_isStep m_isOfGoal m_isMet m_most m_stands m_doesHere m_from m_trace) H locs) {i : Int32} (hin : vp_in i 30) (hdg : decode cc pc = .ok (.iaload, 1)) (kk : W p l e R s m args below meth c H locs 0 0 Q (F0 m (pc + 1) ls (.int (m_readSize i.toNatClampNeg) :: rest))) : W p l e R s m args below meth c H locs 0 0 Q (F0 m pc ls (.int i :: .ref (q 12) :: rest)) := va_iald F.1 F.2.1 E.1 J.1 12 0 rfl rfl hin hdg kk
theorem ms_12 {z : Int32} (F : CallFix p m c cc nL s args BIG own) (E : EV g A s) (J : VJ g A s.heap (MW g q m_thrown m_n m_robots m_viewed m_rules m_taped m_latest m_size m_at m_sort m_place m_end m_fault m_faultAt m_read m_crowds m_traced m_here m_hand m_view m_up m_down m_ruleSize m_ruleRow m_ruleDoes m_name m_goes m_tape m_readSize m_readRow m_readDoes m_own m_crowd m_isStep m_isOfGoal m_isMet m_most m_stands m_doesHere m_from m_trace) H locs) {i : Int32} (hin : vp_in i 30) (hdg : decode cc pc = .ok (.iastore, 1)) (kk : ∀ (H1 : Heap) (locs1 : List Loc), VJ g A s.heap (MW g q m_thrown m_n m_robots m_viewed m_rules m_taped m_latest m_size m_at m_sort m_place m_end m_fault m_faultAt m_read m_crowds m_traced m_here m_hand m_view m_up m_down m_ruleSize m_ruleRow m_ruleDoes m_name m_goes m_tape (upd m_readSize i.toNatClampNeg z) m_readRow m_readDoes m_own m_crowd m_isStep m_isOfGoal m_isMet m_most m_stands m_doesHere m_from m_trace) H1 locs1 → W p l e R s m args below meth c H1 locs1 0 0 Q (F0 m (pc + 1) ls rest)) : W p l e R s m args below meth c H locs 0 0 Q (F0 m pc ls (.int z :: .int i :: .ref (q 12) :: rest)) := va_iast F.1 F.2.1 E.1 J.1 J.2.1 J.2.2 12 0 rfl rfl hin hdg (fun H1 locs1 h1 h2 h3 => kk H1 locs1 ⟨h1, h2, h3⟩)
theorem ml_13 (F : CallFix p m c cc nL s args BIG own) (E : EV g A s) (J : VJ g A s.heap (MW g q m_thrown m_n m_robots m_viewed m_rules m_taped m_latest m_size m_at m_sort m_place m_end m_fault m_faultAt m_read m_crowds m_traced m_here m_hand m_view m_up m_down m_ruleSize m_ruleRow m_ruleDoes m_name m_goes m_tape m_readSize m_readRow m_readDoes m_own m_crowd m_isStep m_isOfGoal m_isMet m_most m_stands m_doesHere m_from m_trace) H locs) {i : Int32} (hin : vp_in i 240) (hdg : decode cc pc = .ok (.iaload, 1)) (kk : W p l e R s m args below meth c H locs 0 0 Q (F0 m (pc + 1) ls (.int (m_readRow i.toNatClampNeg) :: rest))) : W p l e R s m args below meth c H locs 0 0 Q (F0 m pc ls (.int i :: .ref (q 13) :: rest)) := va_iald F.1 F.2.1 E.1 J.1 13 0 rfl rfl hin hdg kk
theorem ms_13 {z : Int32} (F : CallFix p m c cc nL s args BIG own) (E : EV g A s) (J : VJ g A s.heap (MW g q m_thrown m_n m_robots m_viewed m_rules m_taped m_latest m_size m_at m_sort m_place m_end m_fault m_faultAt m_read m_crowds m_traced m_here m_hand m_view m_up m_down m_ruleSize m_ruleRow m_ruleDoes m_name m_goes m_tape m_readSize m_readRow m_readDoes m_own m_crowd m_isStep m_isOfGoal m_isMet m_most m_stands m_doesHere m_from m_trace) H locs) {i : Int32} (hin : vp_in i 240) (hdg : decode cc pc = .ok (.iastore, 1)) (kk : ∀ (H1 : Heap) (locs1 : List Loc), VJ g A s.heap (MW g q m_thrown m_n m_robots m_viewed m_rules m_taped m_latest m_size m_at m_sort m_place m_end m_fault m_faultAt m_read m_crowds m_traced m_here m_hand m_view m_up m_down m_ruleSize m_ruleRow m_ruleDoes m_name m_goes m_tape m_readSize (upd m_readRow i.toNatClampNeg z) m_readDoes m_own m_crowd m_isStep m_isOfGoal m_isMet m_most m_stands m_doesHere m_from m_trace) H1 locs1 → W p l e R s m args below meth c H1 locs1 0 0 Q (F0 m (pc + 1) ls rest)) : W p l e R s m args below meth c H locs 0 0 Q (F0 m pc ls (.int z :: .int i :: .ref (q 13) :: rest)) := va_iast F.1 F.2.1 E.1 J.1 J.2.1 J.2.2 13 0 rfl rfl hin hdg (fun H1 locs1 h1 h2 h3 => kk H1 locs1 ⟨h1, h2, h3⟩)
theorem ml_14 (F : CallFix p m c cc nL s args BIG own) (E : EV g A s) (J : VJ g A s.heap (MW g q m_thrown m_n m_robots m_viewed m_rules m_taped m_latest m_size m_at m_sort m_place m_end m_fault m_faultAt m_read m_crowds m_traced m_here m_hand m_view m_up m_down m_ruleSize m_ruleRow m_ruleDoes m_name m_goes m_tape m_readSize m_readRow m_readDoes m_own m_crowd m_isStep m_isOfGoal m_isMet m_most m_stands m_doesHere m_from m_trace) H locs) {i : Int32} (hin : vp_in i 30) (hdg : decode cc pc = .ok (.iaload, 1)) (kk : W p l e R s m args below meth c H locs 0 0 Q (F0 m (pc + 1) ls (.int (m_readDoes i.toNatClampNeg) :: rest))) : W p l e R s m args below meth c H locs 0 0 Q (F0 m pc ls (.int i :: .ref (q 14) :: rest)) := va_iald F.1 F.2.1 E.1 J.1 14 0 rfl rfl hin hdg kk
theorem ms_14 {z : Int32} (F : CallFix p m c cc nL s args BIG own) (E : EV g A s) (J : VJ g A s.heap (MW g q m_thrown m_n m_robots m_viewed m_rules m_taped m_latest m_size m_at m_sort m_place m_end m_fault m_faultAt m_read m_crowds m_traced m_here m_hand m_view m_up m_down m_ruleSize m_ruleRow m_ruleDoes m_name m_goes m_tape m_readSize m_readRow m_readDoes m_own m_crowd m_isStep m_isOfGoal m_isMet m_most m_stands m_doesHere m_from m_trace) H locs) {i : Int32} (hin : vp_in i 30) (hdg : decode cc pc = .ok (.iastore, 1)) (kk : ∀ (H1 : Heap) (locs1 : List Loc), VJ g A s.heap (MW g q m_thrown m_n m_robots m_viewed m_rules m_taped m_latest m_size m_at m_sort m_place m_end m_fault m_faultAt m_read m_crowds m_traced m_here m_hand m_view m_up m_down m_ruleSize m_ruleRow m_ruleDoes m_name m_goes m_tape m_readSize m_readRow (upd m_readDoes i.toNatClampNeg z) m_own m_crowd m_isStep m_isOfGoal m_isMet m_most m_stands m_doesHere m_from m_trace) H1 locs1 → W p l e R s m args below meth c H1 locs1 0 0 Q (F0 m (pc + 1) ls rest)) : W p l e R s m args below meth c H locs 0 0 Q (F0 m pc ls (.int z :: .int i :: .ref (q 14) :: rest)) := va_iast F.1 F.2.1 E.1 J.1 J.2.1 J.2.2 14 0 rfl rfl hin hdg (fun H1 locs1 h1 h2 h3 => kk H1 locs1 ⟨h1, h2, h3⟩)
theorem ml_15 (F : CallFix p m c cc nL s args BIG own) (E : EV g A s) (J : VJ g A s.heap (MW g q m_thrown m_n m_robots m_viewed m_rules m_taped m_latest m_size m_at m_sort m_place m_end m_fault m_faultAt m_read m_crowds m_traced m_here m_hand m_view m_up m_down m_ruleSize m_ruleRow m_ruleDoes m_name m_goes m_tape m_readSize m_readRow m_readDoes m_own m_crowd m_isStep m_isOfGoal m_isMet m_most m_stands m_doesHere m_from m_trace) H locs) {i : Int32} (hin : vp_in i 8) (hdg : decode cc pc = .ok (.iaload, 1)) (kk : W p l e R s m args below meth c H locs 0 0 Q (F0 m (pc + 1) ls (.int (m_own i.toNatClampNeg) :: rest))) : W p l e R s m args below meth c H locs 0 0 Q (F0 m pc ls (.int i :: .ref (q 15) :: rest)) := va_iald F.1 F.2.1 E.1 J.1 15 0 rfl rfl hin hdg kk
theorem ms_15 {z : Int32} (F : CallFix p m c cc nL s args BIG own) (E : EV g A s) (J : VJ g A s.heap (MW g q m_thrown m_n m_robots m_viewed m_rules m_taped m_latest m_size m_at m_sort m_place m_end m_fault m_faultAt m_read m_crowds m_traced m_here m_hand m_view m_up m_down m_ruleSize m_ruleRow m_ruleDoes m_name m_goes m_tape m_readSize m_readRow m_readDoes m_own m_crowd m_isStep m_isOfGoal m_isMet m_most m_stands m_doesHere m_from m_trace) H locs) {i : Int32} (hin : vp_in i 8) (hdg : decode cc pc = .ok (.iastore, 1)) (kk : ∀ (H1 : Heap) (locs1 : List Loc), VJ g A s.heap (MW g q m_thrown m_n m_robots m_viewed m_rules m_taped m_latest m_size m_at m_sort m_place m_end m_fault m_faultAt m_read m_crowds m_traced m_here m_hand m_view m_up m_down m_ruleSize m_ruleRow m_ruleDoes m_name m_goes m_tape m_readSize m_readRow m_readDoes (upd m_own i.toNatClampNeg z) m_crowd m_isStep m_isOfGoal m_isMet m_most m_stands m_doesHere m_from m_trace) H1 locs1 → W p l e R s m args below meth c H1 locs1 0 0 Q (F0 m (pc + 1) ls rest)) : W p l e R s m args below meth c H locs 0 0 Q (F0 m pc ls (.int z :: .int i :: .ref (q 15) :: rest)) := va_iast F.1 F.2.1 E.1 J.1 J.2.1 J.2.2 15 0 rfl rfl hin hdg (fun H1 locs1 h1 h2 h3 => kk H1 locs1 ⟨h1, h2, h3⟩)
theorem ml_16 (F : CallFix p m c cc nL s args BIG own) (E : EV g A s) (J : VJ g A s.heap (MW g q m_thrown m_n m_robots m_viewed m_rules m_taped m_latest m_size m_at m_sort m_place m_end m_fault m_faultAt m_read m_crowds m_traced m_here m_hand m_view m_up m_down m_ruleSize m_ruleRow m_ruleDoes m_name m_goes m_tape m_readSize m_readRow m_readDoes m_own m_crowd m_isStep m_isOfGoal m_isMet m_most m_stands m_doesHere m_from m_trace) H locs) {i : Int32} (hin : vp_in i 1080) (hdg : decode cc pc = .ok (.iaload, 1)) (kk : W p l e R s m args below meth c H locs 0 0 Q (F0 m (pc + 1) ls (.int (m_crowd i.toNatClampNeg) :: rest))) : W p l e R s m args below meth c H locs 0 0 Q (F0 m pc ls (.int i :: .ref (q 16) :: rest)) := va_iald F.1 F.2.1 E.1 J.1 16 0 rfl rfl hin hdg kk
theorem ms_16 {z : Int32} (F : CallFix p m c cc nL s args BIG own) (E : EV g A s) (J : VJ g A s.heap (MW g q m_thrown m_n m_robots m_viewed m_rules m_taped m_latest m_size m_at m_sort m_place m_end m_fault m_faultAt m_read m_crowds m_traced m_here m_hand m_view m_up m_down m_ruleSize m_ruleRow m_ruleDoes m_name m_goes m_tape m_readSize m_readRow m_readDoes m_own m_crowd m_isStep m_isOfGoal m_isMet m_most m_stands m_doesHere m_from m_trace) H locs) {i : Int32} (hin : vp_in i 1080) (hdg : decode cc pc = .ok (.iastore, 1)) (kk : ∀ (H1 : Heap) (locs1 : List Loc), VJ g A s.heap (MW g q m_thrown m_n m_robots m_viewed m_rules m_taped m_latest m_size m_at m_sort m_place m_end m_fault m_faultAt m_read m_crowds m_traced m_here m_hand m_view m_up m_down m_ruleSize m_ruleRow m_ruleDoes m_name m_goes m_tape m_readSize m_readRow m_readDoes m_own (upd m_crowd i.toNatClampNeg z) m_isStep m_isOfGoal m_isMet m_most m_stands m_doesHere m_from m_trace) H1 locs1 → W p l e R s m args below meth c H1 locs1 0 0 Q (F0 m (pc + 1) ls rest)) : W p l e R s m args below meth c H locs 0 0 Q (F0 m pc ls (.int z :: .int i :: .ref (q 16) :: rest)) := va_iast F.1 F.2.1 E.1 J.1 J.2.1 J.2.2 16 0 rfl rfl hin hdg (fun H1 locs1 h1 h2 h3 => kk H1 locs1 ⟨h1, h2, h3⟩)
theorem ml_17 (F : CallFix p m c cc nL s args BIG own) (E : EV g A s) (J : VJ g A s.heap (MW g q m_thrown m_n m_robots m_viewed m_rules m_taped m_latest m_size m_at m_sort m_place m_end m_fault m_faultAt m_read m_crowds m_traced m_here m_hand m_view m_up m_down m_ruleSize m_ruleRow m_ruleDoes m_name m_goes m_tape m_readSize m_readRow m_readDoes m_own m_crowd m_isStep m_isOfGoal m_isMet m_most m_stands m_doesHere m_from m_trace) H locs) {i : Int32} (hin : vp_in i 14400) (hdg : decode cc pc = .ok (.baload, 1)) (kk : W p l e R s m args below meth c H locs 0 0 Q (F0 m (pc + 1) ls (.int (m_isStep i.toNatClampNeg) :: rest))) : W p l e R s m args below meth c H locs 0 0 Q (F0 m pc ls (.int i :: .ref (q 17) :: rest)) := va_zald F.1 F.2.1 E.1 J.1 17 2 rfl rfl hin hdg kk
theorem ms_17 {z : Int32} (F : CallFix p m c cc nL s args BIG own) (E : EV g A s) (J : VJ g A s.heap (MW g q m_thrown m_n m_robots m_viewed m_rules m_taped m_latest m_size m_at m_sort m_place m_end m_fault m_faultAt m_read m_crowds m_traced m_here m_hand m_view m_up m_down m_ruleSize m_ruleRow m_ruleDoes m_name m_goes m_tape m_readSize m_readRow m_readDoes m_own m_crowd m_isStep m_isOfGoal m_isMet m_most m_stands m_doesHere m_from m_trace) H locs) {i : Int32} (hin : vp_in i 14400) (hdg : decode cc pc = .ok (.bastore, 1)) (kk : ∀ (H1 : Heap) (locs1 : List Loc), VJ g A s.heap (MW g q m_thrown m_n m_robots m_viewed m_rules m_taped m_latest m_size m_at m_sort m_place m_end m_fault m_faultAt m_read m_crowds m_traced m_here m_hand m_view m_up m_down m_ruleSize m_ruleRow m_ruleDoes m_name m_goes m_tape m_readSize m_readRow m_readDoes m_own m_crowd (upd m_isStep i.toNatClampNeg (vp_nar .boolean z)) m_isOfGoal m_isMet m_most m_stands m_doesHere m_from m_trace) H1 locs1 → W p l e R s m args below meth c H1 locs1 0 0 Q (F0 m (pc + 1) ls rest)) : W p l e R s m args below meth c H locs 0 0 Q (F0 m pc ls (.int z :: .int i :: .ref (q 17) :: rest)) := va_zast F.1 F.2.1 E.1 J.1 J.2.1 J.2.2 17 2 rfl rfl hin hdg (fun H1 locs1 h1 h2 h3 => kk H1 locs1 ⟨h1, h2, h3⟩)
theorem ml_18 (F : CallFix p m c cc nL s args BIG own) (E : EV g A s) (J : VJ g A s.heap (MW g q m_thrown m_n m_robots m_viewed m_rules m_taped m_latest m_size m_at m_sort m_place m_end m_fault m_faultAt m_read m_crowds m_traced m_here m_hand m_view m_up m_down m_ruleSize m_ruleRow m_ruleDoes m_name m_goes m_tape m_readSize m_readRow m_readDoes m_own m_crowd m_isStep m_isOfGoal m_isMet m_most m_stands m_doesHere m_from m_trace) H locs) {i : Int32} (hin : vp_in i 120) (hdg : decode cc pc = .ok (.baload, 1)) (kk : W p l e R s m args below meth c H locs 0 0 Q (F0 m (pc + 1) ls (.int (m_isOfGoal i.toNatClampNeg) :: rest))) : W p l e R s m args below meth c H locs 0 0 Q (F0 m pc ls (.int i :: .ref (q 18) :: rest)) := va_zald F.1 F.2.1 E.1 J.1 18 2 rfl rfl hin hdg kk
theorem ms_18 {z : Int32} (F : CallFix p m c cc nL s args BIG own) (E : EV g A s) (J : VJ g A s.heap (MW g q m_thrown m_n m_robots m_viewed m_rules m_taped m_latest m_size m_at m_sort m_place m_end m_fault m_faultAt m_read m_crowds m_traced m_here m_hand m_view m_up m_down m_ruleSize m_ruleRow m_ruleDoes m_name m_goes m_tape m_readSize m_readRow m_readDoes m_own m_crowd m_isStep m_isOfGoal m_isMet m_most m_stands m_doesHere m_from m_trace) H locs) {i : Int32} (hin : vp_in i 120) (hdg : decode cc pc = .ok (.bastore, 1)) (kk : ∀ (H1 : Heap) (locs1 : List Loc), VJ g A s.heap (MW g q m_thrown m_n m_robots m_viewed m_rules m_taped m_latest m_size m_at m_sort m_place m_end m_fault m_faultAt m_read m_crowds m_traced m_here m_hand m_view m_up m_down m_ruleSize m_ruleRow m_ruleDoes m_name m_goes m_tape m_readSize m_readRow m_readDoes m_own m_crowd m_isStep (upd m_isOfGoal i.toNatClampNeg (vp_nar .boolean z)) m_isMet m_most m_stands m_doesHere m_from m_trace) H1 locs1 → W p l e R s m args below meth c H1 locs1 0 0 Q (F0 m (pc + 1) ls rest)) : W p l e R s m args below meth c H locs 0 0 Q (F0 m pc ls (.int z :: .int i :: .ref (q 18) :: rest)) := va_zast F.1 F.2.1 E.1 J.1 J.2.1 J.2.2 18 2 rfl rfl hin hdg (fun H1 locs1 h1 h2 h3 => kk H1 locs1 ⟨h1, h2, h3⟩)
theorem ml_19 (F : CallFix p m c cc nL s args BIG own) (E : EV g A s) (J : VJ g A s.heap (MW g q m_thrown m_n m_robots m_viewed m_rules m_taped m_latest m_size m_at m_sort m_place m_end m_fault m_faultAt m_read m_crowds m_traced m_here m_hand m_view m_up m_down m_ruleSize m_ruleRow m_ruleDoes m_name m_goes m_tape m_readSize m_readRow m_readDoes m_own m_crowd m_isStep m_isOfGoal m_isMet m_most m_stands m_doesHere m_from m_trace) H locs) {i : Int32} (hin : vp_in i 120) (hdg : decode cc pc = .ok (.baload, 1)) (kk : W p l e R s m args below meth c H locs 0 0 Q (F0 m (pc + 1) ls (.int (m_isMet i.toNatClampNeg) :: rest))) : W p l e R s m args below meth c H locs 0 0 Q (F0 m pc ls (.int i :: .ref (q 19) :: rest)) := va_zald F.1 F.2.1 E.1 J.1 19 2 rfl rfl hin hdg kk
theorem ms_19 {z : Int32} (F : CallFix p m c cc nL s args BIG own) (E : EV g A s) (J : VJ g A s.heap (MW g q m_thrown m_n m_robots m_viewed m_rules m_taped m_latest m_size m_at m_sort m_place m_end m_fault m_faultAt m_read m_crowds m_traced m_here m_hand m_view m_up m_down m_ruleSize m_ruleRow m_ruleDoes m_name m_goes m_tape m_readSize m_readRow m_readDoes m_own m_crowd m_isStep m_isOfGoal m_isMet m_most m_stands m_doesHere m_from m_trace) H locs) {i : Int32} (hin : vp_in i 120) (hdg : decode cc pc = .ok (.bastore, 1)) (kk : ∀ (H1 : Heap) (locs1 : List Loc), VJ g A s.heap (MW g q m_thrown m_n m_robots m_viewed m_rules m_taped m_latest m_size m_at m_sort m_place m_end m_fault m_faultAt m_read m_crowds m_traced m_here m_hand m_view m_up m_down m_ruleSize m_ruleRow m_ruleDoes m_name m_goes m_tape m_readSize m_readRow m_readDoes m_own m_crowd m_isStep m_isOfGoal (upd m_isMet i.toNatClampNeg (vp_nar .boolean z)) m_most m_stands m_doesHere m_from m_trace) H1 locs1 → W p l e R s m args below meth c H1 locs1 0 0 Q (F0 m (pc + 1) ls rest)) : W p l e R s m args below meth c H locs 0 0 Q (F0 m pc ls (.int z :: .int i :: .ref (q 19) :: rest)) := va_zast F.1 F.2.1 E.1 J.1 J.2.1 J.2.2 19 2 rfl rfl hin hdg (fun H1 locs1 h1 h2 h3 => kk H1 locs1 ⟨h1, h2, h3⟩)
theorem ml_20 (F : CallFix p m c cc nL s args BIG own) (E : EV g A s) (J : VJ g A s.heap (MW g q m_thrown m_n m_robots m_viewed m_rules m_taped m_latest m_size m_at m_sort m_place m_end m_fault m_faultAt m_read m_crowds m_traced m_here m_hand m_view m_up m_down m_ruleSize m_ruleRow m_ruleDoes m_name m_goes m_tape m_readSize m_readRow m_readDoes m_own m_crowd m_isStep m_isOfGoal m_isMet m_most m_stands m_doesHere m_from m_trace) H locs) {i : Int32} (hin : vp_in i 120) (hdg : decode cc pc = .ok (.iaload, 1)) (kk : W p l e R s m args below meth c H locs 0 0 Q (F0 m (pc + 1) ls (.int (m_most i.toNatClampNeg) :: rest))) : W p l e R s m args below meth c H locs 0 0 Q (F0 m pc ls (.int i :: .ref (q 20) :: rest)) := va_iald F.1 F.2.1 E.1 J.1 20 0 rfl rfl hin hdg kk
theorem ms_20 {z : Int32} (F : CallFix p m c cc nL s args BIG own) (E : EV g A s) (J : VJ g A s.heap (MW g q m_thrown m_n m_robots m_viewed m_rules m_taped m_latest m_size m_at m_sort m_place m_end m_fault m_faultAt m_read m_crowds m_traced m_here m_hand m_view m_up m_down m_ruleSize m_ruleRow m_ruleDoes m_name m_goes m_tape m_readSize m_readRow m_readDoes m_own m_crowd m_isStep m_isOfGoal m_isMet m_most m_stands m_doesHere m_from m_trace) H locs) {i : Int32} (hin : vp_in i 120) (hdg : decode cc pc = .ok (.iastore, 1)) (kk : ∀ (H1 : Heap) (locs1 : List Loc), VJ g A s.heap (MW g q m_thrown m_n m_robots m_viewed m_rules m_taped m_latest m_size m_at m_sort m_place m_end m_fault m_faultAt m_read m_crowds m_traced m_here m_hand m_view m_up m_down m_ruleSize m_ruleRow m_ruleDoes m_name m_goes m_tape m_readSize m_readRow m_readDoes m_own m_crowd m_isStep m_isOfGoal m_isMet (upd m_most i.toNatClampNeg z) m_stands m_doesHere m_from m_trace) H1 locs1 → W p l e R s m args below meth c H1 locs1 0 0 Q (F0 m (pc + 1) ls rest)) : W p l e R s m args below meth c H locs 0 0 Q (F0 m pc ls (.int z :: .int i :: .ref (q 20) :: rest)) := va_iast F.1 F.2.1 E.1 J.1 J.2.1 J.2.2 20 0 rfl rfl hin hdg (fun H1 locs1 h1 h2 h3 => kk H1 locs1 ⟨h1, h2, h3⟩)
theorem ml_21 (F : CallFix p m c cc nL s args BIG own) (E : EV g A s) (J : VJ g A s.heap (MW g q m_thrown m_n m_robots m_viewed m_rules m_taped m_latest m_size m_at m_sort m_place m_end m_fault m_faultAt m_read m_crowds m_traced m_here m_hand m_view m_up m_down m_ruleSize m_ruleRow m_ruleDoes m_name m_goes m_tape m_readSize m_readRow m_readDoes m_own m_crowd m_isStep m_isOfGoal m_isMet m_most m_stands m_doesHere m_from m_trace) H locs) {i : Int32} (hin : vp_in i 4) (hdg : decode cc pc = .ok (.iaload, 1)) (kk : W p l e R s m args below meth c H locs 0 0 Q (F0 m (pc + 1) ls (.int (m_stands i.toNatClampNeg) :: rest))) : W p l e R s m args below meth c H locs 0 0 Q (F0 m pc ls (.int i :: .ref (q 21) :: rest)) := va_iald F.1 F.2.1 E.1 J.1 21 0 rfl rfl hin hdg kk
theorem ms_21 {z : Int32} (F : CallFix p m c cc nL s args BIG own) (E : EV g A s) (J : VJ g A s.heap (MW g q m_thrown m_n m_robots m_viewed m_rules m_taped m_latest m_size m_at m_sort m_place m_end m_fault m_faultAt m_read m_crowds m_traced m_here m_hand m_view m_up m_down m_ruleSize m_ruleRow m_ruleDoes m_name m_goes m_tape m_readSize m_readRow m_readDoes m_own m_crowd m_isStep m_isOfGoal m_isMet m_most m_stands m_doesHere m_from m_trace) H locs) {i : Int32} (hin : vp_in i 4) (hdg : decode cc pc = .ok (.iastore, 1)) (kk : ∀ (H1 : Heap) (locs1 : List Loc), VJ g A s.heap (MW g q m_thrown m_n m_robots m_viewed m_rules m_taped m_latest m_size m_at m_sort m_place m_end m_fault m_faultAt m_read m_crowds m_traced m_here m_hand m_view m_up m_down m_ruleSize m_ruleRow m_ruleDoes m_name m_goes m_tape m_readSize m_readRow m_readDoes m_own m_crowd m_isStep m_isOfGoal m_isMet m_most (upd m_stands i.toNatClampNeg z) m_doesHere m_from m_trace) H1 locs1 → W p l e R s m args below meth c H1 locs1 0 0 Q (F0 m (pc + 1) ls rest)) : W p l e R s m args below meth c H locs 0 0 Q (F0 m pc ls (.int z :: .int i :: .ref (q 21) :: rest)) := va_iast F.1 F.2.1 E.1 J.1 J.2.1 J.2.2 21 0 rfl rfl hin hdg (fun H1 locs1 h1 h2 h3 => kk H1 locs1 ⟨h1, h2, h3⟩)
theorem ml_22 (F : CallFix p m c cc nL s args BIG own) (E : EV g A s) (J : VJ g A s.heap (MW g q m_thrown m_n m_robots m_viewed m_rules m_taped m_latest m_size m_at m_sort m_place m_end m_fault m_faultAt m_read m_crowds m_traced m_here m_hand m_view m_up m_down m_ruleSize m_ruleRow m_ruleDoes m_name m_goes m_tape m_readSize m_readRow m_readDoes m_own m_crowd m_isStep m_isOfGoal m_isMet m_most m_stands m_doesHere m_from m_trace) H locs) {i : Int32} (hin : vp_in i 4) (hdg : decode cc pc = .ok (.iaload, 1)) (kk : W p l e R s m args below meth c H locs 0 0 Q (F0 m (pc + 1) ls (.int (m_doesHere i.toNatClampNeg) :: rest))) : W p l e R s m args below meth c H locs 0 0 Q (F0 m pc ls (.int i :: .ref (q 22) :: rest)) := va_iald F.1 F.2.1 E.1 J.1 22 0 rfl rfl hin hdg kk
theorem ms_22 {z : Int32} (F : CallFix p m c cc nL s args BIG own) (E : EV g A s) (J : VJ g A s.heap (MW g q m_thrown m_n m_robots m_viewed m_rules m_taped m_latest m_size m_at m_sort m_place m_end m_fault m_faultAt m_read m_crowds m_traced m_here m_hand m_view m_up m_down m_ruleSize m_ruleRow m_ruleDoes m_name m_goes m_tape m_readSize m_readRow m_readDoes m_own m_crowd m_isStep m_isOfGoal m_isMet m_most m_stands m_doesHere m_from m_trace) H locs) {i : Int32} (hin : vp_in i 4) (hdg : decode cc pc = .ok (.iastore, 1)) (kk : ∀ (H1 : Heap) (locs1 : List Loc), VJ g A s.heap (MW g q m_thrown m_n m_robots m_viewed m_rules m_taped m_latest m_size m_at m_sort m_place m_end m_fault m_faultAt m_read m_crowds m_traced m_here m_hand m_view m_up m_down m_ruleSize m_ruleRow m_ruleDoes m_name m_goes m_tape m_readSize m_readRow m_readDoes m_own m_crowd m_isStep m_isOfGoal m_isMet m_most m_stands (upd m_doesHere i.toNatClampNeg z) m_from m_trace) H1 locs1 → W p l e R s m args below meth c H1 locs1 0 0 Q (F0 m (pc + 1) ls rest)) : W p l e R s m args below meth c H locs 0 0 Q (F0 m pc ls (.int z :: .int i :: .ref (q 22) :: rest)) := va_iast F.1 F.2.1 E.1 J.1 J.2.1 J.2.2 22 0 rfl rfl hin hdg (fun H1 locs1 h1 h2 h3 => kk H1 locs1 ⟨h1, h2, h3⟩)
theorem ml_23 (F : CallFix p m c cc nL s args BIG own) (E : EV g A s) (J : VJ g A s.heap (MW g q m_thrown m_n m_robots m_viewed m_rules m_taped m_latest m_size m_at m_sort m_place m_end m_fault m_faultAt m_read m_crowds m_traced m_here m_hand m_view m_up m_down m_ruleSize m_ruleRow m_ruleDoes m_name m_goes m_tape m_readSize m_readRow m_readDoes m_own m_crowd m_isStep m_isOfGoal m_isMet m_most m_stands m_doesHere m_from m_trace) H locs) {i : Int32} (hin : vp_in i 9) (hdg : decode cc pc = .ok (.iaload, 1)) (kk : W p l e R s m args below meth c H locs 0 0 Q (F0 m (pc + 1) ls (.int (m_from i.toNatClampNeg) :: rest))) : W p l e R s m args below meth c H locs 0 0 Q (F0 m pc ls (.int i :: .ref (q 23) :: rest)) := va_iald F.1 F.2.1 E.1 J.1 23 0 rfl rfl hin hdg kk
theorem ms_23 {z : Int32} (F : CallFix p m c cc nL s args BIG own) (E : EV g A s) (J : VJ g A s.heap (MW g q m_thrown m_n m_robots m_viewed m_rules m_taped m_latest m_size m_at m_sort m_place m_end m_fault m_faultAt m_read m_crowds m_traced m_here m_hand m_view m_up m_down m_ruleSize m_ruleRow m_ruleDoes m_name m_goes m_tape m_readSize m_readRow m_readDoes m_own m_crowd m_isStep m_isOfGoal m_isMet m_most m_stands m_doesHere m_from m_trace) H locs) {i : Int32} (hin : vp_in i 9) (hdg : decode cc pc = .ok (.iastore, 1)) (kk : ∀ (H1 : Heap) (locs1 : List Loc), VJ g A s.heap (MW g q m_thrown m_n m_robots m_viewed m_rules m_taped m_latest m_size m_at m_sort m_place m_end m_fault m_faultAt m_read m_crowds m_traced m_here m_hand m_view m_up m_down m_ruleSize m_ruleRow m_ruleDoes m_name m_goes m_tape m_readSize m_readRow m_readDoes m_own m_crowd m_isStep m_isOfGoal m_isMet m_most m_stands m_doesHere (upd m_from i.toNatClampNeg z) m_trace) H1 locs1 → W p l e R s m args below meth c H1 locs1 0 0 Q (F0 m (pc + 1) ls rest)) : W p l e R s m args below meth c H locs 0 0 Q (F0 m pc ls (.int z :: .int i :: .ref (q 23) :: rest)) := va_iast F.1 F.2.1 E.1 J.1 J.2.1 J.2.2 23 0 rfl rfl hin hdg (fun H1 locs1 h1 h2 h3 => kk H1 locs1 ⟨h1, h2, h3⟩)
theorem ml_24 (F : CallFix p m c cc nL s args BIG own) (E : EV g A s) (J : VJ g A s.heap (MW g q m_thrown m_n m_robots m_viewed m_rules m_taped m_latest m_size m_at m_sort m_place m_end m_fault m_faultAt m_read m_crowds m_traced m_here m_hand m_view m_up m_down m_ruleSize m_ruleRow m_ruleDoes m_name m_goes m_tape m_readSize m_readRow m_readDoes m_own m_crowd m_isStep m_isOfGoal m_isMet m_most m_stands m_doesHere m_from m_trace) H locs) {i : Int32} (hin : vp_in i 16) (hdg : decode cc pc = .ok (.iaload, 1)) (kk : W p l e R s m args below meth c H locs 0 0 Q (F0 m (pc + 1) ls (.int (m_trace i.toNatClampNeg) :: rest))) : W p l e R s m args below meth c H locs 0 0 Q (F0 m pc ls (.int i :: .ref (q 24) :: rest)) := va_iald F.1 F.2.1 E.1 J.1 24 0 rfl rfl hin hdg kk
theorem ms_24 {z : Int32} (F : CallFix p m c cc nL s args BIG own) (E : EV g A s) (J : VJ g A s.heap (MW g q m_thrown m_n m_robots m_viewed m_rules m_taped m_latest m_size m_at m_sort m_place m_end m_fault m_faultAt m_read m_crowds m_traced m_here m_hand m_view m_up m_down m_ruleSize m_ruleRow m_ruleDoes m_name m_goes m_tape m_readSize m_readRow m_readDoes m_own m_crowd m_isStep m_isOfGoal m_isMet m_most m_stands m_doesHere m_from m_trace) H locs) {i : Int32} (hin : vp_in i 16) (hdg : decode cc pc = .ok (.iastore, 1)) (kk : ∀ (H1 : Heap) (locs1 : List Loc), VJ g A s.heap (MW g q m_thrown m_n m_robots m_viewed m_rules m_taped m_latest m_size m_at m_sort m_place m_end m_fault m_faultAt m_read m_crowds m_traced m_here m_hand m_view m_up m_down m_ruleSize m_ruleRow m_ruleDoes m_name m_goes m_tape m_readSize m_readRow m_readDoes m_own m_crowd m_isStep m_isOfGoal m_isMet m_most m_stands m_doesHere m_from (upd m_trace i.toNatClampNeg z)) H1 locs1 → W p l e R s m args below meth c H1 locs1 0 0 Q (F0 m (pc + 1) ls rest)) : W p l e R s m args below meth c H locs 0 0 Q (F0 m pc ls (.int z :: .int i :: .ref (q 24) :: rest)) := va_iast F.1 F.2.1 E.1 J.1 J.2.1 J.2.2 24 0 rfl rfl hin hdg (fun H1 locs1 h1 h2 h3 => kk H1 locs1 ⟨h1, h2, h3⟩)
end MCELLS
end
section
def F_X3_manyAt (a0 : Int32) (a1 : Int32) (x_places : Int32) : Option (Int32) :=
  some ((jushr a0 (3 * ((x_places - 1) - a1))) &&& 7)
def rm_X3_manyAt : Room := { frames := 0, cells := 0, slots := 0, locals := 0 }
set_option maxHeartbeats 4000000 in
set_option maxRecDepth 100000 in
theorem c_X3_manyAt {l : Launch} {g : GG} {q : Nat → Nat} {A : Nat → Prop} {x_crowd x_latestFault x_places x_mask x_w_robots x_w_size x_w_nexts x_a_length x_t_length x_t_token x_t_from x_t_value x_t_behind x_r_wants x_r_pairs x_r_sees : Int32} {x_r_row : Int64} {x_b_size x_s_size : Int32} {x_w_names : Nat → Int32} {x_w_goals x_w_links : Nat → Int64} {x_w_linked x_w_ups x_w_downs x_w_next x_a_begun x_t_bytes : Nat → Int32} {x_b_rows : Nat → Int64} {x_b_acts : Nat → Int32} {x_s_rows : Nat → Int64} {x_s_acts : Nat → Int32} (a0 : Int32) (a1 : Int32) (res : Int32) (h : F_X3_manyAt a0 a1 x_places = some res) : Met l yX3_manyAt (wS yX3_manyAt cX3_manyAt 3 (some .int)) rm_X3_manyAt (va_Pc [.ref (q 1), .int a0, .int a1] (VB g A (XW g q x_crowd x_latestFault x_places x_mask x_w_robots x_w_size x_w_nexts x_a_length x_t_length x_t_token x_t_from x_t_value x_t_behind x_r_wants x_r_pairs x_r_sees x_r_row x_b_size x_s_size x_w_names x_w_goals x_w_links x_w_linked x_w_ups x_w_downs x_w_next x_a_begun x_t_bytes x_b_rows x_b_acts x_s_rows x_s_acts))) (va_Qi (fun r (_ : Unit) => r = res) (fun _ => VB g A (XW g q x_crowd x_latestFault x_places x_mask x_w_robots x_w_size x_w_nexts x_a_length x_t_length x_t_token x_t_from x_t_value x_t_behind x_r_wants x_r_pairs x_r_sees x_r_row x_b_size x_s_size x_w_names x_w_goals x_w_links x_w_linked x_w_ups x_w_downs x_w_next x_a_begun x_t_bytes x_b_rows x_b_acts x_s_rows x_s_acts)) A) 0 0 A := by
  unfold F_X3_manyAt at h
  refine MetI (res := res) (own := RX3) (ws' := (XW g q x_crowd x_latestFault x_places x_mask x_w_robots x_w_size x_w_nexts x_a_length x_t_length x_t_token x_t_from x_t_value x_t_behind x_r_wants x_r_pairs x_r_sees x_r_row x_b_size x_s_size x_w_names x_w_goals x_w_links x_w_linked x_w_ups x_w_downs x_w_next x_a_begun x_t_bytes x_b_rows x_b_acts x_s_rows x_s_acts)) (by decide) rfl (Nat.le_of_ble_eq_true rfl) ?_
  intro p e s m args below meth c Q F E ret ls J hl
  have hx := F.1
  have hb := F.2.1
  have hl : lv_has ls 3 [(0, .ref (q 1)), (1, .int a0), (2, .int a1)] := hl
  refine lv_iload_n hx hb dX3_manyAt_0 rfl (lv_at hl 1 rfl) ?_
  refine lv_iconst (v := 3) hx hb dX3_manyAt_1 (by decide) ?_
  refine lv_aload_n hx hb dX3_manyAt_2 rfl (lv_at hl 0 rfl) ?_
  refine xg_1_0 F E J fl_X3_9 dX3_manyAt_3 ?_
  refine lv_iconst (v := 1) hx hb dX3_manyAt_6 (by decide) ?_
  refine lv_isub hx hb dX3_manyAt_7 ?_
  refine lv_iload_n hx hb dX3_manyAt_8 rfl (lv_at hl 2 rfl) ?_
  refine lv_isub hx hb dX3_manyAt_9 ?_
  refine lv_imul hx hb dX3_manyAt_10 ?_
  refine lv_iushr (v := (jushr a0 (3 * ((x_places - 1) - a1)))) hx hb dX3_manyAt_11 rfl ?_
  refine lv_bipush (v := 7) hx hb dX3_manyAt_12 (by decide) ?_
  refine lv_iand hx hb dX3_manyAt_14 ?_
  obtain rfl := Option.some.inj h
  exact ret _ _ _ _ J dX3_manyAt_15
def F_X3_robotsIn_L1 (l1_L1 : Int32) (x_places_L1 : Int32) : Nat → Int32 → Int32 →  Option (Int32)
  | 0, _, _ => none
  | f+1, l2_L1, l3_L1 =>
    (if x_places_L1 ≤ l3_L1 then some l2_L1 else Option.bind (F_X3_manyAt l1_L1 l3_L1 x_places_L1) fun p3 => Option.bind (some (l2_L1 + p3)) fun v4 => Option.bind (some (l3_L1 + 1)) fun v5 => F_X3_robotsIn_L1 l1_L1 x_places_L1 f v4 v5)
def F_X3_robotsIn (a0 : Int32) (x_places : Int32) : Option (Int32) :=
  Option.bind (F_X3_robotsIn_L1 a0 x_places FU 0 0) fun o_L1 => some o_L1
def rm_X3_robotsIn : Room := { frames := 1, cells := 0, slots := 0, locals := 22 }
set_option maxHeartbeats 4000000 in
set_option maxRecDepth 100000 in
theorem c_X3_robotsIn {l : Launch} {g : GG} {q : Nat → Nat} {A : Nat → Prop} {x_crowd x_latestFault x_places x_mask x_w_robots x_w_size x_w_nexts x_a_length x_t_length x_t_token x_t_from x_t_value x_t_behind x_r_wants x_r_pairs x_r_sees : Int32} {x_r_row : Int64} {x_b_size x_s_size : Int32} {x_w_names : Nat → Int32} {x_w_goals x_w_links : Nat → Int64} {x_w_linked x_w_ups x_w_downs x_w_next x_a_begun x_t_bytes : Nat → Int32} {x_b_rows : Nat → Int64} {x_b_acts : Nat → Int32} {x_s_rows : Nat → Int64} {x_s_acts : Nat → Int32} (a0 : Int32) (res : Int32) (h : F_X3_robotsIn a0 x_places = some res) : Met l yX3_robotsIn (wS yX3_robotsIn cX3_robotsIn 4 (some .int)) rm_X3_robotsIn (va_Pc [.ref (q 1), .int a0] (VB g A (XW g q x_crowd x_latestFault x_places x_mask x_w_robots x_w_size x_w_nexts x_a_length x_t_length x_t_token x_t_from x_t_value x_t_behind x_r_wants x_r_pairs x_r_sees x_r_row x_b_size x_s_size x_w_names x_w_goals x_w_links x_w_linked x_w_ups x_w_downs x_w_next x_a_begun x_t_bytes x_b_rows x_b_acts x_s_rows x_s_acts))) (va_Qi (fun r (_ : Unit) => r = res) (fun _ => VB g A (XW g q x_crowd x_latestFault x_places x_mask x_w_robots x_w_size x_w_nexts x_a_length x_t_length x_t_token x_t_from x_t_value x_t_behind x_r_wants x_r_pairs x_r_sees x_r_row x_b_size x_s_size x_w_names x_w_goals x_w_links x_w_linked x_w_ups x_w_downs x_w_next x_a_begun x_t_bytes x_b_rows x_b_acts x_s_rows x_s_acts)) A) 0 0 A := by
  unfold F_X3_robotsIn at h
  refine MetI (res := res) (own := RX3) (ws' := (XW g q x_crowd x_latestFault x_places x_mask x_w_robots x_w_size x_w_nexts x_a_length x_t_length x_t_token x_t_from x_t_value x_t_behind x_r_wants x_r_pairs x_r_sees x_r_row x_b_size x_s_size x_w_names x_w_goals x_w_links x_w_linked x_w_ups x_w_downs x_w_next x_a_begun x_t_bytes x_b_rows x_b_acts x_s_rows x_s_acts)) (by decide) rfl (Nat.le_of_ble_eq_true rfl) ?_
  intro p e s m args below meth c Q F E ret ls J hl
  have hx := F.1
  have hb := F.2.1
  have hl : lv_has ls 4 [(0, .ref (q 1)), (1, .int a0)] := hl
  refine lv_iconst (v := 0) hx hb dX3_robotsIn_0 (by decide) ?_
  refine lv_istore_n (lv' := [(2, .int 0), (0, .ref (q 1)), (1, .int a0)]) hx hb dX3_robotsIn_1 rfl hl (by decide) rfl (fun ls hl => ?_)
  refine lv_iconst (v := 0) hx hb dX3_robotsIn_2 (by decide) ?_
  refine lv_istore_n (lv' := [(3, .int 0), (2, .int 0), (0, .ref (q 1)), (1, .int a0)]) hx hb dX3_robotsIn_3 rfl hl (by decide) rfl (fun ls hl => ?_)
  obtain ⟨o_L1, ho_L1, h⟩ := ob h
  have T_L1 : ∀ (f : Nat) (l2_L1 : Int32) (l3_L1 : Int32) (o_L1 : Int32), F_X3_robotsIn_L1 a0 x_places f l2_L1 l3_L1 = some o_L1 → ∀ (H : Heap) (locs : List Loc) (ls : Array Slot), VJ g A s.heap (XW g q x_crowd x_latestFault x_places x_mask x_w_robots x_w_size x_w_nexts x_a_length x_t_length x_t_token x_t_from x_t_value x_t_behind x_r_wants x_r_pairs x_r_sees x_r_row x_b_size x_s_size x_w_names x_w_goals x_w_links x_w_linked x_w_ups x_w_downs x_w_next x_a_begun x_t_bytes x_b_rows x_b_acts x_s_rows x_s_acts) H locs → lv_has ls 4 [(0, .ref (q 1)), (1, .int a0), (2, .int l2_L1), (3, .int l3_L1)] → (∀ (H : Heap) (locs : List Loc) (ls : Array Slot), VJ g A s.heap (XW g q x_crowd x_latestFault x_places x_mask x_w_robots x_w_size x_w_nexts x_a_length x_t_length x_t_token x_t_from x_t_value x_t_behind x_r_wants x_r_pairs x_r_sees x_r_row x_b_size x_s_size x_w_names x_w_goals x_w_links x_w_linked x_w_ups x_w_downs x_w_next x_a_begun x_t_bytes x_b_rows x_b_acts x_s_rows x_s_acts) H locs → lv_has ls 4 [(2, .int o_L1)] → W p l e rm_X3_robotsIn s m args below meth c H locs 0 0 Q (F0 m 27 ls [])) → W p l e rm_X3_robotsIn s m args below meth c H locs 0 0 Q (F0 m 4 ls []) := by
    clear h ho_L1 hl J
    intro f
    induction f with
    | zero => intro l2_L1 l3_L1 o_L1 h; exact absurd h (by simp [F_X3_robotsIn_L1])
    | succ f ih =>
      intro l2_L1 l3_L1 o_L1 h H locs ls J hl K_L1
      rw [F_X3_robotsIn_L1.eq_2] at h
      refine lv_iload_n hx hb dX3_robotsIn_4 rfl (lv_at hl 3 rfl) ?_
      refine lv_aload_n hx hb dX3_robotsIn_5 rfl (lv_at hl 0 rfl) ?_
      refine xg_1_0 F E J fl_X3_9 dX3_robotsIn_6 ?_
      refine lv_icmp_ge (tgt := 27) hx hb dX3_robotsIn_9 (by decide) (fun c2 => ?_) (fun c2 => ?_)
      · have h := itp c2 h
        obtain rfl := Option.some.inj h
        exact K_L1 _ _ _ J (lv_sub hl [2] rfl)
      · have h := itn c2 h
        refine lv_iload_n hx hb dX3_robotsIn_12 rfl (lv_at hl 2 rfl) ?_
        refine lv_aload_n hx hb dX3_robotsIn_13 rfl (lv_at hl 0 rfl) ?_
        refine lv_iload_n hx hb dX3_robotsIn_14 rfl (lv_at hl 1 rfl) ?_
        refine lv_iload_n hx hb dX3_robotsIn_15 rfl (lv_at hl 3 rfl) ?_
        obtain ⟨p3, hp3, h⟩ := ob h
        refine onI (runV (As := [.int a0, .int l3_L1]) (rest := [.int l2_L1]) F E J (c_X3_manyAt a0 l3_L1 p3 hp3) cw_X3_26 ⟨rfl, rfl, Nat.le_of_ble_eq_true rfl, Nat.le_of_ble_eq_true rfl⟩ rcX1 rfl hl.1 rfl (Nat.le_of_ble_eq_true rfl) dX3_robotsIn_16) J (fun H locs J => ?_)
        refine lv_iadd hx hb dX3_robotsIn_19 ?_
        obtain ⟨v4, hv4, h⟩ := obs h
        refine nmI hv4 ?_
        refine lv_istore_n (lv' := [(2, .int v4), (0, .ref (q 1)), (1, .int a0), (3, .int l3_L1)]) hx hb dX3_robotsIn_20 rfl hl (by decide) rfl (fun ls hl => ?_)
        obtain ⟨v5, hv5, h⟩ := obs h
        refine lv_iinc (v := v5) (lv' := [(3, .int v5), (2, .int v4), (0, .ref (q 1)), (1, .int a0)]) hx hb dX3_robotsIn_21 hl (k := 3) rfl (by rw [← hv5]; rfl) (by decide) rfl (fun ls hl => ?_)
        refine lv_goto (tgt := 4) hx hb dX3_robotsIn_24 (by decide) ?_
        exact ih _ _ _ h _ _ _ J (lv_sub hl [2, 3, 1, 0] rfl) K_L1
  refine T_L1 FU 0 0 o_L1 ho_L1 _ _ _ J (lv_sub hl [2, 3, 1, 0] rfl) (fun H locs ls J hl => ?_)
  refine lv_iload_n hx hb dX3_robotsIn_27 rfl (lv_at hl 0 rfl) ?_
  obtain rfl := Option.some.inj h
  exact ret _ _ _ _ J dX3_robotsIn_28
def F_X8_take_L1 (m_here_L1 : Nat → Int32) : Nat → Int32 → (Nat → Int32) →  Option (Nat → Int32)
  | 0, _, _ => none
  | f+1, l1_L1, m_hand_L1 =>
    (if 9 ≤ l1_L1 then some m_hand_L1 else gd (inb l1_L1 9) (Option.bind (some (m_here_L1 (Int32.toNatClampNeg l1_L1))) fun v3 => gd (inb l1_L1 9) (Option.bind (some (l1_L1 + 1)) fun v4 => F_X8_take_L1 m_here_L1 f v4 (upd m_hand_L1 (Int32.toNatClampNeg l1_L1) v3))))
def F_X8_take (m_here : Nat → Int32) (m_hand : Nat → Int32) : Option (Nat → Int32) :=
  Option.bind (F_X8_take_L1 m_here FU 0 m_hand) fun o_L1 => some o_L1
def rm_X8_take : Room := { frames := 0, cells := 0, slots := 0, locals := 0 }
set_option maxHeartbeats 4000000 in
set_option maxRecDepth 100000 in
theorem c_X8_take {l : Launch} {g : GG} {q : Nat → Nat} {A : Nat → Prop} {m_thrown m_n m_robots m_viewed m_rules m_taped m_latest m_size m_at m_sort m_place m_end m_fault m_faultAt m_read m_crowds m_traced : Int32} {m_here m_hand m_view m_up m_down m_ruleSize m_ruleRow m_ruleDoes m_name m_goes m_tape m_readSize m_readRow m_readDoes m_own m_crowd m_isStep m_isOfGoal m_isMet m_most m_stands m_doesHere m_from m_trace : Nat → Int32} (res : Nat → Int32) (h : F_X8_take m_here m_hand = some res) : Met l yX8_take (wS yX8_take cX8_take 2 none) rm_X8_take (va_Pc [.ref (q 0)] (VB g A (MW g q m_thrown m_n m_robots m_viewed m_rules m_taped m_latest m_size m_at m_sort m_place m_end m_fault m_faultAt m_read m_crowds m_traced m_here m_hand m_view m_up m_down m_ruleSize m_ruleRow m_ruleDoes m_name m_goes m_tape m_readSize m_readRow m_readDoes m_own m_crowd m_isStep m_isOfGoal m_isMet m_most m_stands m_doesHere m_from m_trace))) (va_Qv (fun (_ : Unit) => True) (fun _ => VB g A (MW g q m_thrown m_n m_robots m_viewed m_rules m_taped m_latest m_size m_at m_sort m_place m_end m_fault m_faultAt m_read m_crowds m_traced m_here res m_view m_up m_down m_ruleSize m_ruleRow m_ruleDoes m_name m_goes m_tape m_readSize m_readRow m_readDoes m_own m_crowd m_isStep m_isOfGoal m_isMet m_most m_stands m_doesHere m_from m_trace)) A) 0 0 A := by
  unfold F_X8_take at h
  refine MetV (own := RX8) (ws' := (MW g q m_thrown m_n m_robots m_viewed m_rules m_taped m_latest m_size m_at m_sort m_place m_end m_fault m_faultAt m_read m_crowds m_traced m_here res m_view m_up m_down m_ruleSize m_ruleRow m_ruleDoes m_name m_goes m_tape m_readSize m_readRow m_readDoes m_own m_crowd m_isStep m_isOfGoal m_isMet m_most m_stands m_doesHere m_from m_trace)) (by decide) rfl (Nat.le_of_ble_eq_true rfl) ?_
  intro p e s m args below meth c Q F E ret ls J hl
  have hx := F.1
  have hb := F.2.1
  have hl : lv_has ls 2 [(0, .ref (q 0))] := hl
  refine lv_iconst (v := 0) hx hb dX8_take_0 (by decide) ?_
  refine lv_istore_n (lv' := [(1, .int 0), (0, .ref (q 0))]) hx hb dX8_take_1 rfl hl (by decide) rfl (fun ls hl => ?_)
  obtain ⟨o_L1, ho_L1, h⟩ := ob h
  have T_L1 : ∀ (f : Nat) (l1_L1 : Int32) (m_hand_L1 : Nat → Int32) (o_L1 : Nat → Int32), F_X8_take_L1 m_here f l1_L1 m_hand_L1 = some o_L1 → ∀ (H : Heap) (locs : List Loc) (ls : Array Slot), VJ g A s.heap (MW g q m_thrown m_n m_robots m_viewed m_rules m_taped m_latest m_size m_at m_sort m_place m_end m_fault m_faultAt m_read m_crowds m_traced m_here m_hand_L1 m_view m_up m_down m_ruleSize m_ruleRow m_ruleDoes m_name m_goes m_tape m_readSize m_readRow m_readDoes m_own m_crowd m_isStep m_isOfGoal m_isMet m_most m_stands m_doesHere m_from m_trace) H locs → lv_has ls 2 [(0, .ref (q 0)), (1, .int l1_L1)] → (∀ (H : Heap) (locs : List Loc) (ls : Array Slot), VJ g A s.heap (MW g q m_thrown m_n m_robots m_viewed m_rules m_taped m_latest m_size m_at m_sort m_place m_end m_fault m_faultAt m_read m_crowds m_traced m_here o_L1 m_view m_up m_down m_ruleSize m_ruleRow m_ruleDoes m_name m_goes m_tape m_readSize m_readRow m_readDoes m_own m_crowd m_isStep m_isOfGoal m_isMet m_most m_stands m_doesHere m_from m_trace) H locs → lv_has ls 2 [] → W p l e rm_X8_take s m args below meth c H locs 0 0 Q (F0 m 26 ls [])) → W p l e rm_X8_take s m args below meth c H locs 0 0 Q (F0 m 2 ls []) := by
    clear h ho_L1 hl J
    intro f
    induction f with
    | zero => intro l1_L1 m_hand_L1 o_L1 h; exact absurd h (by simp [F_X8_take_L1])
    | succ f ih =>
      intro l1_L1 m_hand_L1 o_L1 h H locs ls J hl K_L1
      rw [F_X8_take_L1.eq_2] at h
      refine lv_iload_n hx hb dX8_take_2 rfl (lv_at hl 1 rfl) ?_
      refine lv_bipush (v := 9) hx hb dX8_take_3 (by decide) ?_
      refine lv_icmp_ge (tgt := 26) hx hb dX8_take_5 (by decide) (fun c2 => ?_) (fun c2 => ?_)
      · have h := itp c2 h
        obtain rfl := Option.some.inj h
        exact K_L1 _ _ _ J (lv_sub hl [] rfl)
      · have h := itn c2 h
        refine lv_aload_n hx hb dX8_take_8 rfl (lv_at hl 0 rfl) ?_
        refine mg_0_4 F E J fl_X8_17 dX8_take_9 ?_
        refine lv_iload_n hx hb dX8_take_12 rfl (lv_at hl 1 rfl) ?_
        refine lv_aload_n hx hb dX8_take_13 rfl (lv_at hl 0 rfl) ?_
        refine mg_0_3 F E J fl_X8_13 dX8_take_14 ?_
        refine lv_iload_n hx hb dX8_take_17 rfl (lv_at hl 1 rfl) ?_
        obtain ⟨hi, h⟩ := gdt h
        refine ml_1 F E J (inbt hi) dX8_take_18 ?_
        obtain ⟨v3, hv3, h⟩ := obs h
        refine nmI hv3 ?_
        obtain ⟨hi, h⟩ := gdt h
        refine ms_2 F E J (inbt hi) dX8_take_19 (fun H locs J => ?_)
        obtain ⟨v4, hv4, h⟩ := obs h
        refine lv_iinc (v := v4) (lv' := [(1, .int v4), (0, .ref (q 0))]) hx hb dX8_take_20 hl (k := 1) rfl (by rw [← hv4]; rfl) (by decide) rfl (fun ls hl => ?_)
        refine lv_goto (tgt := 2) hx hb dX8_take_23 (by decide) ?_
        exact ih _ _ _ h _ _ _ J (lv_sub hl [1, 0] rfl) K_L1
  refine T_L1 FU 0 m_hand o_L1 ho_L1 _ _ _ J (lv_sub hl [1, 0] rfl) (fun H locs ls J hl => ?_)
  obtain rfl := Option.some.inj h
  exact ret _ _ _ _ J dX8_take_26
def F_X3_beside (a0 : Int32) (a1 : Int32) (x_places : Int32) : Option (Int32) :=
  Option.bind (some (a0 + a1)) fun v1 => (if v1 < x_places then (if 0 ≤ v1 then some v1 else some (x_places - 1)) else some 0)
def rm_X3_beside : Room := { frames := 0, cells := 0, slots := 0, locals := 0 }
set_option maxHeartbeats 4000000 in
set_option maxRecDepth 100000 in
theorem c_X3_beside {l : Launch} {g : GG} {q : Nat → Nat} {A : Nat → Prop} {x_crowd x_latestFault x_places x_mask x_w_robots x_w_size x_w_nexts x_a_length x_t_length x_t_token x_t_from x_t_value x_t_behind x_r_wants x_r_pairs x_r_sees : Int32} {x_r_row : Int64} {x_b_size x_s_size : Int32} {x_w_names : Nat → Int32} {x_w_goals x_w_links : Nat → Int64} {x_w_linked x_w_ups x_w_downs x_w_next x_a_begun x_t_bytes : Nat → Int32} {x_b_rows : Nat → Int64} {x_b_acts : Nat → Int32} {x_s_rows : Nat → Int64} {x_s_acts : Nat → Int32} (a0 : Int32) (a1 : Int32) (res : Int32) (h : F_X3_beside a0 a1 x_places = some res) : Met l yX3_beside (wS yX3_beside cX3_beside 4 (some .int)) rm_X3_beside (va_Pc [.ref (q 1), .int a0, .int a1] (VB g A (XW g q x_crowd x_latestFault x_places x_mask x_w_robots x_w_size x_w_nexts x_a_length x_t_length x_t_token x_t_from x_t_value x_t_behind x_r_wants x_r_pairs x_r_sees x_r_row x_b_size x_s_size x_w_names x_w_goals x_w_links x_w_linked x_w_ups x_w_downs x_w_next x_a_begun x_t_bytes x_b_rows x_b_acts x_s_rows x_s_acts))) (va_Qi (fun r (_ : Unit) => r = res) (fun _ => VB g A (XW g q x_crowd x_latestFault x_places x_mask x_w_robots x_w_size x_w_nexts x_a_length x_t_length x_t_token x_t_from x_t_value x_t_behind x_r_wants x_r_pairs x_r_sees x_r_row x_b_size x_s_size x_w_names x_w_goals x_w_links x_w_linked x_w_ups x_w_downs x_w_next x_a_begun x_t_bytes x_b_rows x_b_acts x_s_rows x_s_acts)) A) 0 0 A := by
  unfold F_X3_beside at h
  refine MetI (res := res) (own := RX3) (ws' := (XW g q x_crowd x_latestFault x_places x_mask x_w_robots x_w_size x_w_nexts x_a_length x_t_length x_t_token x_t_from x_t_value x_t_behind x_r_wants x_r_pairs x_r_sees x_r_row x_b_size x_s_size x_w_names x_w_goals x_w_links x_w_linked x_w_ups x_w_downs x_w_next x_a_begun x_t_bytes x_b_rows x_b_acts x_s_rows x_s_acts)) (by decide) rfl (Nat.le_of_ble_eq_true rfl) ?_
  intro p e s m args below meth c Q F E ret ls J hl
  have hx := F.1
  have hb := F.2.1
  have hl : lv_has ls 4 [(0, .ref (q 1)), (1, .int a0), (2, .int a1)] := hl
  refine lv_iload_n hx hb dX3_beside_0 rfl (lv_at hl 1 rfl) ?_
  refine lv_iload_n hx hb dX3_beside_1 rfl (lv_at hl 2 rfl) ?_
  refine lv_iadd hx hb dX3_beside_2 ?_
  obtain ⟨v1, hv1, h⟩ := obs h
  refine nmI hv1 ?_
  refine lv_istore_n (lv' := [(3, .int v1), (0, .ref (q 1)), (1, .int a0), (2, .int a1)]) hx hb dX3_beside_3 rfl hl (by decide) rfl (fun ls hl => ?_)
  refine lv_iload_n hx hb dX3_beside_4 rfl (lv_at hl 0 rfl) ?_
  refine lv_aload_n hx hb dX3_beside_5 rfl (lv_at hl 1 rfl) ?_
  refine xg_1_0 F E J fl_X3_9 dX3_beside_6 ?_
  refine lv_icmp_lt (tgt := 14) hx hb dX3_beside_9 (by decide) (fun c2 => ?_) (fun c2 => ?_)
  · have h := itp c2 h
    refine lv_iload_n hx hb dX3_beside_14 rfl (lv_at hl 0 rfl) ?_
    refine lv_if_ge (tgt := 27) hx hb dX3_beside_15 (by decide) (fun c3 => ?_) (fun c3 => ?_)
    · have h := itp c3 h
      refine lv_iload_n hx hb dX3_beside_27 rfl (lv_at hl 0 rfl) ?_
      obtain rfl := Option.some.inj h
      exact ret _ _ _ _ J dX3_beside_28
    · have h := itn c3 h
      refine lv_aload_n hx hb dX3_beside_18 rfl (lv_at hl 1 rfl) ?_
      refine xg_1_0 F E J fl_X3_9 dX3_beside_19 ?_
      refine lv_iconst (v := 1) hx hb dX3_beside_22 (by decide) ?_
      refine lv_isub hx hb dX3_beside_23 ?_
      refine lv_goto (tgt := 28) hx hb dX3_beside_24 (by decide) ?_
      obtain rfl := Option.some.inj h
      exact ret _ _ _ _ J dX3_beside_28
  · have h := itn c2 h
    refine lv_iconst (v := 0) hx hb dX3_beside_12 (by decide) ?_
    obtain rfl := Option.some.inj h
    exact ret _ _ _ _ J dX3_beside_13
def F_X3_gapAbove_L1 (l1_L1 : Int32) (x_places_L1 : Int32) : Nat → Int32 → Int32 →  Option (Sum (Int32) (Unit))
  | 0, _, _ => none
  | f+1, l3_L1, l4_L1 =>
    (if x_places_L1 ≤ l4_L1 then some (.inr ()) else Option.bind (F_X3_beside l3_L1 1 x_places_L1) fun p3 => Option.bind (F_X3_manyAt l1_L1 p3 x_places_L1) fun p4 => (if p4 ≤ 0 then Option.bind (some (l4_L1 + 1)) fun v6 => F_X3_gapAbove_L1 l1_L1 x_places_L1 f p3 v6 else some (.inl l4_L1)))
def F_X3_gapAbove (a0 : Int32) (a1 : Int32) (x_places : Int32) : Option (Int32) :=
  Option.bind (F_X3_gapAbove_L1 a0 x_places FU a1 1) fun o_L1s => Sum.elim (fun x => some x) (fun o_L1 => some x_places) o_L1s
def rm_X3_gapAbove : Room := { frames := 1, cells := 0, slots := 0, locals := 23 }
set_option maxHeartbeats 4000000 in
set_option maxRecDepth 100000 in
theorem c_X3_gapAbove {l : Launch} {g : GG} {q : Nat → Nat} {A : Nat → Prop} {x_crowd x_latestFault x_places x_mask x_w_robots x_w_size x_w_nexts x_a_length x_t_length x_t_token x_t_from x_t_value x_t_behind x_r_wants x_r_pairs x_r_sees : Int32} {x_r_row : Int64} {x_b_size x_s_size : Int32} {x_w_names : Nat → Int32} {x_w_goals x_w_links : Nat → Int64} {x_w_linked x_w_ups x_w_downs x_w_next x_a_begun x_t_bytes : Nat → Int32} {x_b_rows : Nat → Int64} {x_b_acts : Nat → Int32} {x_s_rows : Nat → Int64} {x_s_acts : Nat → Int32} (a0 : Int32) (a1 : Int32) (res : Int32) (h : F_X3_gapAbove a0 a1 x_places = some res) : Met l yX3_gapAbove (wS yX3_gapAbove cX3_gapAbove 5 (some .int)) rm_X3_gapAbove (va_Pc [.ref (q 1), .int a0, .int a1] (VB g A (XW g q x_crowd x_latestFault x_places x_mask x_w_robots x_w_size x_w_nexts x_a_length x_t_length x_t_token x_t_from x_t_value x_t_behind x_r_wants x_r_pairs x_r_sees x_r_row x_b_size x_s_size x_w_names x_w_goals x_w_links x_w_linked x_w_ups x_w_downs x_w_next x_a_begun x_t_bytes x_b_rows x_b_acts x_s_rows x_s_acts))) (va_Qi (fun r (_ : Unit) => r = res) (fun _ => VB g A (XW g q x_crowd x_latestFault x_places x_mask x_w_robots x_w_size x_w_nexts x_a_length x_t_length x_t_token x_t_from x_t_value x_t_behind x_r_wants x_r_pairs x_r_sees x_r_row x_b_size x_s_size x_w_names x_w_goals x_w_links x_w_linked x_w_ups x_w_downs x_w_next x_a_begun x_t_bytes x_b_rows x_b_acts x_s_rows x_s_acts)) A) 0 0 A := by
  unfold F_X3_gapAbove at h
  refine MetI (res := res) (own := RX3) (ws' := (XW g q x_crowd x_latestFault x_places x_mask x_w_robots x_w_size x_w_nexts x_a_length x_t_length x_t_token x_t_from x_t_value x_t_behind x_r_wants x_r_pairs x_r_sees x_r_row x_b_size x_s_size x_w_names x_w_goals x_w_links x_w_linked x_w_ups x_w_downs x_w_next x_a_begun x_t_bytes x_b_rows x_b_acts x_s_rows x_s_acts)) (by decide) rfl (Nat.le_of_ble_eq_true rfl) ?_
  intro p e s m args below meth c Q F E ret ls J hl
  have hx := F.1
  have hb := F.2.1
  have hl : lv_has ls 5 [(0, .ref (q 1)), (1, .int a0), (2, .int a1)] := hl
  refine lv_iload_n hx hb dX3_gapAbove_0 rfl (lv_at hl 2 rfl) ?_
  refine lv_istore_n (lv' := [(3, .int a1), (0, .ref (q 1)), (1, .int a0), (2, .int a1)]) hx hb dX3_gapAbove_1 rfl hl (by decide) rfl (fun ls hl => ?_)
  refine lv_iconst (v := 1) hx hb dX3_gapAbove_2 (by decide) ?_
  refine lv_istore (lv' := [(4, .int 1), (3, .int a1), (0, .ref (q 1)), (1, .int a0), (2, .int a1)]) hx hb dX3_gapAbove_3 hl (by decide) rfl (fun ls hl => ?_)
  obtain ⟨o_L1s, ho_L1, h⟩ := ob h
  have T_L1 : ∀ (f : Nat) (l3_L1 : Int32) (l4_L1 : Int32) (o_L1s : Sum (Int32) (Unit)), F_X3_gapAbove_L1 a0 x_places f l3_L1 l4_L1 = some o_L1s → ∀ (H : Heap) (locs : List Loc) (ls : Array Slot), VJ g A s.heap (XW g q x_crowd x_latestFault x_places x_mask x_w_robots x_w_size x_w_nexts x_a_length x_t_length x_t_token x_t_from x_t_value x_t_behind x_r_wants x_r_pairs x_r_sees x_r_row x_b_size x_s_size x_w_names x_w_goals x_w_links x_w_linked x_w_ups x_w_downs x_w_next x_a_begun x_t_bytes x_b_rows x_b_acts x_s_rows x_s_acts) H locs → lv_has ls 5 [(0, .ref (q 1)), (1, .int a0), (3, .int l3_L1), (4, .int l4_L1)] → (∀ (o_L1 : Unit), o_L1s = .inr o_L1 → ∀ (H : Heap) (locs : List Loc) (ls : Array Slot), VJ g A s.heap (XW g q x_crowd x_latestFault x_places x_mask x_w_robots x_w_size x_w_nexts x_a_length x_t_length x_t_token x_t_from x_t_value x_t_behind x_r_wants x_r_pairs x_r_sees x_r_row x_b_size x_s_size x_w_names x_w_goals x_w_links x_w_linked x_w_ups x_w_downs x_w_next x_a_begun x_t_bytes x_b_rows x_b_acts x_s_rows x_s_acts) H locs → lv_has ls 5 [(0, .ref (q 1))] → W p l e rm_X3_gapAbove s m args below meth c H locs 0 0 Q (F0 m 39 ls [])) → (∀ x, o_L1s = .inl x → x = res) → W p l e rm_X3_gapAbove s m args below meth c H locs 0 0 Q (F0 m 5 ls []) := by
    clear h ho_L1 hl J
    intro f
    induction f with
    | zero => intro l3_L1 l4_L1 o_L1s h; exact absurd h (by simp [F_X3_gapAbove_L1])
    | succ f ih =>
      intro l3_L1 l4_L1 o_L1s h H locs ls J hl K_L1 kr_L1
      rw [F_X3_gapAbove_L1.eq_2] at h
      refine lv_iload hx hb dX3_gapAbove_5 (lv_at hl 3 rfl) ?_
      refine lv_aload_n hx hb dX3_gapAbove_7 rfl (lv_at hl 0 rfl) ?_
      refine xg_1_0 F E J fl_X3_9 dX3_gapAbove_8 ?_
      refine lv_icmp_ge (tgt := 39) hx hb dX3_gapAbove_11 (by decide) (fun c2 => ?_) (fun c2 => ?_)
      · have h := itp c2 h
        obtain rfl := Option.some.inj h
        exact K_L1 _ rfl _ _ _ J (lv_sub hl [0] rfl)
      · have h := itn c2 h
        refine lv_aload_n hx hb dX3_gapAbove_14 rfl (lv_at hl 0 rfl) ?_
        refine lv_iload_n hx hb dX3_gapAbove_15 rfl (lv_at hl 2 rfl) ?_
        refine lv_iconst (v := 1) hx hb dX3_gapAbove_16 (by decide) ?_
        obtain ⟨p3, hp3, h⟩ := ob h
        refine onI (runV (As := [.int l3_L1, .int 1]) (rest := []) F E J (c_X3_beside l3_L1 1 p3 hp3) cw_X3_18 ⟨rfl, rfl, Nat.le_of_ble_eq_true rfl, Nat.le_of_ble_eq_true rfl⟩ rcX1 rfl hl.1 rfl (Nat.le_of_ble_eq_true rfl) dX3_gapAbove_17) J (fun H locs J => ?_)
        refine lv_istore_n (lv' := [(3, .int p3), (0, .ref (q 1)), (1, .int a0), (4, .int l4_L1)]) hx hb dX3_gapAbove_20 rfl hl (by decide) rfl (fun ls hl => ?_)
        refine lv_aload_n hx hb dX3_gapAbove_21 rfl (lv_at hl 1 rfl) ?_
        refine lv_iload_n hx hb dX3_gapAbove_22 rfl (lv_at hl 2 rfl) ?_
        refine lv_iload_n hx hb dX3_gapAbove_23 rfl (lv_at hl 0 rfl) ?_
        obtain ⟨p4, hp4, h⟩ := ob h
        refine onI (runV (As := [.int a0, .int p3]) (rest := []) F E J (c_X3_manyAt a0 p3 p4 hp4) cw_X3_26 ⟨rfl, rfl, Nat.le_of_ble_eq_true rfl, Nat.le_of_ble_eq_true rfl⟩ rcX1 rfl hl.1 rfl (Nat.le_of_ble_eq_true rfl) dX3_gapAbove_24) J (fun H locs J => ?_)
        refine lv_if_le (tgt := 33) hx hb dX3_gapAbove_27 (by decide) (fun c5 => ?_) (fun c5 => ?_)
        · have h := itp c5 h
          obtain ⟨v6, hv6, h⟩ := obs h
          refine lv_iinc (v := v6) (lv' := [(4, .int v6), (3, .int p3), (0, .ref (q 1)), (1, .int a0)]) hx hb dX3_gapAbove_33 hl (k := 3) rfl (by rw [← hv6]; rfl) (by decide) rfl (fun ls hl => ?_)
          refine lv_goto (tgt := 5) hx hb dX3_gapAbove_36 (by decide) ?_
          exact ih _ _ _ h _ _ _ J (lv_sub hl [2, 3, 1, 0] rfl) K_L1 kr_L1
        · have h := itn c5 h
          refine lv_iload hx hb dX3_gapAbove_30 (lv_at hl 3 rfl) ?_
          obtain rfl := Option.some.inj h
          obtain rfl := kr_L1 _ rfl
          exact ret _ _ _ _ J dX3_gapAbove_32
  refine T_L1 FU a1 1 o_L1s ho_L1 _ _ _ J (lv_sub hl [2, 3, 1, 0] rfl) (fun o_L1 eo H locs ls J hl => ?_) (fun x ex => ?_)
  · subst eo
    have h := elimR h
    refine lv_aload_n hx hb dX3_gapAbove_39 rfl (lv_at hl 0 rfl) ?_
    refine xg_1_0 F E J fl_X3_9 dX3_gapAbove_40 ?_
    obtain rfl := Option.some.inj h
    exact ret _ _ _ _ J dX3_gapAbove_43
  · subst ex
    exact Option.some.inj (elimL h)
end
