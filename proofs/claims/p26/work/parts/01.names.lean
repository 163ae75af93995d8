-- ===== PART A: goes FIRST, ahead of the names: the tables' words, and 'selects' of the private methods out of them =====
/-- a private method of a class that the tables say can be made, by its rows of tables_1 -/
def lw_okq (q : MethodName × Nat) : Prop := (q.1.cls ≠ "java/lang/invoke/MethodHandle" ∧ q.1.cls ≠ "java/lang/invoke/VarHandle") ∧ Cond.instantiable q.1.cls q.2 ∈ tables_1 ∧ Cond.privateMethod q.1 ∈ tables_1 ∧ Cond.instanceMethod q.1 ∈ tables_1
theorem lw_p0 : lw_okq (⟨"SeenWorlds$Net", "farFrom", "(I)I"⟩, 3) := ⟨⟨by decide +kernel, by decide +kernel⟩, List.mem_of_getElem? (i := 19) (by decide +kernel), List.mem_of_getElem? (i := 231) (by decide +kernel), List.mem_of_getElem? (i := 232) (by decide +kernel)⟩
theorem lw_p1 : lw_okq (⟨"SeenWorlds$Net", "stepFrom", "(I)I"⟩, 3) := ⟨⟨by decide +kernel, by decide +kernel⟩, List.mem_of_getElem? (i := 19) (by decide +kernel), List.mem_of_getElem? (i := 235) (by decide +kernel), List.mem_of_getElem? (i := 236) (by decide +kernel)⟩
theorem lw_p2 : lw_okq (⟨"SeenWorlds$Net", "bothWaysFrom", "(I)I"⟩, 3) := ⟨⟨by decide +kernel, by decide +kernel⟩, List.mem_of_getElem? (i := 19) (by decide +kernel), List.mem_of_getElem? (i := 242) (by decide +kernel), List.mem_of_getElem? (i := 243) (by decide +kernel)⟩
theorem lw_p3 : lw_okq (⟨"SeenWorlds$Net", "stepInto", "(I)I"⟩, 3) := ⟨⟨by decide +kernel, by decide +kernel⟩, List.mem_of_getElem? (i := 19) (by decide +kernel), List.mem_of_getElem? (i := 246) (by decide +kernel), List.mem_of_getElem? (i := 247) (by decide +kernel)⟩
theorem lw_p4 : lw_okq (⟨"SeenWorlds$Net", "allSeeEachOther", "(I)Z"⟩, 3) := ⟨⟨by decide +kernel, by decide +kernel⟩, List.mem_of_getElem? (i := 19) (by decide +kernel), List.mem_of_getElem? (i := 289) (by decide +kernel), List.mem_of_getElem? (i := 290) (by decide +kernel)⟩
theorem lw_p5 : lw_okq (⟨"SeenWorlds", "sentence", "(I)LSeenWorlds$Sentence;"⟩, 11) := ⟨⟨by decide +kernel, by decide +kernel⟩, List.mem_of_getElem? (i := 11) (by decide +kernel), List.mem_of_getElem? (i := 311) (by decide +kernel), List.mem_of_getElem? (i := 312) (by decide +kernel)⟩
theorem lw_p6 : lw_okq (⟨"SeenWorlds$Reader", "takes", "(IILSeenWorlds$Sentence;)Z"⟩, 6) := ⟨⟨by decide +kernel, by decide +kernel⟩, List.mem_of_getElem? (i := 58) (by decide +kernel), List.mem_of_getElem? (i := 324) (by decide +kernel), List.mem_of_getElem? (i := 325) (by decide +kernel)⟩
theorem lw_p7 : lw_okq (⟨"SeenWorlds$Reader", "takesOne", "(IILSeenWorlds$Sentence;)Z"⟩, 6) := ⟨⟨by decide +kernel, by decide +kernel⟩, List.mem_of_getElem? (i := 58) (by decide +kernel), List.mem_of_getElem? (i := 336) (by decide +kernel), List.mem_of_getElem? (i := 337) (by decide +kernel)⟩
theorem lw_p8 : lw_okq (⟨"SeenWorlds$Reader", "end", "(ILSeenWorlds$Sentence;)V"⟩, 6) := ⟨⟨by decide +kernel, by decide +kernel⟩, List.mem_of_getElem? (i := 58) (by decide +kernel), List.mem_of_getElem? (i := 355) (by decide +kernel), List.mem_of_getElem? (i := 356) (by decide +kernel)⟩
theorem lw_p9 : lw_okq (⟨"SeenWorlds$Reader", "takesBetween", "(I)Z"⟩, 6) := ⟨⟨by decide +kernel, by decide +kernel⟩, List.mem_of_getElem? (i := 58) (by decide +kernel), List.mem_of_getElem? (i := 364) (by decide +kernel), List.mem_of_getElem? (i := 365) (by decide +kernel)⟩
theorem lw_p10 : lw_okq (⟨"SeenWorlds$Reader", "takesClosing", "(ILSeenWorlds$Sentence;)Z"⟩, 6) := ⟨⟨by decide +kernel, by decide +kernel⟩, List.mem_of_getElem? (i := 58) (by decide +kernel), List.mem_of_getElem? (i := 371) (by decide +kernel), List.mem_of_getElem? (i := 372) (by decide +kernel)⟩
theorem lw_p11 : lw_okq (⟨"SeenWorlds", "whereHolds", "(LSeenWorlds$Sentence;I)I"⟩, 11) := ⟨⟨by decide +kernel, by decide +kernel⟩, List.mem_of_getElem? (i := 11) (by decide +kernel), List.mem_of_getElem? (i := 410) (by decide +kernel), List.mem_of_getElem? (i := 411) (by decide +kernel)⟩
theorem lw_p12 : lw_okq (⟨"SeenWorlds$View", "must", "(I)I"⟩, 5) := ⟨⟨by decide +kernel, by decide +kernel⟩, List.mem_of_getElem? (i := 36) (by decide +kernel), List.mem_of_getElem? (i := 443) (by decide +kernel), List.mem_of_getElem? (i := 444) (by decide +kernel)⟩
theorem lw_p13 : lw_okq (⟨"SeenWorlds", "deal", "(II)V"⟩, 11) := ⟨⟨by decide +kernel, by decide +kernel⟩, List.mem_of_getElem? (i := 11) (by decide +kernel), List.mem_of_getElem? (i := 453) (by decide +kernel), List.mem_of_getElem? (i := 454) (by decide +kernel)⟩
theorem lw_p14 : lw_okq (⟨"SeenWorlds$Types", "giveBits", "(LSeenWorlds$Sentence;)V"⟩, 14) := ⟨⟨by decide +kernel, by decide +kernel⟩, List.mem_of_getElem? (i := 83) (by decide +kernel), List.mem_of_getElem? (i := 478) (by decide +kernel), List.mem_of_getElem? (i := 479) (by decide +kernel)⟩
theorem lw_p15 : lw_okq (⟨"SeenWorlds$Types", "bitsBefore", "(LSeenWorlds$Sentence;I)I"⟩, 14) := ⟨⟨by decide +kernel, by decide +kernel⟩, List.mem_of_getElem? (i := 83) (by decide +kernel), List.mem_of_getElem? (i := 483) (by decide +kernel), List.mem_of_getElem? (i := 484) (by decide +kernel)⟩
def lw_privs_1 : List (MethodName × Nat) := [(⟨"SeenWorlds$Net", "farFrom", "(I)I"⟩, 3), (⟨"SeenWorlds$Net", "stepFrom", "(I)I"⟩, 3), (⟨"SeenWorlds$Net", "bothWaysFrom", "(I)I"⟩, 3), (⟨"SeenWorlds$Net", "stepInto", "(I)I"⟩, 3), (⟨"SeenWorlds$Net", "allSeeEachOther", "(I)Z"⟩, 3), (⟨"SeenWorlds", "sentence", "(I)LSeenWorlds$Sentence;"⟩, 11), (⟨"SeenWorlds$Reader", "takes", "(IILSeenWorlds$Sentence;)Z"⟩, 6), (⟨"SeenWorlds$Reader", "takesOne", "(IILSeenWorlds$Sentence;)Z"⟩, 6), (⟨"SeenWorlds$Reader", "end", "(ILSeenWorlds$Sentence;)V"⟩, 6), (⟨"SeenWorlds$Reader", "takesBetween", "(I)Z"⟩, 6), (⟨"SeenWorlds$Reader", "takesClosing", "(ILSeenWorlds$Sentence;)Z"⟩, 6), (⟨"SeenWorlds", "whereHolds", "(LSeenWorlds$Sentence;I)I"⟩, 11), (⟨"SeenWorlds$View", "must", "(I)I"⟩, 5), (⟨"SeenWorlds", "deal", "(II)V"⟩, 11), (⟨"SeenWorlds$Types", "giveBits", "(LSeenWorlds$Sentence;)V"⟩, 14), (⟨"SeenWorlds$Types", "bitsBefore", "(LSeenWorlds$Sentence;I)I"⟩, 14)]
theorem lw_r1 : ∀ q ∈ lw_privs_1, lw_okq q := List.forall_mem_cons.mpr ⟨lw_p0, List.forall_mem_cons.mpr ⟨lw_p1, List.forall_mem_cons.mpr ⟨lw_p2, List.forall_mem_cons.mpr ⟨lw_p3, List.forall_mem_cons.mpr ⟨lw_p4, List.forall_mem_cons.mpr ⟨lw_p5, List.forall_mem_cons.mpr ⟨lw_p6, List.forall_mem_cons.mpr ⟨lw_p7, List.forall_mem_cons.mpr ⟨lw_p8, List.forall_mem_cons.mpr ⟨lw_p9, List.forall_mem_cons.mpr ⟨lw_p10, List.forall_mem_cons.mpr ⟨lw_p11, List.forall_mem_cons.mpr ⟨lw_p12, List.forall_mem_cons.mpr ⟨lw_p13, List.forall_mem_cons.mpr ⟨lw_p14, List.forall_mem_cons.mpr ⟨lw_p15, fun _ h => absurd h List.not_mem_nil⟩⟩⟩⟩⟩⟩⟩⟩⟩⟩⟩⟩⟩⟩⟩⟩
theorem lw_p16 : lw_okq (⟨"SeenWorlds$Types", "weigh", "(LSeenWorlds$Sentence;I)V"⟩, 14) := ⟨⟨by decide +kernel, by decide +kernel⟩, List.mem_of_getElem? (i := 83) (by decide +kernel), List.mem_of_getElem? (i := 491) (by decide +kernel), List.mem_of_getElem? (i := 492) (by decide +kernel)⟩
theorem lw_p17 : lw_okq (⟨"SeenWorlds$Types", "beginWithFit", "()V"⟩, 14) := ⟨⟨by decide +kernel, by decide +kernel⟩, List.mem_of_getElem? (i := 83) (by decide +kernel), List.mem_of_getElem? (i := 503) (by decide +kernel), List.mem_of_getElem? (i := 504) (by decide +kernel)⟩
theorem lw_p18 : lw_okq (⟨"SeenWorlds$Types", "isFit", "(I)Z"⟩, 14) := ⟨⟨by decide +kernel, by decide +kernel⟩, List.mem_of_getElem? (i := 83) (by decide +kernel), List.mem_of_getElem? (i := 507) (by decide +kernel), List.mem_of_getElem? (i := 508) (by decide +kernel)⟩
theorem lw_p19 : lw_okq (⟨"SeenWorlds$Types", "maySee", "(II)Z"⟩, 14) := ⟨⟨by decide +kernel, by decide +kernel⟩, List.mem_of_getElem? (i := 83) (by decide +kernel), List.mem_of_getElem? (i := 511) (by decide +kernel), List.mem_of_getElem? (i := 512) (by decide +kernel)⟩
theorem lw_p20 : lw_okq (⟨"SeenWorlds$Types", "stay", "(I)V"⟩, 14) := ⟨⟨by decide +kernel, by decide +kernel⟩, List.mem_of_getElem? (i := 83) (by decide +kernel), List.mem_of_getElem? (i := 516) (by decide +kernel), List.mem_of_getElem? (i := 517) (by decide +kernel)⟩
theorem lw_p21 : lw_okq (⟨"SeenWorlds$Types", "anyFall", "(I)Z"⟩, 14) := ⟨⟨by decide +kernel, by decide +kernel⟩, List.mem_of_getElem? (i := 83) (by decide +kernel), List.mem_of_getElem? (i := 520) (by decide +kernel), List.mem_of_getElem? (i := 521) (by decide +kernel)⟩
theorem lw_p22 : lw_okq (⟨"SeenWorlds$Types", "mustFall", "(I)Z"⟩, 14) := ⟨⟨by decide +kernel, by decide +kernel⟩, List.mem_of_getElem? (i := 83) (by decide +kernel), List.mem_of_getElem? (i := 524) (by decide +kernel), List.mem_of_getElem? (i := 525) (by decide +kernel)⟩
theorem lw_p23 : lw_okq (⟨"SeenWorlds$Types", "placeWhere", "(I)I"⟩, 14) := ⟨⟨by decide +kernel, by decide +kernel⟩, List.mem_of_getElem? (i := 83) (by decide +kernel), List.mem_of_getElem? (i := 532) (by decide +kernel), List.mem_of_getElem? (i := 533) (by decide +kernel)⟩
theorem lw_p24 : lw_okq (⟨"SeenWorlds$Types", "howManyReached", "(I)I"⟩, 14) := ⟨⟨by decide +kernel, by decide +kernel⟩, List.mem_of_getElem? (i := 83) (by decide +kernel), List.mem_of_getElem? (i := 537) (by decide +kernel), List.mem_of_getElem? (i := 538) (by decide +kernel)⟩
theorem lw_p25 : lw_okq (⟨"SeenWorlds$Types", "swapStays", "(II)V"⟩, 14) := ⟨⟨by decide +kernel, by decide +kernel⟩, List.mem_of_getElem? (i := 83) (by decide +kernel), List.mem_of_getElem? (i := 541) (by decide +kernel), List.mem_of_getElem? (i := 542) (by decide +kernel)⟩
theorem lw_p26 : lw_okq (⟨"SeenWorlds$Types", "howManyFit", "()I"⟩, 14) := ⟨⟨by decide +kernel, by decide +kernel⟩, List.mem_of_getElem? (i := 83) (by decide +kernel), List.mem_of_getElem? (i := 545) (by decide +kernel), List.mem_of_getElem? (i := 546) (by decide +kernel)⟩
theorem lw_p27 : lw_okq (⟨"SeenWorlds$View", "heapByAtoms", "(LSeenWorlds$Net;)V"⟩, 5) := ⟨⟨by decide +kernel, by decide +kernel⟩, List.mem_of_getElem? (i := 36) (by decide +kernel), List.mem_of_getElem? (i := 583) (by decide +kernel), List.mem_of_getElem? (i := 584) (by decide +kernel)⟩
theorem lw_p28 : lw_okq (⟨"SeenWorlds$View", "heapFiner", "()V"⟩, 5) := ⟨⟨by decide +kernel, by decide +kernel⟩, List.mem_of_getElem? (i := 36) (by decide +kernel), List.mem_of_getElem? (i := 592) (by decide +kernel), List.mem_of_getElem? (i := 593) (by decide +kernel)⟩
theorem lw_p29 : lw_okq (⟨"SeenWorlds$View", "sameHeaps", "(II)Z"⟩, 5) := ⟨⟨by decide +kernel, by decide +kernel⟩, List.mem_of_getElem? (i := 36) (by decide +kernel), List.mem_of_getElem? (i := 596) (by decide +kernel), List.mem_of_getElem? (i := 597) (by decide +kernel)⟩
theorem lw_p30 : lw_okq (⟨"SeenWorlds$View", "heapsSeen", "(I)I"⟩, 5) := ⟨⟨by decide +kernel, by decide +kernel⟩, List.mem_of_getElem? (i := 36) (by decide +kernel), List.mem_of_getElem? (i := 600) (by decide +kernel), List.mem_of_getElem? (i := 601) (by decide +kernel)⟩
theorem lw_p31 : lw_okq (⟨"SeenWorlds", "depthApart", "(III)I"⟩, 11) := ⟨⟨by decide +kernel, by decide +kernel⟩, List.mem_of_getElem? (i := 11) (by decide +kernel), List.mem_of_getElem? (i := 612) (by decide +kernel), List.mem_of_getElem? (i := 613) (by decide +kernel)⟩
def lw_privs_2 : List (MethodName × Nat) := [(⟨"SeenWorlds$Types", "weigh", "(LSeenWorlds$Sentence;I)V"⟩, 14), (⟨"SeenWorlds$Types", "beginWithFit", "()V"⟩, 14), (⟨"SeenWorlds$Types", "isFit", "(I)Z"⟩, 14), (⟨"SeenWorlds$Types", "maySee", "(II)Z"⟩, 14), (⟨"SeenWorlds$Types", "stay", "(I)V"⟩, 14), (⟨"SeenWorlds$Types", "anyFall", "(I)Z"⟩, 14), (⟨"SeenWorlds$Types", "mustFall", "(I)Z"⟩, 14), (⟨"SeenWorlds$Types", "placeWhere", "(I)I"⟩, 14), (⟨"SeenWorlds$Types", "howManyReached", "(I)I"⟩, 14), (⟨"SeenWorlds$Types", "swapStays", "(II)V"⟩, 14), (⟨"SeenWorlds$Types", "howManyFit", "()I"⟩, 14), (⟨"SeenWorlds$View", "heapByAtoms", "(LSeenWorlds$Net;)V"⟩, 5), (⟨"SeenWorlds$View", "heapFiner", "()V"⟩, 5), (⟨"SeenWorlds$View", "sameHeaps", "(II)Z"⟩, 5), (⟨"SeenWorlds$View", "heapsSeen", "(I)I"⟩, 5), (⟨"SeenWorlds", "depthApart", "(III)I"⟩, 11)]
theorem lw_r2 : ∀ q ∈ lw_privs_2, lw_okq q := List.forall_mem_cons.mpr ⟨lw_p16, List.forall_mem_cons.mpr ⟨lw_p17, List.forall_mem_cons.mpr ⟨lw_p18, List.forall_mem_cons.mpr ⟨lw_p19, List.forall_mem_cons.mpr ⟨lw_p20, List.forall_mem_cons.mpr ⟨lw_p21, List.forall_mem_cons.mpr ⟨lw_p22, List.forall_mem_cons.mpr ⟨lw_p23, List.forall_mem_cons.mpr ⟨lw_p24, List.forall_mem_cons.mpr ⟨lw_p25, List.forall_mem_cons.mpr ⟨lw_p26, List.forall_mem_cons.mpr ⟨lw_p27, List.forall_mem_cons.mpr ⟨lw_p28, List.forall_mem_cons.mpr ⟨lw_p29, List.forall_mem_cons.mpr ⟨lw_p30, List.forall_mem_cons.mpr ⟨lw_p31, fun _ h => absurd h List.not_mem_nil⟩⟩⟩⟩⟩⟩⟩⟩⟩⟩⟩⟩⟩⟩⟩⟩
theorem lw_p32 : lw_okq (⟨"SeenWorlds$Net", "closedUp", "(II)I"⟩, 3) := ⟨⟨by decide +kernel, by decide +kernel⟩, List.mem_of_getElem? (i := 19) (by decide +kernel), List.mem_of_getElem? (i := 648) (by decide +kernel), List.mem_of_getElem? (i := 649) (by decide +kernel)⟩
theorem lw_p33 : lw_okq (⟨"SeenWorldsModel", "isWorld", "(I)Z"⟩, 50) := ⟨⟨by decide +kernel, by decide +kernel⟩, List.mem_of_getElem? (i := 680) (by decide +kernel), List.mem_of_getElem? (i := 849) (by decide +kernel), List.mem_of_getElem? (i := 850) (by decide +kernel)⟩
theorem lw_p34 : lw_okq (⟨"SeenWorldsModel", "all", "()I"⟩, 50) := ⟨⟨by decide +kernel, by decide +kernel⟩, List.mem_of_getElem? (i := 680) (by decide +kernel), List.mem_of_getElem? (i := 857) (by decide +kernel), List.mem_of_getElem? (i := 858) (by decide +kernel)⟩
theorem lw_p35 : lw_okq (⟨"SeenWorldsModel", "seenOf", "(II)I"⟩, 50) := ⟨⟨by decide +kernel, by decide +kernel⟩, List.mem_of_getElem? (i := 680) (by decide +kernel), List.mem_of_getElem? (i := 871) (by decide +kernel), List.mem_of_getElem? (i := 872) (by decide +kernel)⟩
theorem lw_p36 : lw_okq (⟨"SeenWorldsModel", "farOf", "(I)I"⟩, 50) := ⟨⟨by decide +kernel, by decide +kernel⟩, List.mem_of_getElem? (i := 680) (by decide +kernel), List.mem_of_getElem? (i := 875) (by decide +kernel), List.mem_of_getElem? (i := 876) (by decide +kernel)⟩
theorem lw_p37 : lw_okq (⟨"SeenWorldsModel", "reads", "()Z"⟩, 50) := ⟨⟨by decide +kernel, by decide +kernel⟩, List.mem_of_getElem? (i := 680) (by decide +kernel), List.mem_of_getElem? (i := 902) (by decide +kernel), List.mem_of_getElem? (i := 903) (by decide +kernel)⟩
theorem lw_p38 : lw_okq (⟨"SeenWorldsModel", "part", "(IIIII)I"⟩, 50) := ⟨⟨by decide +kernel, by decide +kernel⟩, List.mem_of_getElem? (i := 680) (by decide +kernel), List.mem_of_getElem? (i := 912) (by decide +kernel), List.mem_of_getElem? (i := 913) (by decide +kernel)⟩
theorem lw_p39 : lw_okq (⟨"SeenWorldsModel", "works", "(I)V"⟩, 50) := ⟨⟨by decide +kernel, by decide +kernel⟩, List.mem_of_getElem? (i := 680) (by decide +kernel), List.mem_of_getElem? (i := 923) (by decide +kernel), List.mem_of_getElem? (i := 924) (by decide +kernel)⟩
theorem lw_p40 : lw_okq (⟨"SeenWorldsModel", "takes", "(I)V"⟩, 50) := ⟨⟨by decide +kernel, by decide +kernel⟩, List.mem_of_getElem? (i := 680) (by decide +kernel), List.mem_of_getElem? (i := 927) (by decide +kernel), List.mem_of_getElem? (i := 928) (by decide +kernel)⟩
theorem lw_p41 : lw_okq (⟨"SeenWorldsModel", "atomsOf", "()I"⟩, 50) := ⟨⟨by decide +kernel, by decide +kernel⟩, List.mem_of_getElem? (i := 680) (by decide +kernel), List.mem_of_getElem? (i := 931) (by decide +kernel), List.mem_of_getElem? (i := 932) (by decide +kernel)⟩
theorem lw_p42 : lw_okq (⟨"SeenWorldsModel", "isPlain", "()Z"⟩, 50) := ⟨⟨by decide +kernel, by decide +kernel⟩, List.mem_of_getElem? (i := 680) (by decide +kernel), List.mem_of_getElem? (i := 935) (by decide +kernel), List.mem_of_getElem? (i := 936) (by decide +kernel)⟩
theorem lw_p43 : lw_okq (⟨"SeenWorldsModel", "isModal", "(I)Z"⟩, 50) := ⟨⟨by decide +kernel, by decide +kernel⟩, List.mem_of_getElem? (i := 680) (by decide +kernel), List.mem_of_getElem? (i := 939) (by decide +kernel), List.mem_of_getElem? (i := 940) (by decide +kernel)⟩
theorem lw_p44 : lw_okq (⟨"SeenWorldsModel", "isTwo", "(I)Z"⟩, 50) := ⟨⟨by decide +kernel, by decide +kernel⟩, List.mem_of_getElem? (i := 680) (by decide +kernel), List.mem_of_getElem? (i := 943) (by decide +kernel), List.mem_of_getElem? (i := 944) (by decide +kernel)⟩
theorem lw_p45 : lw_okq (⟨"SeenWorldsModel", "isLike", "(II)Z"⟩, 50) := ⟨⟨by decide +kernel, by decide +kernel⟩, List.mem_of_getElem? (i := 680) (by decide +kernel), List.mem_of_getElem? (i := 947) (by decide +kernel), List.mem_of_getElem? (i := 948) (by decide +kernel)⟩
theorem lw_p46 : lw_okq (⟨"SeenWorldsModel", "looks", "(I)V"⟩, 50) := ⟨⟨by decide +kernel, by decide +kernel⟩, List.mem_of_getElem? (i := 680) (by decide +kernel), List.mem_of_getElem? (i := 955) (by decide +kernel), List.mem_of_getElem? (i := 956) (by decide +kernel)⟩
theorem lw_p47 : lw_okq (⟨"SeenWorldsModel", "holding", "()I"⟩, 50) := ⟨⟨by decide +kernel, by decide +kernel⟩, List.mem_of_getElem? (i := 680) (by decide +kernel), List.mem_of_getElem? (i := 959) (by decide +kernel), List.mem_of_getElem? (i := 960) (by decide +kernel)⟩
def lw_privs_3 : List (MethodName × Nat) := [(⟨"SeenWorlds$Net", "closedUp", "(II)I"⟩, 3), (⟨"SeenWorldsModel", "isWorld", "(I)Z"⟩, 50), (⟨"SeenWorldsModel", "all", "()I"⟩, 50), (⟨"SeenWorldsModel", "seenOf", "(II)I"⟩, 50), (⟨"SeenWorldsModel", "farOf", "(I)I"⟩, 50), (⟨"SeenWorldsModel", "reads", "()Z"⟩, 50), (⟨"SeenWorldsModel", "part", "(IIIII)I"⟩, 50), (⟨"SeenWorldsModel", "works", "(I)V"⟩, 50), (⟨"SeenWorldsModel", "takes", "(I)V"⟩, 50), (⟨"SeenWorldsModel", "atomsOf", "()I"⟩, 50), (⟨"SeenWorldsModel", "isPlain", "()Z"⟩, 50), (⟨"SeenWorldsModel", "isModal", "(I)Z"⟩, 50), (⟨"SeenWorldsModel", "isTwo", "(I)Z"⟩, 50), (⟨"SeenWorldsModel", "isLike", "(II)Z"⟩, 50), (⟨"SeenWorldsModel", "looks", "(I)V"⟩, 50), (⟨"SeenWorldsModel", "holding", "()I"⟩, 50)]
theorem lw_r3 : ∀ q ∈ lw_privs_3, lw_okq q := List.forall_mem_cons.mpr ⟨lw_p32, List.forall_mem_cons.mpr ⟨lw_p33, List.forall_mem_cons.mpr ⟨lw_p34, List.forall_mem_cons.mpr ⟨lw_p35, List.forall_mem_cons.mpr ⟨lw_p36, List.forall_mem_cons.mpr ⟨lw_p37, List.forall_mem_cons.mpr ⟨lw_p38, List.forall_mem_cons.mpr ⟨lw_p39, List.forall_mem_cons.mpr ⟨lw_p40, List.forall_mem_cons.mpr ⟨lw_p41, List.forall_mem_cons.mpr ⟨lw_p42, List.forall_mem_cons.mpr ⟨lw_p43, List.forall_mem_cons.mpr ⟨lw_p44, List.forall_mem_cons.mpr ⟨lw_p45, List.forall_mem_cons.mpr ⟨lw_p46, List.forall_mem_cons.mpr ⟨lw_p47, fun _ h => absurd h List.not_mem_nil⟩⟩⟩⟩⟩⟩⟩⟩⟩⟩⟩⟩⟩⟩⟩⟩
theorem lw_p48 : lw_okq (⟨"SeenWorldsModel", "allIn", "(I)I"⟩, 50) := ⟨⟨by decide +kernel, by decide +kernel⟩, List.mem_of_getElem? (i := 680) (by decide +kernel), List.mem_of_getElem? (i := 963) (by decide +kernel), List.mem_of_getElem? (i := 964) (by decide +kernel)⟩
theorem lw_p49 : lw_okq (⟨"SeenWorldsModel", "tells", "(Z)Z"⟩, 50) := ⟨⟨by decide +kernel, by decide +kernel⟩, List.mem_of_getElem? (i := 680) (by decide +kernel), List.mem_of_getElem? (i := 978) (by decide +kernel), List.mem_of_getElem? (i := 979) (by decide +kernel)⟩
theorem lw_p50 : lw_okq (⟨"SeenWorldsModel", "types", "()V"⟩, 50) := ⟨⟨by decide +kernel, by decide +kernel⟩, List.mem_of_getElem? (i := 680) (by decide +kernel), List.mem_of_getElem? (i := 982) (by decide +kernel), List.mem_of_getElem? (i := 983) (by decide +kernel)⟩
theorem lw_p51 : lw_okq (⟨"SeenWorldsModel", "judges", "(I)V"⟩, 50) := ⟨⟨by decide +kernel, by decide +kernel⟩, List.mem_of_getElem? (i := 680) (by decide +kernel), List.mem_of_getElem? (i := 986) (by decide +kernel), List.mem_of_getElem? (i := 987) (by decide +kernel)⟩
theorem lw_p52 : lw_okq (⟨"SeenWorldsModel", "rounds", "(I)I"⟩, 50) := ⟨⟨by decide +kernel, by decide +kernel⟩, List.mem_of_getElem? (i := 680) (by decide +kernel), List.mem_of_getElem? (i := 990) (by decide +kernel), List.mem_of_getElem? (i := 991) (by decide +kernel)⟩
theorem lw_p53 : lw_okq (⟨"SeenWorldsModel", "maySee", "(III)Z"⟩, 50) := ⟨⟨by decide +kernel, by decide +kernel⟩, List.mem_of_getElem? (i := 680) (by decide +kernel), List.mem_of_getElem? (i := 994) (by decide +kernel), List.mem_of_getElem? (i := 995) (by decide +kernel)⟩
theorem lw_p54 : lw_okq (⟨"SeenWorldsModel", "lets", "(IIZ)Z"⟩, 50) := ⟨⟨by decide +kernel, by decide +kernel⟩, List.mem_of_getElem? (i := 680) (by decide +kernel), List.mem_of_getElem? (i := 998) (by decide +kernel), List.mem_of_getElem? (i := 999) (by decide +kernel)⟩
theorem lw_p55 : lw_okq (⟨"SeenWorldsModel", "isThere", "(I)Z"⟩, 50) := ⟨⟨by decide +kernel, by decide +kernel⟩, List.mem_of_getElem? (i := 680) (by decide +kernel), List.mem_of_getElem? (i := 1002) (by decide +kernel), List.mem_of_getElem? (i := 1003) (by decide +kernel)⟩
theorem lw_p56 : lw_okq (⟨"SeenWorldsModel", "isFalling", "(II)Z"⟩, 50) := ⟨⟨by decide +kernel, by decide +kernel⟩, List.mem_of_getElem? (i := 680) (by decide +kernel), List.mem_of_getElem? (i := 1006) (by decide +kernel), List.mem_of_getElem? (i := 1007) (by decide +kernel)⟩
theorem lw_p57 : lw_okq (⟨"SeenWorldsModel", "isLaw", "()Z"⟩, 50) := ⟨⟨by decide +kernel, by decide +kernel⟩, List.mem_of_getElem? (i := 680) (by decide +kernel), List.mem_of_getElem? (i := 1010) (by decide +kernel), List.mem_of_getElem? (i := 1011) (by decide +kernel)⟩
theorem lw_p58 : lw_okq (⟨"SeenWorldsModel", "shownFrom", "(II)I"⟩, 50) := ⟨⟨by decide +kernel, by decide +kernel⟩, List.mem_of_getElem? (i := 680) (by decide +kernel), List.mem_of_getElem? (i := 1014) (by decide +kernel), List.mem_of_getElem? (i := 1015) (by decide +kernel)⟩
theorem lw_p59 : lw_okq (⟨"SeenWorldsModel", "splits", "(I)I"⟩, 50) := ⟨⟨by decide +kernel, by decide +kernel⟩, List.mem_of_getElem? (i := 680) (by decide +kernel), List.mem_of_getElem? (i := 1030) (by decide +kernel), List.mem_of_getElem? (i := 1031) (by decide +kernel)⟩
theorem lw_p60 : lw_okq (⟨"SeenWorldsModel", "isAlike", "(II)Z"⟩, 50) := ⟨⟨by decide +kernel, by decide +kernel⟩, List.mem_of_getElem? (i := 680) (by decide +kernel), List.mem_of_getElem? (i := 1034) (by decide +kernel), List.mem_of_getElem? (i := 1035) (by decide +kernel)⟩
theorem lw_p61 : lw_okq (⟨"SeenWorldsModel", "heapsOf", "(I)I"⟩, 50) := ⟨⟨by decide +kernel, by decide +kernel⟩, List.mem_of_getElem? (i := 680) (by decide +kernel), List.mem_of_getElem? (i := 1038) (by decide +kernel), List.mem_of_getElem? (i := 1039) (by decide +kernel)⟩
theorem lw_p62 : lw_okq (⟨"SeenWorldsModel", "isGrowing", "()Z"⟩, 50) := ⟨⟨by decide +kernel, by decide +kernel⟩, List.mem_of_getElem? (i := 680) (by decide +kernel), List.mem_of_getElem? (i := 1054) (by decide +kernel), List.mem_of_getElem? (i := 1055) (by decide +kernel)⟩
theorem lw_p63 : lw_okq (⟨"SeenWorldsModel", "isShown", "()Z"⟩, 50) := ⟨⟨by decide +kernel, by decide +kernel⟩, List.mem_of_getElem? (i := 680) (by decide +kernel), List.mem_of_getElem? (i := 1066) (by decide +kernel), List.mem_of_getElem? (i := 1067) (by decide +kernel)⟩
def lw_privs_4 : List (MethodName × Nat) := [(⟨"SeenWorldsModel", "allIn", "(I)I"⟩, 50), (⟨"SeenWorldsModel", "tells", "(Z)Z"⟩, 50), (⟨"SeenWorldsModel", "types", "()V"⟩, 50), (⟨"SeenWorldsModel", "judges", "(I)V"⟩, 50), (⟨"SeenWorldsModel", "rounds", "(I)I"⟩, 50), (⟨"SeenWorldsModel", "maySee", "(III)Z"⟩, 50), (⟨"SeenWorldsModel", "lets", "(IIZ)Z"⟩, 50), (⟨"SeenWorldsModel", "isThere", "(I)Z"⟩, 50), (⟨"SeenWorldsModel", "isFalling", "(II)Z"⟩, 50), (⟨"SeenWorldsModel", "isLaw", "()Z"⟩, 50), (⟨"SeenWorldsModel", "shownFrom", "(II)I"⟩, 50), (⟨"SeenWorldsModel", "splits", "(I)I"⟩, 50), (⟨"SeenWorldsModel", "isAlike", "(II)Z"⟩, 50), (⟨"SeenWorldsModel", "heapsOf", "(I)I"⟩, 50), (⟨"SeenWorldsModel", "isGrowing", "()Z"⟩, 50), (⟨"SeenWorldsModel", "isShown", "()Z"⟩, 50)]
theorem lw_r4 : ∀ q ∈ lw_privs_4, lw_okq q := List.forall_mem_cons.mpr ⟨lw_p48, List.forall_mem_cons.mpr ⟨lw_p49, List.forall_mem_cons.mpr ⟨lw_p50, List.forall_mem_cons.mpr ⟨lw_p51, List.forall_mem_cons.mpr ⟨lw_p52, List.forall_mem_cons.mpr ⟨lw_p53, List.forall_mem_cons.mpr ⟨lw_p54, List.forall_mem_cons.mpr ⟨lw_p55, List.forall_mem_cons.mpr ⟨lw_p56, List.forall_mem_cons.mpr ⟨lw_p57, List.forall_mem_cons.mpr ⟨lw_p58, List.forall_mem_cons.mpr ⟨lw_p59, List.forall_mem_cons.mpr ⟨lw_p60, List.forall_mem_cons.mpr ⟨lw_p61, List.forall_mem_cons.mpr ⟨lw_p62, List.forall_mem_cons.mpr ⟨lw_p63, fun _ h => absurd h List.not_mem_nil⟩⟩⟩⟩⟩⟩⟩⟩⟩⟩⟩⟩⟩⟩⟩⟩
theorem lw_p64 : lw_okq (⟨"SeenWorldsModel", "isFit", "(I)Z"⟩, 50) := ⟨⟨by decide +kernel, by decide +kernel⟩, List.mem_of_getElem? (i := 680) (by decide +kernel), List.mem_of_getElem? (i := 1070) (by decide +kernel), List.mem_of_getElem? (i := 1071) (by decide +kernel)⟩
theorem lw_p65 : lw_okq (⟨"SeenWorldsModel", "breaks", "(I)I"⟩, 50) := ⟨⟨by decide +kernel, by decide +kernel⟩, List.mem_of_getElem? (i := 680) (by decide +kernel), List.mem_of_getElem? (i := 1074) (by decide +kernel), List.mem_of_getElem? (i := 1075) (by decide +kernel)⟩
theorem lw_p66 : lw_okq (⟨"SeenWorldsModel", "isTrue", "()Z"⟩, 50) := ⟨⟨by decide +kernel, by decide +kernel⟩, List.mem_of_getElem? (i := 680) (by decide +kernel), List.mem_of_getElem? (i := 1078) (by decide +kernel), List.mem_of_getElem? (i := 1079) (by decide +kernel)⟩
theorem lw_p67 : lw_okq (⟨"SeenWorldsModel", "held", "(I)I"⟩, 50) := ⟨⟨by decide +kernel, by decide +kernel⟩, List.mem_of_getElem? (i := 680) (by decide +kernel), List.mem_of_getElem? (i := 1086) (by decide +kernel), List.mem_of_getElem? (i := 1087) (by decide +kernel)⟩
def lw_privs_5 : List (MethodName × Nat) := [(⟨"SeenWorldsModel", "isFit", "(I)Z"⟩, 50), (⟨"SeenWorldsModel", "breaks", "(I)I"⟩, 50), (⟨"SeenWorldsModel", "isTrue", "()Z"⟩, 50), (⟨"SeenWorldsModel", "held", "(I)I"⟩, 50)]
theorem lw_r5 : ∀ q ∈ lw_privs_5, lw_okq q := List.forall_mem_cons.mpr ⟨lw_p64, List.forall_mem_cons.mpr ⟨lw_p65, List.forall_mem_cons.mpr ⟨lw_p66, List.forall_mem_cons.mpr ⟨lw_p67, fun _ h => absurd h List.not_mem_nil⟩⟩⟩⟩
def lw_privs : List (MethodName × Nat) := lw_privs_1 ++ (lw_privs_2 ++ (lw_privs_3 ++ (lw_privs_4 ++ (lw_privs_5))))
def lw_tbl : List Cond := k2_sels lw_privs ++ tables_1
theorem lw_privs_ok : ∀ q ∈ lw_privs, lw_okq q := by
  show ∀ q ∈ lw_privs_1 ++ (lw_privs_2 ++ (lw_privs_3 ++ (lw_privs_4 ++ (lw_privs_5)))), lw_okq q
  exact List.forall_mem_append.mpr ⟨lw_r1, List.forall_mem_append.mpr ⟨lw_r2, List.forall_mem_append.mpr ⟨lw_r3, List.forall_mem_append.mpr ⟨lw_r4, lw_r5⟩⟩⟩⟩
theorem goodIn_r {big : List Cond} (ws : List Cond) (ps : List Nat) (hp : ws = ps.filterMap (fun i => big[i]?)) (h : ws.all goodWord = true) : GoodIn big ws := by
  intro w hw
  have h1 := List.all_eq_true.mp h w hw
  rw [hp] at hw
  obtain ⟨i, -, hi⟩ := List.mem_filterMap.mp hw
  have hm : w ∈ big := by first | exact List.mem_of_getElem? hi | exact List.getElem?_mem hi
  exact ⟨hm, good_of_word h1⟩
theorem goodIn_app {big a b : List Cond} (ha : GoodIn big a) (hb : GoodIn big b) : GoodIn big (a ++ b) := fun w h => (List.mem_append.mp h).elim (ha w) (hb w)
theorem goodIn_ca {big a b : List Cond} {c : Cond} (ha : GoodIn big (c :: a)) (hb : GoodIn big b) : GoodIn big (c :: (a ++ b)) := fun w h => (List.mem_cons.mp h).elim (fun e => ha w (List.mem_cons.mpr (Or.inl e))) (fun h => (List.mem_append.mp h).elim (fun h => ha w (List.mem_cons.mpr (Or.inr h))) (hb w))
theorem goodIn_sub {big ws : List Cond} (hm : ∀ w ∈ ws, w ∈ big) (h : ws.all goodWord = true) : GoodIn big ws := fun w hw => ⟨hm w hw, good_of_word (List.all_eq_true.mp h w hw)⟩
def RX0 : String := "SeenWorlds$Net"
def TX0 : u_T := fun k => match k with
  | 0 => ("SeenWorlds$Net", "sees", "[I", true)
  | 1 => ("SeenWorlds$Net", "atoms", "[I", true)
  | _ => ("SeenWorlds$Net", "size", "I", false)
def tyX0 : Nat → FieldType := fun k => match k with
  | 0 => .array .int
  | 1 => .array .int
  | _ => .int
abbrev wsX00 : List Cond := u_ws RX0 TX0 3
theorem nmX0 : ∀ a, a < 3 → ∀ b, b < 3 → a ≠ b → (TX0 a).2.1 ≠ (TX0 b).2.1 := by decide +kernel
theorem tyX0_ok : ∀ k, k < 3 → parseFieldDescriptor (TX0 k).2.2.1 = some (tyX0 k) := by decide +kernel
abbrev cX0_init : ByteArray := prog_2_method_1_code
def yX0_init : MethodName := ⟨RX0, "<init>", "()V"⟩
abbrev cX0_size : ByteArray := prog_2_method_2_code
def yX0_size : MethodName := ⟨RX0, "size", "()I"⟩
abbrev cX0_all : ByteArray := prog_2_method_3_code
def yX0_all : MethodName := ⟨RX0, "all", "()I"⟩
abbrev cX0_has : ByteArray := prog_2_method_4_code
def yX0_has : MethodName := ⟨RX0, "has", "(I)Z"⟩
abbrev cX0_atoms : ByteArray := prog_2_method_5_code
def yX0_atoms : MethodName := ⟨RX0, "atoms", "()[I"⟩
abbrev cX0_begin : ByteArray := prog_2_method_6_code
def yX0_begin : MethodName := ⟨RX0, "begin", "(I)V"⟩
abbrev cX0_let : ByteArray := prog_2_method_7_code
def yX0_let : MethodName := ⟨RX0, "let", "(III)V"⟩
abbrev cX0_pairs : ByteArray := prog_2_method_8_code
def yX0_pairs : MethodName := ⟨RX0, "pairs", "()I"⟩
abbrev cX0_seenBy : ByteArray := prog_2_method_9_code
def yX0_seenBy : MethodName := ⟨RX0, "seenBy", "(II)I"⟩
abbrev cX0_stepFrom : ByteArray := prog_2_method_10_code
def yX0_stepFrom : MethodName := ⟨RX0, "stepFrom", "(I)I"⟩
abbrev cX0_stepInto : ByteArray := prog_2_method_11_code
def yX0_stepInto : MethodName := ⟨RX0, "stepInto", "(I)I"⟩
abbrev cX0_farFrom : ByteArray := prog_2_method_12_code
def yX0_farFrom : MethodName := ⟨RX0, "farFrom", "(I)I"⟩
abbrev cX0_bothWaysFrom : ByteArray := prog_2_method_13_code
def yX0_bothWaysFrom : MethodName := ⟨RX0, "bothWaysFrom", "(I)I"⟩
abbrev cX0_kinds : ByteArray := prog_2_method_14_code
def yX0_kinds : MethodName := ⟨RX0, "kinds", "()I"⟩
abbrev cX0_allSeeEachOther : ByteArray := prog_2_method_15_code
def yX0_allSeeEachOther : MethodName := ⟨RX0, "allSeeEachOther", "(I)Z"⟩
abbrev cX0_isGrowing : ByteArray := prog_2_method_16_code
def yX0_isGrowing : MethodName := ⟨RX0, "isGrowing", "()Z"⟩
abbrev cX0_allLeadInto : ByteArray := prog_2_method_17_code
def yX0_allLeadInto : MethodName := ⟨RX0, "allLeadInto", "(I)I"⟩
abbrev cX0_stepsOutOf : ByteArray := prog_2_method_18_code
def yX0_stepsOutOf : MethodName := ⟨RX0, "stepsOutOf", "(II)I"⟩
abbrev cX0_keep : ByteArray := prog_2_method_19_code
def yX0_keep : MethodName := ⟨RX0, "keep", "(I)V"⟩
abbrev cX0_closedUp : ByteArray := prog_2_method_20_code
def yX0_closedUp : MethodName := ⟨RX0, "closedUp", "(II)I"⟩
def RX1 : String := "SeenWorlds$Reader"
def TX1 : u_T := fun k => match k with
  | 0 => ("SeenWorlds$Reader", "opened", "[I", true)
  | 1 => ("SeenWorlds$Reader", "place", "[I", true)
  | 2 => ("SeenWorlds$Reader", "first", "[I", true)
  | 3 => ("SeenWorlds$Reader", "second", "[I", true)
  | 4 => ("SeenWorlds$Reader", "open", "I", false)
  | _ => ("SeenWorlds$Reader", "due", "I", false)
def tyX1 : Nat → FieldType := fun k => match k with
  | 0 => .array .int
  | 1 => .array .int
  | 2 => .array .int
  | 3 => .array .int
  | 4 => .int
  | _ => .int
abbrev wsX10 : List Cond := u_ws RX1 TX1 6
theorem nmX1 : ∀ a, a < 6 → ∀ b, b < 6 → a ≠ b → (TX1 a).2.1 ≠ (TX1 b).2.1 := by decide +kernel
theorem tyX1_ok : ∀ k, k < 6 → parseFieldDescriptor (TX1 k).2.2.1 = some (tyX1 k) := by decide +kernel
abbrev cX1_init : ByteArray := prog_3_method_1_code
def yX1_init : MethodName := ⟨RX1, "<init>", "()V"⟩
abbrev cX1_fault : ByteArray := prog_3_method_2_code
def yX1_fault : MethodName := ⟨RX1, "fault", "([IILSeenWorlds$Sentence;)I"⟩
abbrev cX1_takes : ByteArray := prog_3_method_3_code
def yX1_takes : MethodName := ⟨RX1, "takes", "(IILSeenWorlds$Sentence;)Z"⟩
abbrev cX1_takesOne : ByteArray := prog_3_method_4_code
def yX1_takesOne : MethodName := ⟨RX1, "takesOne", "(IILSeenWorlds$Sentence;)Z"⟩
abbrev cX1_takesBetween : ByteArray := prog_3_method_5_code
def yX1_takesBetween : MethodName := ⟨RX1, "takesBetween", "(I)Z"⟩
abbrev cX1_takesClosing : ByteArray := prog_3_method_6_code
def yX1_takesClosing : MethodName := ⟨RX1, "takesClosing", "(ILSeenWorlds$Sentence;)Z"⟩
abbrev cX1_end : ByteArray := prog_3_method_7_code
def yX1_end : MethodName := ⟨RX1, "end", "(ILSeenWorlds$Sentence;)V"⟩
def RX2 : String := "SeenWorlds$Sentence"
def TX2 : u_T := fun k => match k with
  | 0 => ("SeenWorlds$Sentence", "sign", "[I", true)
  | 1 => ("SeenWorlds$Sentence", "first", "[I", true)
  | 2 => ("SeenWorlds$Sentence", "second", "[I", true)
  | 3 => ("SeenWorlds$Sentence", "place", "[I", true)
  | 4 => ("SeenWorlds$Sentence", "deep", "[I", true)
  | 5 => ("SeenWorlds$Sentence", "parts", "I", false)
  | _ => ("SeenWorlds$Sentence", "signs", "I", false)
def tyX2 : Nat → FieldType := fun k => match k with
  | 0 => .array .int
  | 1 => .array .int
  | 2 => .array .int
  | 3 => .array .int
  | 4 => .array .int
  | 5 => .int
  | _ => .int
abbrev wsX20 : List Cond := u_ws RX2 TX2 7
theorem nmX2 : ∀ a, a < 7 → ∀ b, b < 7 → a ≠ b → (TX2 a).2.1 ≠ (TX2 b).2.1 := by decide +kernel
theorem tyX2_ok : ∀ k, k < 7 → parseFieldDescriptor (TX2 k).2.2.1 = some (tyX2 k) := by decide +kernel
abbrev cX2_init : ByteArray := prog_4_method_1_code
def yX2_init : MethodName := ⟨RX2, "<init>", "(I)V"⟩
abbrev cX2_parts : ByteArray := prog_4_method_2_code
def yX2_parts : MethodName := ⟨RX2, "parts", "()I"⟩
abbrev cX2_signs : ByteArray := prog_4_method_3_code
def yX2_signs : MethodName := ⟨RX2, "signs", "()I"⟩
abbrev cX2_sign : ByteArray := prog_4_method_4_code
def yX2_sign : MethodName := ⟨RX2, "sign", "(I)I"⟩
abbrev cX2_first : ByteArray := prog_4_method_5_code
def yX2_first : MethodName := ⟨RX2, "first", "(I)I"⟩
abbrev cX2_second : ByteArray := prog_4_method_6_code
def yX2_second : MethodName := ⟨RX2, "second", "(I)I"⟩
abbrev cX2_place : ByteArray := prog_4_method_7_code
def yX2_place : MethodName := ⟨RX2, "place", "(I)I"⟩
abbrev cX2_depth : ByteArray := prog_4_method_8_code
def yX2_depth : MethodName := ⟨RX2, "depth", "()I"⟩
abbrev cX2_isPlain : ByteArray := prog_4_method_9_code
def yX2_isPlain : MethodName := ⟨RX2, "isPlain", "()Z"⟩
abbrev cX2_atoms : ByteArray := prog_4_method_10_code
def yX2_atoms : MethodName := ⟨RX2, "atoms", "()I"⟩
abbrev cX2_begin : ByteArray := prog_4_method_11_code
def yX2_begin : MethodName := ⟨RX2, "begin", "()V"⟩
abbrev cX2_countSign : ByteArray := prog_4_method_12_code
def yX2_countSign : MethodName := ⟨RX2, "countSign", "()V"⟩
abbrev cX2_part : ByteArray := prog_4_method_13_code
def yX2_part : MethodName := ⟨RX2, "part", "(IIII)I"⟩
abbrev cX2_become : ByteArray := prog_4_method_14_code
def yX2_become : MethodName := ⟨RX2, "become", "(LSeenWorlds$Sentence;)V"⟩
abbrev cX2_takeIn : ByteArray := prog_4_method_15_code
def yX2_takeIn : MethodName := ⟨RX2, "takeIn", "(LSeenWorlds$Sentence;[I)I"⟩
abbrev cX2_movedTo : ByteArray := prog_4_method_16_code
def yX2_movedTo : MethodName := ⟨RX2, "movedTo", "([II)I"⟩
def RX3 : String := "SeenWorlds$Types"
def TX3 : u_T := fun k => match k with
  | 0 => ("SeenWorlds$Types", "bitOf", "[I", true)
  | 1 => ("SeenWorlds$Types", "value", "[I", true)
  | 2 => ("SeenWorlds$Types", "claims", "[I", true)
  | 3 => ("SeenWorlds$Types", "bears", "[I", true)
  | 4 => ("SeenWorlds$Types", "whole", "[I", true)
  | 5 => ("SeenWorlds$Types", "fall", "[I", true)
  | 6 => ("SeenWorlds$Types", "stays", "[I", true)
  | 7 => ("SeenWorlds$Types", "logic", "I", false)
  | 8 => ("SeenWorlds$Types", "size", "I", false)
  | 9 => ("SeenWorlds$Types", "claiming", "I", false)
  | 10 => ("SeenWorlds$Types", "turned", "I", false)
  | 11 => ("SeenWorlds$Types", "owing", "I", false)
  | 12 => ("SeenWorlds$Types", "rounds", "I", false)
  | _ => ("SeenWorlds$Types", "staying", "I", false)
def tyX3 : Nat → FieldType := fun k => match k with
  | 0 => .array .int
  | 1 => .array .int
  | 2 => .array .int
  | 3 => .array .int
  | 4 => .array .int
  | 5 => .array .int
  | 6 => .array .int
  | 7 => .int
  | 8 => .int
  | 9 => .int
  | 10 => .int
  | 11 => .int
  | 12 => .int
  | _ => .int
abbrev wsX30 : List Cond := u_ws RX3 TX3 14
theorem nmX3 : ∀ a, a < 14 → ∀ b, b < 14 → a ≠ b → (TX3 a).2.1 ≠ (TX3 b).2.1 := by decide +kernel
theorem tyX3_ok : ∀ k, k < 14 → parseFieldDescriptor (TX3 k).2.2.1 = some (tyX3 k) := by decide +kernel
abbrev cX3_init : ByteArray := prog_5_method_1_code
def yX3_init : MethodName := ⟨RX3, "<init>", "()V"⟩
abbrev cX3_howMany : ByteArray := prog_5_method_2_code
def yX3_howMany : MethodName := ⟨RX3, "howMany", "(LSeenWorlds$Sentence;I)J"⟩
abbrev cX3_sortOut : ByteArray := prog_5_method_3_code
def yX3_sortOut : MethodName := ⟨RX3, "sortOut", "(LSeenWorlds$Sentence;I)Z"⟩
abbrev cX3_hasBit : ByteArray := prog_5_method_4_code
def yX3_hasBit : MethodName := ⟨RX3, "hasBit", "(II)Z"⟩
abbrev cX3_countBits : ByteArray := prog_5_method_5_code
def yX3_countBits : MethodName := ⟨RX3, "countBits", "(LSeenWorlds$Sentence;I)I"⟩
abbrev cX3_giveBits : ByteArray := prog_5_method_6_code
def yX3_giveBits : MethodName := ⟨RX3, "giveBits", "(LSeenWorlds$Sentence;)V"⟩
abbrev cX3_bitsBefore : ByteArray := prog_5_method_7_code
def yX3_bitsBefore : MethodName := ⟨RX3, "bitsBefore", "(LSeenWorlds$Sentence;I)I"⟩
abbrev cX3_weigh : ByteArray := prog_5_method_8_code
def yX3_weigh : MethodName := ⟨RX3, "weigh", "(LSeenWorlds$Sentence;I)V"⟩
abbrev cX3_bearing : ByteArray := prog_5_method_9_code
def yX3_bearing : MethodName := ⟨RX3, "bearing", "(IIII)I"⟩
abbrev cX3_maySee : ByteArray := prog_5_method_10_code
def yX3_maySee : MethodName := ⟨RX3, "maySee", "(II)Z"⟩
abbrev cX3_isFit : ByteArray := prog_5_method_11_code
def yX3_isFit : MethodName := ⟨RX3, "isFit", "(I)Z"⟩
abbrev cX3_beginWithFit : ByteArray := prog_5_method_12_code
def yX3_beginWithFit : MethodName := ⟨RX3, "beginWithFit", "()V"⟩
abbrev cX3_stay : ByteArray := prog_5_method_13_code
def yX3_stay : MethodName := ⟨RX3, "stay", "(I)V"⟩
abbrev cX3_anyFall : ByteArray := prog_5_method_14_code
def yX3_anyFall : MethodName := ⟨RX3, "anyFall", "(I)Z"⟩
abbrev cX3_mustFall : ByteArray := prog_5_method_15_code
def yX3_mustFall : MethodName := ⟨RX3, "mustFall", "(I)Z"⟩
abbrev cX3_fallOf : ByteArray := prog_5_method_16_code
def yX3_fallOf : MethodName := ⟨RX3, "fallOf", "(I)I"⟩
abbrev cX3_answer : ByteArray := prog_5_method_17_code
def yX3_answer : MethodName := ⟨RX3, "answer", "(I)I"⟩
abbrev cX3_placeWhere : ByteArray := prog_5_method_18_code
def yX3_placeWhere : MethodName := ⟨RX3, "placeWhere", "(I)I"⟩
abbrev cX3_howManyFit : ByteArray := prog_5_method_19_code
def yX3_howManyFit : MethodName := ⟨RX3, "howManyFit", "()I"⟩
abbrev cX3_howManyReached : ByteArray := prog_5_method_20_code
def yX3_howManyReached : MethodName := ⟨RX3, "howManyReached", "(I)I"⟩
abbrev cX3_swapStays : ByteArray := prog_5_method_21_code
def yX3_swapStays : MethodName := ⟨RX3, "swapStays", "(II)V"⟩
def RX4 : String := "SeenWorlds$View"
def TX4 : u_T := fun k => match k with
  | 0 => ("SeenWorlds$View", "from", "[I", true)
  | 1 => ("SeenWorlds$View", "where", "[I", true)
  | 2 => ("SeenWorlds$View", "heap", "[I", true)
  | 3 => ("SeenWorlds$View", "finer", "[I", true)
  | _ => ("SeenWorlds$View", "size", "I", false)
def tyX4 : Nat → FieldType := fun k => match k with
  | 0 => .array .int
  | 1 => .array .int
  | 2 => .array .int
  | 3 => .array .int
  | _ => .int
abbrev wsX40 : List Cond := u_ws RX4 TX4 5
theorem nmX4 : ∀ a, a < 5 → ∀ b, b < 5 → a ≠ b → (TX4 a).2.1 ≠ (TX4 b).2.1 := by decide +kernel
theorem tyX4_ok : ∀ k, k < 5 → parseFieldDescriptor (TX4 k).2.2.1 = some (tyX4 k) := by decide +kernel
abbrev cX4_init : ByteArray := prog_6_method_1_code
def yX4_init : MethodName := ⟨RX4, "<init>", "()V"⟩
abbrev cX4_look : ByteArray := prog_6_method_2_code
def yX4_look : MethodName := ⟨RX4, "look", "(LSeenWorlds$Net;I)V"⟩
abbrev cX4_judge : ByteArray := prog_6_method_3_code
def yX4_judge : MethodName := ⟨RX4, "judge", "(LSeenWorlds$Sentence;[IZ)I"⟩
abbrev cX4_must : ByteArray := prog_6_method_4_code
def yX4_must : MethodName := ⟨RX4, "must", "(I)I"⟩
abbrev cX4_depthApart : ByteArray := prog_6_method_5_code
def yX4_depthApart : MethodName := ⟨RX4, "depthApart", "(LSeenWorlds$Net;II)I"⟩
abbrev cX4_heapUp : ByteArray := prog_6_method_6_code
def yX4_heapUp : MethodName := ⟨RX4, "heapUp", "(LSeenWorlds$Net;)V"⟩
abbrev cX4_howManyHeaps : ByteArray := prog_6_method_7_code
def yX4_howManyHeaps : MethodName := ⟨RX4, "howManyHeaps", "()I"⟩
abbrev cX4_heapByAtoms : ByteArray := prog_6_method_8_code
def yX4_heapByAtoms : MethodName := ⟨RX4, "heapByAtoms", "(LSeenWorlds$Net;)V"⟩
abbrev cX4_sameAtoms : ByteArray := prog_6_method_9_code
def yX4_sameAtoms : MethodName := ⟨RX4, "sameAtoms", "(LSeenWorlds$Net;II)Z"⟩
abbrev cX4_heapFiner : ByteArray := prog_6_method_10_code
def yX4_heapFiner : MethodName := ⟨RX4, "heapFiner", "()V"⟩
abbrev cX4_sameHeaps : ByteArray := prog_6_method_11_code
def yX4_sameHeaps : MethodName := ⟨RX4, "sameHeaps", "(II)Z"⟩
abbrev cX4_heapsSeen : ByteArray := prog_6_method_12_code
def yX4_heapsSeen : MethodName := ⟨RX4, "heapsSeen", "(I)I"⟩
def RX5 : String := "SeenWorlds"
def TX5 : u_T := fun k => match k with
  | 0 => ("SeenWorlds", "net", "LSeenWorlds$Net;", true)
  | 1 => ("SeenWorlds", "view", "LSeenWorlds$View;", true)
  | 2 => ("SeenWorlds", "reader", "LSeenWorlds$Reader;", true)
  | 3 => ("SeenWorlds", "types", "LSeenWorlds$Types;", true)
  | 4 => ("SeenWorlds", "sentences", "[LSeenWorlds$Sentence;", true)
  | 5 => ("SeenWorlds", "draft", "LSeenWorlds$Sentence;", true)
  | 6 => ("SeenWorlds", "moved", "[I", true)
  | 7 => ("SeenWorlds", "dealt", "[I", true)
  | 8 => ("SeenWorlds", "text", "[I", true)
  | 9 => ("SeenWorlds", "length", "I", false)
  | _ => ("SeenWorlds", "traced", "J", false)
def tyX5 : Nat → FieldType := fun k => match k with
  | 0 => .object "SeenWorlds$Net"
  | 1 => .object "SeenWorlds$View"
  | 2 => .object "SeenWorlds$Reader"
  | 3 => .object "SeenWorlds$Types"
  | 4 => .array (.object "SeenWorlds$Sentence")
  | 5 => .object "SeenWorlds$Sentence"
  | 6 => .array .int
  | 7 => .array .int
  | 8 => .array .int
  | 9 => .int
  | _ => .long
abbrev wsX50 : List Cond := u_ws RX5 TX5 11
theorem nmX5 : ∀ a, a < 11 → ∀ b, b < 11 → a ≠ b → (TX5 a).2.1 ≠ (TX5 b).2.1 := by decide +kernel
theorem tyX5_ok : ∀ k, k < 11 → parseFieldDescriptor (TX5 k).2.2.1 = some (tyX5 k) := by decide +kernel
abbrev cX5_init : ByteArray := prog_1_method_1_code
def yX5_init : MethodName := ⟨RX5, "<init>", "()V"⟩
abbrev cX5_worlds : ByteArray := prog_1_method_2_code
def yX5_worlds : MethodName := ⟨RX5, "worlds", "(I)I"⟩
abbrev cX5_see : ByteArray := prog_1_method_3_code
def yX5_see : MethodName := ⟨RX5, "see", "(III)I"⟩
abbrev cX5_atom : ByteArray := prog_1_method_4_code
def yX5_atom : MethodName := ⟨RX5, "atom", "(II)I"⟩
abbrev cX5_seen : ByteArray := prog_1_method_5_code
def yX5_seen : MethodName := ⟨RX5, "seen", "(II)I"⟩
abbrev cX5_sorts : ByteArray := prog_1_method_6_code
def yX5_sorts : MethodName := ⟨RX5, "sorts", "()I"⟩
abbrev cX5_type : ByteArray := prog_1_method_7_code
def yX5_type : MethodName := ⟨RX5, "type", "(JI)I"⟩
abbrev cX5_clear : ByteArray := prog_1_method_8_code
def yX5_clear : MethodName := ⟨RX5, "clear", "()I"⟩
abbrev cX5_read : ByteArray := prog_1_method_9_code
def yX5_read : MethodName := ⟨RX5, "read", "(I)I"⟩
abbrev cX5_about : ByteArray := prog_1_method_10_code
def yX5_about : MethodName := ⟨RX5, "about", "(II)I"⟩
abbrev cX5_holds : ByteArray := prog_1_method_11_code
def yX5_holds : MethodName := ⟨RX5, "holds", "(II)I"⟩
abbrev cX5_sure : ByteArray := prog_1_method_12_code
def yX5_sure : MethodName := ⟨RX5, "sure", "(II)I"⟩
abbrev cX5_logic : ByteArray := prog_1_method_13_code
def yX5_logic : MethodName := ⟨RX5, "logic", "(III)I"⟩
abbrev cX5_falls : ByteArray := prog_1_method_14_code
def yX5_falls : MethodName := ⟨RX5, "falls", "(III)I"⟩
abbrev cX5_follows : ByteArray := prog_1_method_15_code
def yX5_follows : MethodName := ⟨RX5, "follows", "(III)I"⟩
abbrev cX5_heaps : ByteArray := prog_1_method_16_code
def yX5_heaps : MethodName := ⟨RX5, "heaps", "(I)I"⟩
abbrev cX5_alike : ByteArray := prog_1_method_17_code
def yX5_alike : MethodName := ⟨RX5, "alike", "(III)I"⟩
abbrev cX5_apart : ByteArray := prog_1_method_18_code
def yX5_apart : MethodName := ⟨RX5, "apart", "(III)I"⟩
abbrev cX5_growing : ByteArray := prog_1_method_19_code
def yX5_growing : MethodName := ⟨RX5, "growing", "()I"⟩
abbrev cX5_grows : ByteArray := prog_1_method_20_code
def yX5_grows : MethodName := ⟨RX5, "grows", "(I)I"⟩
abbrev cX5_shown : ByteArray := prog_1_method_21_code
def yX5_shown : MethodName := ⟨RX5, "shown", "(II)I"⟩
abbrev cX5_tell : ByteArray := prog_1_method_22_code
def yX5_tell : MethodName := ⟨RX5, "tell", "(I)I"⟩
abbrev cX5_known : ByteArray := prog_1_method_23_code
def yX5_known : MethodName := ⟨RX5, "known", "(I)I"⟩
abbrev cX5_steps : ByteArray := prog_1_method_24_code
def yX5_steps : MethodName := ⟨RX5, "steps", "(II)I"⟩
abbrev cX5_count : ByteArray := prog_1_method_25_code
def yX5_count : MethodName := ⟨RX5, "count", "(I)I"⟩
abbrev cX5_trace : ByteArray := prog_1_method_26_code
def yX5_trace : MethodName := ⟨RX5, "trace", "()J"⟩
abbrev cX5_sentence : ByteArray := prog_1_method_27_code
def yX5_sentence : MethodName := ⟨RX5, "sentence", "(I)LSeenWorlds$Sentence;"⟩
abbrev cX5_whereHolds : ByteArray := prog_1_method_28_code
def yX5_whereHolds : MethodName := ⟨RX5, "whereHolds", "(LSeenWorlds$Sentence;I)I"⟩
abbrev cX5_depthApart : ByteArray := prog_1_method_29_code
def yX5_depthApart : MethodName := ⟨RX5, "depthApart", "(III)I"⟩
abbrev cX5_deal : ByteArray := prog_1_method_30_code
def yX5_deal : MethodName := ⟨RX5, "deal", "(II)V"⟩
abbrev cX5_isSort : ByteArray := prog_1_method_31_code
def yX5_isSort : MethodName := ⟨RX5, "isSort", "(I)Z"⟩
abbrev cX5_isLogic : ByteArray := prog_1_method_32_code
def yX5_isLogic : MethodName := ⟨RX5, "isLogic", "(I)Z"⟩
abbrev cX5_isWhether : ByteArray := prog_1_method_33_code
def yX5_isWhether : MethodName := ⟨RX5, "isWhether", "(I)Z"⟩
abbrev cX5_whether : ByteArray := prog_1_method_34_code
def yX5_whether : MethodName := ⟨RX5, "whether", "(Z)I"⟩
abbrev cX5_bit : ByteArray := prog_1_method_35_code
def yX5_bit : MethodName := ⟨RX5, "bit", "(II)I"⟩
abbrev cX5_within : ByteArray := prog_1_method_36_code
def yX5_within : MethodName := ⟨RX5, "within", "(II)Z"⟩
abbrev cX5_at : ByteArray := prog_1_method_37_code
def yX5_at : MethodName := ⟨RX5, "at", "([II)I"⟩
abbrev cX5_put : ByteArray := prog_1_method_38_code
def yX5_put : MethodName := ⟨RX5, "put", "([III)V"⟩
abbrev cX5_isAtom : ByteArray := prog_1_method_39_code
def yX5_isAtom : MethodName := ⟨RX5, "isAtom", "(I)Z"⟩
abbrev cX5_isModal : ByteArray := prog_1_method_40_code
def yX5_isModal : MethodName := ⟨RX5, "isModal", "(I)Z"⟩
abbrev cX5_isPrefix : ByteArray := prog_1_method_41_code
def yX5_isPrefix : MethodName := ⟨RX5, "isPrefix", "(I)Z"⟩
abbrev cX5_isBetween : ByteArray := prog_1_method_42_code
def yX5_isBetween : MethodName := ⟨RX5, "isBetween", "(I)Z"⟩
abbrev cX5_joined : ByteArray := prog_1_method_43_code
def yX5_joined : MethodName := ⟨RX5, "joined", "(IIII)I"⟩
def RX6 : String := "SeenWorldsModel"
def TX6 : u_T := fun k => match k with
  | 0 => ("SeenWorldsModel", "thrown", "I", false)
  | 1 => ("SeenWorldsModel", "trace", "J", false)
  | 2 => ("SeenWorldsModel", "n", "I", false)
  | 3 => ("SeenWorldsModel", "see", "[I", true)
  | 4 => ("SeenWorldsModel", "atom", "[I", true)
  | 5 => ("SeenWorldsModel", "text", "[I", true)
  | 6 => ("SeenWorldsModel", "typed", "I", false)
  | 7 => ("SeenWorldsModel", "bytes", "[I", true)
  | 8 => ("SeenWorldsModel", "size", "[I", true)
  | 9 => ("SeenWorldsModel", "many", "[I", true)
  | 10 => ("SeenWorldsModel", "what", "[I", true)
  | 11 => ("SeenWorldsModel", "left", "[I", true)
  | 12 => ("SeenWorldsModel", "right", "[I", true)
  | 13 => ("SeenWorldsModel", "begins", "[I", true)
  | 14 => ("SeenWorldsModel", "ends", "[I", true)
  | 15 => ("SeenWorldsModel", "parts", "I", false)
  | 16 => ("SeenWorldsModel", "fault", "I", false)
  | 17 => ("SeenWorldsModel", "newWhat", "[I", true)
  | 18 => ("SeenWorldsModel", "newLeft", "[I", true)
  | 19 => ("SeenWorldsModel", "newRight", "[I", true)
  | 20 => ("SeenWorldsModel", "newBegins", "[I", true)
  | 21 => ("SeenWorldsModel", "newEnds", "[I", true)
  | 22 => ("SeenWorldsModel", "open", "[I", true)
  | 23 => ("SeenWorldsModel", "openAt", "[I", true)
  | 24 => ("SeenWorldsModel", "openLeft", "[I", true)
  | 25 => ("SeenWorldsModel", "openState", "[I", true)
  | 26 => ("SeenWorldsModel", "workMany", "I", false)
  | 27 => ("SeenWorldsModel", "workSize", "I", false)
  | 28 => ("SeenWorldsModel", "workBytes", "[I", true)
  | 29 => ("SeenWorldsModel", "workWhat", "[I", true)
  | 30 => ("SeenWorldsModel", "workLeft", "[I", true)
  | 31 => ("SeenWorldsModel", "workRight", "[I", true)
  | 32 => ("SeenWorldsModel", "workBegins", "[I", true)
  | 33 => ("SeenWorldsModel", "workEnds", "[I", true)
  | 34 => ("SeenWorldsModel", "bitOf", "[I", true)
  | 35 => ("SeenWorldsModel", "bits", "I", false)
  | 36 => ("SeenWorldsModel", "bitPart", "[I", true)
  | 37 => ("SeenWorldsModel", "value", "[I", true)
  | 38 => ("SeenWorldsModel", "own", "[I", true)
  | 39 => ("SeenWorldsModel", "inner", "[I", true)
  | 40 => ("SeenWorldsModel", "holds", "[Z", true)
  | 41 => ("SeenWorldsModel", "fallen", "[I", true)
  | 42 => ("SeenWorldsModel", "isMet", "[Z", true)
  | 43 => ("SeenWorldsModel", "queue", "[I", true)
  | 44 => ("SeenWorldsModel", "must", "I", false)
  | 45 => ("SeenWorldsModel", "may", "I", false)
  | 46 => ("SeenWorldsModel", "seenBy", "[I", true)
  | 47 => ("SeenWorldsModel", "heap", "[I", true)
  | 48 => ("SeenWorldsModel", "nextHeap", "[I", true)
  | _ => ("SeenWorldsModel", "level", "[I", true)
def tyX6 : Nat → FieldType := fun k => match k with
  | 0 => .int
  | 1 => .long
  | 2 => .int
  | 3 => .array .int
  | 4 => .array .int
  | 5 => .array .int
  | 6 => .int
  | 7 => .array .int
  | 8 => .array .int
  | 9 => .array .int
  | 10 => .array .int
  | 11 => .array .int
  | 12 => .array .int
  | 13 => .array .int
  | 14 => .array .int
  | 15 => .int
  | 16 => .int
  | 17 => .array .int
  | 18 => .array .int
  | 19 => .array .int
  | 20 => .array .int
  | 21 => .array .int
  | 22 => .array .int
  | 23 => .array .int
  | 24 => .array .int
  | 25 => .array .int
  | 26 => .int
  | 27 => .int
  | 28 => .array .int
  | 29 => .array .int
  | 30 => .array .int
  | 31 => .array .int
  | 32 => .array .int
  | 33 => .array .int
  | 34 => .array .int
  | 35 => .int
  | 36 => .array .int
  | 37 => .array .int
  | 38 => .array .int
  | 39 => .array .int
  | 40 => .array .boolean
  | 41 => .array .int
  | 42 => .array .boolean
  | 43 => .array .int
  | 44 => .int
  | 45 => .int
  | 46 => .array .int
  | 47 => .array .int
  | 48 => .array .int
  | _ => .array .int
abbrev wsX60 : List Cond := u_ws RX6 TX6 50
theorem nmX6 : ∀ a, a < 50 → ∀ b, b < 50 → a ≠ b → (TX6 a).2.1 ≠ (TX6 b).2.1 := by decide +kernel
theorem tyX6_ok : ∀ k, k < 50 → parseFieldDescriptor (TX6 k).2.2.1 = some (tyX6 k) := by decide +kernel
abbrev cX6_init : ByteArray := prog_8_method_1_code
def yX6_init : MethodName := ⟨RX6, "<init>", "()V"⟩
abbrev cX6_in : ByteArray := prog_8_method_3_code
def yX6_in : MethodName := ⟨RX6, "in", "(III)Z"⟩
abbrev cX6_isWorld : ByteArray := prog_8_method_4_code
def yX6_isWorld : MethodName := ⟨RX6, "isWorld", "(I)Z"⟩
abbrev cX6_isSentence : ByteArray := prog_8_method_5_code
def yX6_isSentence : MethodName := ⟨RX6, "isSentence", "(I)Z"⟩
abbrev cX6_isSort : ByteArray := prog_8_method_6_code
def yX6_isSort : MethodName := ⟨RX6, "isSort", "(I)Z"⟩
abbrev cX6_all : ByteArray := prog_8_method_7_code
def yX6_all : MethodName := ⟨RX6, "all", "()I"⟩
abbrev cX6_worlds : ByteArray := prog_8_method_8_code
def yX6_worlds : MethodName := ⟨RX6, "worlds", "(I)I"⟩
abbrev cX6_see : ByteArray := prog_8_method_9_code
def yX6_see : MethodName := ⟨RX6, "see", "(III)I"⟩
abbrev cX6_atom : ByteArray := prog_8_method_10_code
def yX6_atom : MethodName := ⟨RX6, "atom", "(II)I"⟩
abbrev cX6_farOf : ByteArray := prog_8_method_11_code
def yX6_farOf : MethodName := ⟨RX6, "farOf", "(I)I"⟩
abbrev cX6_seenOf : ByteArray := prog_8_method_12_code
def yX6_seenOf : MethodName := ⟨RX6, "seenOf", "(II)I"⟩
abbrev cX6_seen : ByteArray := prog_8_method_13_code
def yX6_seen : MethodName := ⟨RX6, "seen", "(II)I"⟩
abbrev cX6_ones : ByteArray := prog_8_method_14_code
def yX6_ones : MethodName := ⟨RX6, "ones", "(I)I"⟩
abbrev cX6_sorts : ByteArray := prog_8_method_15_code
def yX6_sorts : MethodName := ⟨RX6, "sorts", "()I"⟩
abbrev cX6_type : ByteArray := prog_8_method_16_code
def yX6_type : MethodName := ⟨RX6, "type", "(JI)I"⟩
abbrev cX6_clear : ByteArray := prog_8_method_17_code
def yX6_clear : MethodName := ⟨RX6, "clear", "()I"⟩
abbrev cX6_isAtom : ByteArray := prog_8_method_18_code
def yX6_isAtom : MethodName := ⟨RX6, "isAtom", "(I)Z"⟩
abbrev cX6_isPrefix : ByteArray := prog_8_method_19_code
def yX6_isPrefix : MethodName := ⟨RX6, "isPrefix", "(I)Z"⟩
abbrev cX6_isJoin : ByteArray := prog_8_method_20_code
def yX6_isJoin : MethodName := ⟨RX6, "isJoin", "(I)Z"⟩
abbrev cX6_part : ByteArray := prog_8_method_21_code
def yX6_part : MethodName := ⟨RX6, "part", "(IIIII)I"⟩
abbrev cX6_reads : ByteArray := prog_8_method_22_code
def yX6_reads : MethodName := ⟨RX6, "reads", "()Z"⟩
abbrev cX6_read : ByteArray := prog_8_method_23_code
def yX6_read : MethodName := ⟨RX6, "read", "(I)I"⟩
abbrev cX6_takes : ByteArray := prog_8_method_24_code
def yX6_takes : MethodName := ⟨RX6, "takes", "(I)V"⟩
abbrev cX6_works : ByteArray := prog_8_method_25_code
def yX6_works : MethodName := ⟨RX6, "works", "(I)V"⟩
abbrev cX6_isLike : ByteArray := prog_8_method_26_code
def yX6_isLike : MethodName := ⟨RX6, "isLike", "(II)Z"⟩
abbrev cX6_isModal : ByteArray := prog_8_method_27_code
def yX6_isModal : MethodName := ⟨RX6, "isModal", "(I)Z"⟩
abbrev cX6_atomsOf : ByteArray := prog_8_method_28_code
def yX6_atomsOf : MethodName := ⟨RX6, "atomsOf", "()I"⟩
abbrev cX6_isPlain : ByteArray := prog_8_method_29_code
def yX6_isPlain : MethodName := ⟨RX6, "isPlain", "()Z"⟩
abbrev cX6_isTwo : ByteArray := prog_8_method_30_code
def yX6_isTwo : MethodName := ⟨RX6, "isTwo", "(I)Z"⟩
abbrev cX6_about : ByteArray := prog_8_method_31_code
def yX6_about : MethodName := ⟨RX6, "about", "(II)I"⟩
abbrev cX6_looks : ByteArray := prog_8_method_32_code
def yX6_looks : MethodName := ⟨RX6, "looks", "(I)V"⟩
abbrev cX6_allIn : ByteArray := prog_8_method_33_code
def yX6_allIn : MethodName := ⟨RX6, "allIn", "(I)I"⟩
abbrev cX6_holding : ByteArray := prog_8_method_34_code
def yX6_holding : MethodName := ⟨RX6, "holding", "()I"⟩
abbrev cX6_holds : ByteArray := prog_8_method_35_code
def yX6_holds : MethodName := ⟨RX6, "holds", "(II)I"⟩
abbrev cX6_sure : ByteArray := prog_8_method_36_code
def yX6_sure : MethodName := ⟨RX6, "sure", "(II)I"⟩
abbrev cX6_tells : ByteArray := prog_8_method_37_code
def yX6_tells : MethodName := ⟨RX6, "tells", "(Z)Z"⟩
abbrev cX6_judges : ByteArray := prog_8_method_38_code
def yX6_judges : MethodName := ⟨RX6, "judges", "(I)V"⟩
abbrev cX6_types : ByteArray := prog_8_method_39_code
def yX6_types : MethodName := ⟨RX6, "types", "()V"⟩
abbrev cX6_lets : ByteArray := prog_8_method_40_code
def yX6_lets : MethodName := ⟨RX6, "lets", "(IIZ)Z"⟩
abbrev cX6_maySee : ByteArray := prog_8_method_41_code
def yX6_maySee : MethodName := ⟨RX6, "maySee", "(III)Z"⟩
abbrev cX6_isThere : ByteArray := prog_8_method_42_code
def yX6_isThere : MethodName := ⟨RX6, "isThere", "(I)Z"⟩
abbrev cX6_isFalling : ByteArray := prog_8_method_43_code
def yX6_isFalling : MethodName := ⟨RX6, "isFalling", "(II)Z"⟩
abbrev cX6_rounds : ByteArray := prog_8_method_44_code
def yX6_rounds : MethodName := ⟨RX6, "rounds", "(I)I"⟩
abbrev cX6_isLaw : ByteArray := prog_8_method_45_code
def yX6_isLaw : MethodName := ⟨RX6, "isLaw", "()Z"⟩
abbrev cX6_shownFrom : ByteArray := prog_8_method_46_code
def yX6_shownFrom : MethodName := ⟨RX6, "shownFrom", "(II)I"⟩
abbrev cX6_isLogic : ByteArray := prog_8_method_47_code
def yX6_isLogic : MethodName := ⟨RX6, "isLogic", "(I)Z"⟩
abbrev cX6_logic : ByteArray := prog_8_method_48_code
def yX6_logic : MethodName := ⟨RX6, "logic", "(III)I"⟩
abbrev cX6_falls : ByteArray := prog_8_method_49_code
def yX6_falls : MethodName := ⟨RX6, "falls", "(III)I"⟩
abbrev cX6_follows : ByteArray := prog_8_method_50_code
def yX6_follows : MethodName := ⟨RX6, "follows", "(III)I"⟩
abbrev cX6_splits : ByteArray := prog_8_method_51_code
def yX6_splits : MethodName := ⟨RX6, "splits", "(I)I"⟩
abbrev cX6_isAlike : ByteArray := prog_8_method_52_code
def yX6_isAlike : MethodName := ⟨RX6, "isAlike", "(II)Z"⟩
abbrev cX6_heapsOf : ByteArray := prog_8_method_53_code
def yX6_heapsOf : MethodName := ⟨RX6, "heapsOf", "(I)I"⟩
abbrev cX6_heaps : ByteArray := prog_8_method_54_code
def yX6_heaps : MethodName := ⟨RX6, "heaps", "(I)I"⟩
abbrev cX6_alike : ByteArray := prog_8_method_55_code
def yX6_alike : MethodName := ⟨RX6, "alike", "(III)I"⟩
abbrev cX6_apart : ByteArray := prog_8_method_56_code
def yX6_apart : MethodName := ⟨RX6, "apart", "(III)I"⟩
abbrev cX6_isGrowing : ByteArray := prog_8_method_57_code
def yX6_isGrowing : MethodName := ⟨RX6, "isGrowing", "()Z"⟩
abbrev cX6_growing : ByteArray := prog_8_method_58_code
def yX6_growing : MethodName := ⟨RX6, "growing", "()I"⟩
abbrev cX6_grows : ByteArray := prog_8_method_59_code
def yX6_grows : MethodName := ⟨RX6, "grows", "(I)I"⟩
abbrev cX6_isFit : ByteArray := prog_8_method_60_code
def yX6_isFit : MethodName := ⟨RX6, "isFit", "(I)Z"⟩
abbrev cX6_breaks : ByteArray := prog_8_method_61_code
def yX6_breaks : MethodName := ⟨RX6, "breaks", "(I)I"⟩
abbrev cX6_isShown : ByteArray := prog_8_method_62_code
def yX6_isShown : MethodName := ⟨RX6, "isShown", "()Z"⟩
abbrev cX6_isTrue : ByteArray := prog_8_method_63_code
def yX6_isTrue : MethodName := ⟨RX6, "isTrue", "()Z"⟩
abbrev cX6_shown : ByteArray := prog_8_method_64_code
def yX6_shown : MethodName := ⟨RX6, "shown", "(II)I"⟩
abbrev cX6_held : ByteArray := prog_8_method_65_code
def yX6_held : MethodName := ⟨RX6, "held", "(I)I"⟩
abbrev cX6_tell : ByteArray := prog_8_method_66_code
def yX6_tell : MethodName := ⟨RX6, "tell", "(I)I"⟩
abbrev cX6_packed : ByteArray := prog_8_method_67_code
def yX6_packed : MethodName := ⟨RX6, "packed", "(II)I"⟩
abbrev cX6_known : ByteArray := prog_8_method_68_code
def yX6_known : MethodName := ⟨RX6, "known", "(I)I"⟩
abbrev cX6_steps : ByteArray := prog_8_method_69_code
def yX6_steps : MethodName := ⟨RX6, "steps", "(II)I"⟩
abbrev cX6_count : ByteArray := prog_8_method_70_code
def yX6_count : MethodName := ⟨RX6, "count", "(I)I"⟩
abbrev cX6_trace : ByteArray := prog_8_method_71_code
def yX6_trace : MethodName := ⟨RX6, "trace", "()J"⟩
def RJ6 : String := "java/lang/Integer"
abbrev cJ6_bitCount_0f7a4 : ByteArray := prog_9_method_49_code
def yJ6_bitCount_0f7a4 : MethodName := ⟨RJ6, "bitCount", "(I)I"⟩
def RJ9 : String := "java/lang/Math"
abbrev cJ9_max_7cf53 : ByteArray := prog_10_method_65_code
def yJ9_max_7cf53 : MethodName := ⟨RJ9, "max", "(II)I"⟩
abbrev cJ9_min_7cf53 : ByteArray := prog_10_method_69_code
def yJ9_min_7cf53 : MethodName := ⟨RJ9, "min", "(II)I"⟩
def RL : String := "SeenWorldsLaw"
abbrev cL_law : ByteArray := code
def yL_law : MethodName := ⟨RL, "law", "([I)Z"⟩
abbrev vwCl : List vw_C := [(RX0, TX0, 3), (RX1, TX1, 6), (RX2, TX2, 7), (RX3, TX3, 14), (RX4, TX4, 5), (RX5, TX5, 11), (RX6, TX6, 50)]
