section
-- ===== PART A: goes FIRST, ahead of the names: the tables' words, and 'selects' of the private methods out of them =====
/-- a private method of a class that the tables say can be made, by its rows of tables_1 -/
def lw_okq (q : MethodName × Nat) : Prop := (q.1.cls ≠ "java/lang/invoke/MethodHandle" ∧ q.1.cls ≠ "java/lang/invoke/VarHandle") ∧ Cond.instantiable q.1.cls q.2 ∈ tables_1 ∧ Cond.privateMethod q.1 ∈ tables_1 ∧ Cond.instanceMethod q.1 ∈ tables_1
theorem lw_p0 : lw_okq (⟨"IndexedTable$Tree", "takeNode", "()I"⟩, 17) := ⟨⟨by decide +kernel, by decide +kernel⟩, List.mem_of_getElem? (i := 98) (by decide +kernel), List.mem_of_getElem? (i := 118) (by decide +kernel), List.mem_of_getElem? (i := 119) (by decide +kernel)⟩
theorem lw_p1 : lw_okq (⟨"IndexedTable", "isActive", "(I)Z"⟩, 12) := ⟨⟨by decide +kernel, by decide +kernel⟩, List.mem_of_getElem? (i := 15) (by decide +kernel), List.mem_of_getElem? (i := 322) (by decide +kernel), List.mem_of_getElem? (i := 323) (by decide +kernel)⟩
theorem lw_p2 : lw_okq (⟨"IndexedTable", "leastFreePlace", "()I"⟩, 12) := ⟨⟨by decide +kernel, by decide +kernel⟩, List.mem_of_getElem? (i := 15) (by decide +kernel), List.mem_of_getElem? (i := 326) (by decide +kernel), List.mem_of_getElem? (i := 327) (by decide +kernel)⟩
theorem lw_p3 : lw_okq (⟨"IndexedTable", "wouldClash", "(II)Z"⟩, 12) := ⟨⟨by decide +kernel, by decide +kernel⟩, List.mem_of_getElem? (i := 15) (by decide +kernel), List.mem_of_getElem? (i := 346) (by decide +kernel), List.mem_of_getElem? (i := 347) (by decide +kernel)⟩
theorem lw_p4 : lw_okq (⟨"IndexedTable", "hasGuard", "()Z"⟩, 12) := ⟨⟨by decide +kernel, by decide +kernel⟩, List.mem_of_getElem? (i := 15) (by decide +kernel), List.mem_of_getElem? (i := 350) (by decide +kernel), List.mem_of_getElem? (i := 351) (by decide +kernel)⟩
theorem lw_p5 : lw_okq (⟨"IndexedTable", "clashesIn", "(LIndexedTable$Rows;I)Z"⟩, 12) := ⟨⟨by decide +kernel, by decide +kernel⟩, List.mem_of_getElem? (i := 15) (by decide +kernel), List.mem_of_getElem? (i := 377) (by decide +kernel), List.mem_of_getElem? (i := 378) (by decide +kernel)⟩
theorem lw_p6 : lw_okq (⟨"IndexedTable$Index", "isClash", "(LIndexedTable$Rows;II)Z"⟩, 13) := ⟨⟨by decide +kernel, by decide +kernel⟩, List.mem_of_getElem? (i := 92) (by decide +kernel), List.mem_of_getElem? (i := 386) (by decide +kernel), List.mem_of_getElem? (i := 387) (by decide +kernel)⟩
theorem lw_p7 : lw_okq (⟨"IndexedTable$Index", "haveOneKey", "(LIndexedTable$Images;ILIndexedTable$Images;I)Z"⟩, 13) := ⟨⟨by decide +kernel, by decide +kernel⟩, List.mem_of_getElem? (i := 92) (by decide +kernel), List.mem_of_getElem? (i := 390) (by decide +kernel), List.mem_of_getElem? (i := 391) (by decide +kernel)⟩
theorem lw_p8 : lw_okq (⟨"IndexedTable", "write", "(II)V"⟩, 12) := ⟨⟨by decide +kernel, by decide +kernel⟩, List.mem_of_getElem? (i := 15) (by decide +kernel), List.mem_of_getElem? (i := 398) (by decide +kernel), List.mem_of_getElem? (i := 399) (by decide +kernel)⟩
theorem lw_p9 : lw_okq (⟨"IndexedTable", "tellIndexes", "(I)V"⟩, 12) := ⟨⟨by decide +kernel, by decide +kernel⟩, List.mem_of_getElem? (i := 15) (by decide +kernel), List.mem_of_getElem? (i := 408) (by decide +kernel), List.mem_of_getElem? (i := 409) (by decide +kernel)⟩
theorem lw_p10 : lw_okq (⟨"IndexedTable$Index", "makeEntry", "(LIndexedTable$Images;II)V"⟩, 13) := ⟨⟨by decide +kernel, by decide +kernel⟩, List.mem_of_getElem? (i := 92) (by decide +kernel), List.mem_of_getElem? (i := 416) (by decide +kernel), List.mem_of_getElem? (i := 417) (by decide +kernel)⟩
theorem lw_p11 : lw_okq (⟨"IndexedTable$Tree", "find", "(LIndexedTable$Entries;I)Z"⟩, 17) := ⟨⟨by decide +kernel, by decide +kernel⟩, List.mem_of_getElem? (i := 98) (by decide +kernel), List.mem_of_getElem? (i := 432) (by decide +kernel), List.mem_of_getElem? (i := 433) (by decide +kernel)⟩
theorem lw_p12 : lw_okq (⟨"IndexedTable$Tree", "isLowest", "(I)Z"⟩, 17) := ⟨⟨by decide +kernel, by decide +kernel⟩, List.mem_of_getElem? (i := 98) (by decide +kernel), List.mem_of_getElem? (i := 440) (by decide +kernel), List.mem_of_getElem? (i := 441) (by decide +kernel)⟩
theorem lw_p13 : lw_okq (⟨"IndexedTable$Tree", "putInto", "(IIII)V"⟩, 17) := ⟨⟨by decide +kernel, by decide +kernel⟩, List.mem_of_getElem? (i := 98) (by decide +kernel), List.mem_of_getElem? (i := 449) (by decide +kernel), List.mem_of_getElem? (i := 450) (by decide +kernel)⟩
theorem lw_p14 : lw_okq (⟨"IndexedTable$Tree", "splitUpwards", "()V"⟩, 17) := ⟨⟨by decide +kernel, by decide +kernel⟩, List.mem_of_getElem? (i := 98) (by decide +kernel), List.mem_of_getElem? (i := 454) (by decide +kernel), List.mem_of_getElem? (i := 455) (by decide +kernel)⟩
theorem lw_p15 : lw_okq (⟨"IndexedTable$Tree", "halve", "(II)V"⟩, 17) := ⟨⟨by decide +kernel, by decide +kernel⟩, List.mem_of_getElem? (i := 98) (by decide +kernel), List.mem_of_getElem? (i := 458) (by decide +kernel), List.mem_of_getElem? (i := 459) (by decide +kernel)⟩
def lw_privs_1 : List (MethodName × Nat) := [(⟨"IndexedTable$Tree", "takeNode", "()I"⟩, 17), (⟨"IndexedTable", "isActive", "(I)Z"⟩, 12), (⟨"IndexedTable", "leastFreePlace", "()I"⟩, 12), (⟨"IndexedTable", "wouldClash", "(II)Z"⟩, 12), (⟨"IndexedTable", "hasGuard", "()Z"⟩, 12), (⟨"IndexedTable", "clashesIn", "(LIndexedTable$Rows;I)Z"⟩, 12), (⟨"IndexedTable$Index", "isClash", "(LIndexedTable$Rows;II)Z"⟩, 13), (⟨"IndexedTable$Index", "haveOneKey", "(LIndexedTable$Images;ILIndexedTable$Images;I)Z"⟩, 13), (⟨"IndexedTable", "write", "(II)V"⟩, 12), (⟨"IndexedTable", "tellIndexes", "(I)V"⟩, 12), (⟨"IndexedTable$Index", "makeEntry", "(LIndexedTable$Images;II)V"⟩, 13), (⟨"IndexedTable$Tree", "find", "(LIndexedTable$Entries;I)Z"⟩, 17), (⟨"IndexedTable$Tree", "isLowest", "(I)Z"⟩, 17), (⟨"IndexedTable$Tree", "putInto", "(IIII)V"⟩, 17), (⟨"IndexedTable$Tree", "splitUpwards", "()V"⟩, 17), (⟨"IndexedTable$Tree", "halve", "(II)V"⟩, 17)]
theorem lw_r1 : ∀ q ∈ lw_privs_1, lw_okq q := List.forall_mem_cons.mpr ⟨lw_p0, List.forall_mem_cons.mpr ⟨lw_p1, List.forall_mem_cons.mpr ⟨lw_p2, List.forall_mem_cons.mpr ⟨lw_p3, List.forall_mem_cons.mpr ⟨lw_p4, List.forall_mem_cons.mpr ⟨lw_p5, List.forall_mem_cons.mpr ⟨lw_p6, List.forall_mem_cons.mpr ⟨lw_p7, List.forall_mem_cons.mpr ⟨lw_p8, List.forall_mem_cons.mpr ⟨lw_p9, List.forall_mem_cons.mpr ⟨lw_p10, List.forall_mem_cons.mpr ⟨lw_p11, List.forall_mem_cons.mpr ⟨lw_p12, List.forall_mem_cons.mpr ⟨lw_p13, List.forall_mem_cons.mpr ⟨lw_p14, List.forall_mem_cons.mpr ⟨lw_p15, fun _ h => absurd h List.not_mem_nil⟩⟩⟩⟩⟩⟩⟩⟩⟩⟩⟩⟩⟩⟩⟩⟩
theorem lw_p16 : lw_okq (⟨"IndexedTable$Tree", "takeOut", "(II)V"⟩, 17) := ⟨⟨by decide +kernel, by decide +kernel⟩, List.mem_of_getElem? (i := 98) (by decide +kernel), List.mem_of_getElem? (i := 466) (by decide +kernel), List.mem_of_getElem? (i := 467) (by decide +kernel)⟩
theorem lw_p17 : lw_okq (⟨"IndexedTable$Tree", "goToGreatestBelow", "()V"⟩, 17) := ⟨⟨by decide +kernel, by decide +kernel⟩, List.mem_of_getElem? (i := 98) (by decide +kernel), List.mem_of_getElem? (i := 470) (by decide +kernel), List.mem_of_getElem? (i := 471) (by decide +kernel)⟩
theorem lw_p18 : lw_okq (⟨"IndexedTable$Tree", "mendUpwards", "()V"⟩, 17) := ⟨⟨by decide +kernel, by decide +kernel⟩, List.mem_of_getElem? (i := 98) (by decide +kernel), List.mem_of_getElem? (i := 474) (by decide +kernel), List.mem_of_getElem? (i := 475) (by decide +kernel)⟩
theorem lw_p19 : lw_okq (⟨"IndexedTable$Tree", "takeFromLeft", "(II)V"⟩, 17) := ⟨⟨by decide +kernel, by decide +kernel⟩, List.mem_of_getElem? (i := 98) (by decide +kernel), List.mem_of_getElem? (i := 478) (by decide +kernel), List.mem_of_getElem? (i := 479) (by decide +kernel)⟩
theorem lw_p20 : lw_okq (⟨"IndexedTable$Tree", "takeFromRight", "(II)V"⟩, 17) := ⟨⟨by decide +kernel, by decide +kernel⟩, List.mem_of_getElem? (i := 98) (by decide +kernel), List.mem_of_getElem? (i := 482) (by decide +kernel), List.mem_of_getElem? (i := 483) (by decide +kernel)⟩
theorem lw_p21 : lw_okq (⟨"IndexedTable$Tree", "joinAround", "(II)V"⟩, 17) := ⟨⟨by decide +kernel, by decide +kernel⟩, List.mem_of_getElem? (i := 98) (by decide +kernel), List.mem_of_getElem? (i := 486) (by decide +kernel), List.mem_of_getElem? (i := 487) (by decide +kernel)⟩
theorem lw_p22 : lw_okq (⟨"IndexedTable$Tree", "giveNode", "(I)V"⟩, 17) := ⟨⟨by decide +kernel, by decide +kernel⟩, List.mem_of_getElem? (i := 98) (by decide +kernel), List.mem_of_getElem? (i := 490) (by decide +kernel), List.mem_of_getElem? (i := 491) (by decide +kernel)⟩
theorem lw_p23 : lw_okq (⟨"IndexedTable$Index", "fail", "(I)V"⟩, 13) := ⟨⟨by decide +kernel, by decide +kernel⟩, List.mem_of_getElem? (i := 92) (by decide +kernel), List.mem_of_getElem? (i := 506) (by decide +kernel), List.mem_of_getElem? (i := 507) (by decide +kernel)⟩
theorem lw_p24 : lw_okq (⟨"IndexedTable$Index", "forgetEntries", "()V"⟩, 13) := ⟨⟨by decide +kernel, by decide +kernel⟩, List.mem_of_getElem? (i := 92) (by decide +kernel), List.mem_of_getElem? (i := 510) (by decide +kernel), List.mem_of_getElem? (i := 511) (by decide +kernel)⟩
theorem lw_p25 : lw_okq (⟨"IndexedTable", "isLocked", "(II)Z"⟩, 12) := ⟨⟨by decide +kernel, by decide +kernel⟩, List.mem_of_getElem? (i := 15) (by decide +kernel), List.mem_of_getElem? (i := 540) (by decide +kernel), List.mem_of_getElem? (i := 541) (by decide +kernel)⟩
theorem lw_p26 : lw_okq (⟨"IndexedTable", "hasRow", "(I)Z"⟩, 12) := ⟨⟨by decide +kernel, by decide +kernel⟩, List.mem_of_getElem? (i := 15) (by decide +kernel), List.mem_of_getElem? (i := 547) (by decide +kernel), List.mem_of_getElem? (i := 548) (by decide +kernel)⟩
theorem lw_p27 : lw_okq (⟨"IndexedTable", "undoWouldClash", "(II)Z"⟩, 12) := ⟨⟨by decide +kernel, by decide +kernel⟩, List.mem_of_getElem? (i := 15) (by decide +kernel), List.mem_of_getElem? (i := 573) (by decide +kernel), List.mem_of_getElem? (i := 574) (by decide +kernel)⟩
theorem lw_p28 : lw_okq (⟨"IndexedTable", "undoTo", "(II)I"⟩, 12) := ⟨⟨by decide +kernel, by decide +kernel⟩, List.mem_of_getElem? (i := 15) (by decide +kernel), List.mem_of_getElem? (i := 581) (by decide +kernel), List.mem_of_getElem? (i := 582) (by decide +kernel)⟩
theorem lw_p29 : lw_okq (⟨"IndexedTable", "isIndex", "(I)Z"⟩, 12) := ⟨⟨by decide +kernel, by decide +kernel⟩, List.mem_of_getElem? (i := 15) (by decide +kernel), List.mem_of_getElem? (i := 608) (by decide +kernel), List.mem_of_getElem? (i := 609) (by decide +kernel)⟩
theorem lw_p30 : lw_okq (⟨"IndexedTable$Index", "scanPage", "(LIndexedTable$Rows;)V"⟩, 13) := ⟨⟨by decide +kernel, by decide +kernel⟩, List.mem_of_getElem? (i := 92) (by decide +kernel), List.mem_of_getElem? (i := 621) (by decide +kernel), List.mem_of_getElem? (i := 622) (by decide +kernel)⟩
theorem lw_p31 : lw_okq (⟨"IndexedTable$Picks", "slotOf", "(I)I"⟩, 4) := ⟨⟨by decide +kernel, by decide +kernel⟩, List.mem_of_getElem? (i := 199) (by decide +kernel), List.mem_of_getElem? (i := 630) (by decide +kernel), List.mem_of_getElem? (i := 631) (by decide +kernel)⟩
def lw_privs_2 : List (MethodName × Nat) := [(⟨"IndexedTable$Tree", "takeOut", "(II)V"⟩, 17), (⟨"IndexedTable$Tree", "goToGreatestBelow", "()V"⟩, 17), (⟨"IndexedTable$Tree", "mendUpwards", "()V"⟩, 17), (⟨"IndexedTable$Tree", "takeFromLeft", "(II)V"⟩, 17), (⟨"IndexedTable$Tree", "takeFromRight", "(II)V"⟩, 17), (⟨"IndexedTable$Tree", "joinAround", "(II)V"⟩, 17), (⟨"IndexedTable$Tree", "giveNode", "(I)V"⟩, 17), (⟨"IndexedTable$Index", "fail", "(I)V"⟩, 13), (⟨"IndexedTable$Index", "forgetEntries", "()V"⟩, 13), (⟨"IndexedTable", "isLocked", "(II)Z"⟩, 12), (⟨"IndexedTable", "hasRow", "(I)Z"⟩, 12), (⟨"IndexedTable", "undoWouldClash", "(II)Z"⟩, 12), (⟨"IndexedTable", "undoTo", "(II)I"⟩, 12), (⟨"IndexedTable", "isIndex", "(I)Z"⟩, 12), (⟨"IndexedTable$Index", "scanPage", "(LIndexedTable$Rows;)V"⟩, 13), (⟨"IndexedTable$Picks", "slotOf", "(I)I"⟩, 4)]
theorem lw_r2 : ∀ q ∈ lw_privs_2, lw_okq q := List.forall_mem_cons.mpr ⟨lw_p16, List.forall_mem_cons.mpr ⟨lw_p17, List.forall_mem_cons.mpr ⟨lw_p18, List.forall_mem_cons.mpr ⟨lw_p19, List.forall_mem_cons.mpr ⟨lw_p20, List.forall_mem_cons.mpr ⟨lw_p21, List.forall_mem_cons.mpr ⟨lw_p22, List.forall_mem_cons.mpr ⟨lw_p23, List.forall_mem_cons.mpr ⟨lw_p24, List.forall_mem_cons.mpr ⟨lw_p25, List.forall_mem_cons.mpr ⟨lw_p26, List.forall_mem_cons.mpr ⟨lw_p27, List.forall_mem_cons.mpr ⟨lw_p28, List.forall_mem_cons.mpr ⟨lw_p29, List.forall_mem_cons.mpr ⟨lw_p30, List.forall_mem_cons.mpr ⟨lw_p31, fun _ h => absurd h List.not_mem_nil⟩⟩⟩⟩⟩⟩⟩⟩⟩⟩⟩⟩⟩⟩⟩⟩
theorem lw_p32 : lw_okq (⟨"IndexedTable$Index", "loadSome", "()V"⟩, 13) := ⟨⟨by decide +kernel, by decide +kernel⟩, List.mem_of_getElem? (i := 92) (by decide +kernel), List.mem_of_getElem? (i := 636) (by decide +kernel), List.mem_of_getElem? (i := 637) (by decide +kernel)⟩
theorem lw_p33 : lw_okq (⟨"IndexedTable$Index", "catchUp", "()V"⟩, 13) := ⟨⟨by decide +kernel, by decide +kernel⟩, List.mem_of_getElem? (i := 92) (by decide +kernel), List.mem_of_getElem? (i := 644) (by decide +kernel), List.mem_of_getElem? (i := 645) (by decide +kernel)⟩
theorem lw_p34 : lw_okq (⟨"IndexedTable$Index", "finish", "(LIndexedTable$Rows;)V"⟩, 13) := ⟨⟨by decide +kernel, by decide +kernel⟩, List.mem_of_getElem? (i := 92) (by decide +kernel), List.mem_of_getElem? (i := 660) (by decide +kernel), List.mem_of_getElem? (i := 661) (by decide +kernel)⟩
theorem lw_p35 : lw_okq (⟨"IndexedTable$Index", "leastWithClash", "(LIndexedTable$Rows;)I"⟩, 13) := ⟨⟨by decide +kernel, by decide +kernel⟩, List.mem_of_getElem? (i := 92) (by decide +kernel), List.mem_of_getElem? (i := 664) (by decide +kernel), List.mem_of_getElem? (i := 665) (by decide +kernel)⟩
theorem lw_p36 : lw_okq (⟨"IndexedTable$Tree", "walkAll", "()V"⟩, 17) := ⟨⟨by decide +kernel, by decide +kernel⟩, List.mem_of_getElem? (i := 98) (by decide +kernel), List.mem_of_getElem? (i := 693) (by decide +kernel), List.mem_of_getElem? (i := 694) (by decide +kernel)⟩
theorem lw_p37 : lw_okq (⟨"IndexedTable$Tree", "noteWalked", "(II)V"⟩, 17) := ⟨⟨by decide +kernel, by decide +kernel⟩, List.mem_of_getElem? (i := 98) (by decide +kernel), List.mem_of_getElem? (i := 697) (by decide +kernel), List.mem_of_getElem? (i := 698) (by decide +kernel)⟩
theorem lw_p38 : lw_okq (⟨"IndexedTable", "isReady", "(I)Z"⟩, 12) := ⟨⟨by decide +kernel, by decide +kernel⟩, List.mem_of_getElem? (i := 15) (by decide +kernel), List.mem_of_getElem? (i := 714) (by decide +kernel), List.mem_of_getElem? (i := 715) (by decide +kernel)⟩
theorem lw_p39 : lw_okq (⟨"IndexedTable", "cheapestWay", "()I"⟩, 12) := ⟨⟨by decide +kernel, by decide +kernel⟩, List.mem_of_getElem? (i := 15) (by decide +kernel), List.mem_of_getElem? (i := 718) (by decide +kernel), List.mem_of_getElem? (i := 719) (by decide +kernel)⟩
theorem lw_p40 : lw_okq (⟨"IndexedTable", "costOf", "(I)I"⟩, 12) := ⟨⟨by decide +kernel, by decide +kernel⟩, List.mem_of_getElem? (i := 15) (by decide +kernel), List.mem_of_getElem? (i := 722) (by decide +kernel), List.mem_of_getElem? (i := 723) (by decide +kernel)⟩
theorem lw_p41 : lw_okq (⟨"IndexedTable", "pagesInUse", "()I"⟩, 12) := ⟨⟨by decide +kernel, by decide +kernel⟩, List.mem_of_getElem? (i := 15) (by decide +kernel), List.mem_of_getElem? (i := 726) (by decide +kernel), List.mem_of_getElem? (i := 727) (by decide +kernel)⟩
theorem lw_p42 : lw_okq (⟨"IndexedTable", "answerByScan", "(I)V"⟩, 12) := ⟨⟨by decide +kernel, by decide +kernel⟩, List.mem_of_getElem? (i := 15) (by decide +kernel), List.mem_of_getElem? (i := 740) (by decide +kernel), List.mem_of_getElem? (i := 741) (by decide +kernel)⟩
theorem lw_p43 : lw_okq (⟨"IndexedTable", "fits", "(LIndexedTable$Images;I)Z"⟩, 12) := ⟨⟨by decide +kernel, by decide +kernel⟩, List.mem_of_getElem? (i := 15) (by decide +kernel), List.mem_of_getElem? (i := 748) (by decide +kernel), List.mem_of_getElem? (i := 749) (by decide +kernel)⟩
theorem lw_p44 : lw_okq (⟨"IndexedTable", "tell", "(I)V"⟩, 12) := ⟨⟨by decide +kernel, by decide +kernel⟩, List.mem_of_getElem? (i := 15) (by decide +kernel), List.mem_of_getElem? (i := 752) (by decide +kernel), List.mem_of_getElem? (i := 753) (by decide +kernel)⟩
theorem lw_p45 : lw_okq (⟨"IndexedTable", "answerByIndex", "(ILIndexedTable$Index;)V"⟩, 12) := ⟨⟨by decide +kernel, by decide +kernel⟩, List.mem_of_getElem? (i := 15) (by decide +kernel), List.mem_of_getElem? (i := 756) (by decide +kernel), List.mem_of_getElem? (i := 757) (by decide +kernel)⟩
theorem lw_p46 : lw_okq (⟨"IndexedTable", "activeTransactions", "()I"⟩, 12) := ⟨⟨by decide +kernel, by decide +kernel⟩, List.mem_of_getElem? (i := 15) (by decide +kernel), List.mem_of_getElem? (i := 798) (by decide +kernel), List.mem_of_getElem? (i := 799) (by decide +kernel)⟩
theorem lw_p47 : lw_okq (⟨"IndexedTable", "indexesFrom", "(I)I"⟩, 12) := ⟨⟨by decide +kernel, by decide +kernel⟩, List.mem_of_getElem? (i := 15) (by decide +kernel), List.mem_of_getElem? (i := 802) (by decide +kernel), List.mem_of_getElem? (i := 803) (by decide +kernel)⟩
def lw_privs_3 : List (MethodName × Nat) := [(⟨"IndexedTable$Index", "loadSome", "()V"⟩, 13), (⟨"IndexedTable$Index", "catchUp", "()V"⟩, 13), (⟨"IndexedTable$Index", "finish", "(LIndexedTable$Rows;)V"⟩, 13), (⟨"IndexedTable$Index", "leastWithClash", "(LIndexedTable$Rows;)I"⟩, 13), (⟨"IndexedTable$Tree", "walkAll", "()V"⟩, 17), (⟨"IndexedTable$Tree", "noteWalked", "(II)V"⟩, 17), (⟨"IndexedTable", "isReady", "(I)Z"⟩, 12), (⟨"IndexedTable", "cheapestWay", "()I"⟩, 12), (⟨"IndexedTable", "costOf", "(I)I"⟩, 12), (⟨"IndexedTable", "pagesInUse", "()I"⟩, 12), (⟨"IndexedTable", "answerByScan", "(I)V"⟩, 12), (⟨"IndexedTable", "fits", "(LIndexedTable$Images;I)Z"⟩, 12), (⟨"IndexedTable", "tell", "(I)V"⟩, 12), (⟨"IndexedTable", "answerByIndex", "(ILIndexedTable$Index;)V"⟩, 12), (⟨"IndexedTable", "activeTransactions", "()I"⟩, 12), (⟨"IndexedTable", "indexesFrom", "(I)I"⟩, 12)]
theorem lw_r3 : ∀ q ∈ lw_privs_3, lw_okq q := List.forall_mem_cons.mpr ⟨lw_p32, List.forall_mem_cons.mpr ⟨lw_p33, List.forall_mem_cons.mpr ⟨lw_p34, List.forall_mem_cons.mpr ⟨lw_p35, List.forall_mem_cons.mpr ⟨lw_p36, List.forall_mem_cons.mpr ⟨lw_p37, List.forall_mem_cons.mpr ⟨lw_p38, List.forall_mem_cons.mpr ⟨lw_p39, List.forall_mem_cons.mpr ⟨lw_p40, List.forall_mem_cons.mpr ⟨lw_p41, List.forall_mem_cons.mpr ⟨lw_p42, List.forall_mem_cons.mpr ⟨lw_p43, List.forall_mem_cons.mpr ⟨lw_p44, List.forall_mem_cons.mpr ⟨lw_p45, List.forall_mem_cons.mpr ⟨lw_p46, List.forall_mem_cons.mpr ⟨lw_p47, fun _ h => absurd h List.not_mem_nil⟩⟩⟩⟩⟩⟩⟩⟩⟩⟩⟩⟩⟩⟩⟩⟩
theorem lw_p48 : lw_okq (⟨"IndexedTable$Tree", "nodeFaults", "()I"⟩, 17) := ⟨⟨by decide +kernel, by decide +kernel⟩, List.mem_of_getElem? (i := 98) (by decide +kernel), List.mem_of_getElem? (i := 819) (by decide +kernel), List.mem_of_getElem? (i := 820) (by decide +kernel)⟩
theorem lw_p49 : lw_okq (⟨"IndexedTable$Index", "missing", "(LIndexedTable$Images;I)I"⟩, 13) := ⟨⟨by decide +kernel, by decide +kernel⟩, List.mem_of_getElem? (i := 92) (by decide +kernel), List.mem_of_getElem? (i := 824) (by decide +kernel), List.mem_of_getElem? (i := 825) (by decide +kernel)⟩
theorem lw_p50 : lw_okq (⟨"IndexedTableModel", "isActive", "(I)Z"⟩, 55) := ⟨⟨by decide +kernel, by decide +kernel⟩, List.mem_of_getElem? (i := 832) (by decide +kernel), List.mem_of_getElem? (i := 1013) (by decide +kernel), List.mem_of_getElem? (i := 1014) (by decide +kernel)⟩
theorem lw_p51 : lw_okq (⟨"IndexedTableModel", "isFree", "(I)Z"⟩, 55) := ⟨⟨by decide +kernel, by decide +kernel⟩, List.mem_of_getElem? (i := 832) (by decide +kernel), List.mem_of_getElem? (i := 1020) (by decide +kernel), List.mem_of_getElem? (i := 1021) (by decide +kernel)⟩
theorem lw_p52 : lw_okq (⟨"IndexedTableModel", "write", "(IIZ)I"⟩, 55) := ⟨⟨by decide +kernel, by decide +kernel⟩, List.mem_of_getElem? (i := 832) (by decide +kernel), List.mem_of_getElem? (i := 1024) (by decide +kernel), List.mem_of_getElem? (i := 1025) (by decide +kernel)⟩
theorem lw_p53 : lw_okq (⟨"IndexedTableModel", "keepBefore", "(I)V"⟩, 55) := ⟨⟨by decide +kernel, by decide +kernel⟩, List.mem_of_getElem? (i := 832) (by decide +kernel), List.mem_of_getElem? (i := 1028) (by decide +kernel), List.mem_of_getElem? (i := 1029) (by decide +kernel)⟩
theorem lw_p54 : lw_okq (⟨"IndexedTableModel", "isReady", "(I)Z"⟩, 55) := ⟨⟨by decide +kernel, by decide +kernel⟩, List.mem_of_getElem? (i := 832) (by decide +kernel), List.mem_of_getElem? (i := 1032) (by decide +kernel), List.mem_of_getElem? (i := 1033) (by decide +kernel)⟩
theorem lw_p55 : lw_okq (⟨"IndexedTableModel", "isIndex", "(I)Z"⟩, 55) := ⟨⟨by decide +kernel, by decide +kernel⟩, List.mem_of_getElem? (i := 832) (by decide +kernel), List.mem_of_getElem? (i := 1036) (by decide +kernel), List.mem_of_getElem? (i := 1037) (by decide +kernel)⟩
theorem lw_p56 : lw_okq (⟨"IndexedTableModel", "clashOf", "(II)I"⟩, 55) := ⟨⟨by decide +kernel, by decide +kernel⟩, List.mem_of_getElem? (i := 832) (by decide +kernel), List.mem_of_getElem? (i := 1040) (by decide +kernel), List.mem_of_getElem? (i := 1041) (by decide +kernel)⟩
theorem lw_p57 : lw_okq (⟨"IndexedTableModel", "clash", "(III)Z"⟩, 55) := ⟨⟨by decide +kernel, by decide +kernel⟩, List.mem_of_getElem? (i := 832) (by decide +kernel), List.mem_of_getElem? (i := 1044) (by decide +kernel), List.mem_of_getElem? (i := 1045) (by decide +kernel)⟩
theorem lw_p58 : lw_okq (⟨"IndexedTableModel", "sharesKey", "(IIIZZ)Z"⟩, 55) := ⟨⟨by decide +kernel, by decide +kernel⟩, List.mem_of_getElem? (i := 832) (by decide +kernel), List.mem_of_getElem? (i := 1048) (by decide +kernel), List.mem_of_getElem? (i := 1049) (by decide +kernel)⟩
theorem lw_p59 : lw_okq (⟨"IndexedTableModel", "sameKey", "(I[II[II)Z"⟩, 55) := ⟨⟨by decide +kernel, by decide +kernel⟩, List.mem_of_getElem? (i := 832) (by decide +kernel), List.mem_of_getElem? (i := 1052) (by decide +kernel), List.mem_of_getElem? (i := 1053) (by decide +kernel)⟩
theorem lw_p60 : lw_okq (⟨"IndexedTableModel", "changed", "(I)V"⟩, 55) := ⟨⟨by decide +kernel, by decide +kernel⟩, List.mem_of_getElem? (i := 832) (by decide +kernel), List.mem_of_getElem? (i := 1056) (by decide +kernel), List.mem_of_getElem? (i := 1057) (by decide +kernel)⟩
theorem lw_p61 : lw_okq (⟨"IndexedTableModel", "hadKey", "(I[II)Z"⟩, 55) := ⟨⟨by decide +kernel, by decide +kernel⟩, List.mem_of_getElem? (i := 832) (by decide +kernel), List.mem_of_getElem? (i := 1060) (by decide +kernel), List.mem_of_getElem? (i := 1061) (by decide +kernel)⟩
theorem lw_p62 : lw_okq (⟨"IndexedTableModel", "entryOf", "(I[III)V"⟩, 55) := ⟨⟨by decide +kernel, by decide +kernel⟩, List.mem_of_getElem? (i := 832) (by decide +kernel), List.mem_of_getElem? (i := 1064) (by decide +kernel), List.mem_of_getElem? (i := 1065) (by decide +kernel)⟩
theorem lw_p63 : lw_okq (⟨"IndexedTableModel", "note", "(IZ)V"⟩, 55) := ⟨⟨by decide +kernel, by decide +kernel⟩, List.mem_of_getElem? (i := 832) (by decide +kernel), List.mem_of_getElem? (i := 1068) (by decide +kernel), List.mem_of_getElem? (i := 1069) (by decide +kernel)⟩
def lw_privs_4 : List (MethodName × Nat) := [(⟨"IndexedTable$Tree", "nodeFaults", "()I"⟩, 17), (⟨"IndexedTable$Index", "missing", "(LIndexedTable$Images;I)I"⟩, 13), (⟨"IndexedTableModel", "isActive", "(I)Z"⟩, 55), (⟨"IndexedTableModel", "isFree", "(I)Z"⟩, 55), (⟨"IndexedTableModel", "write", "(IIZ)I"⟩, 55), (⟨"IndexedTableModel", "keepBefore", "(I)V"⟩, 55), (⟨"IndexedTableModel", "isReady", "(I)Z"⟩, 55), (⟨"IndexedTableModel", "isIndex", "(I)Z"⟩, 55), (⟨"IndexedTableModel", "clashOf", "(II)I"⟩, 55), (⟨"IndexedTableModel", "clash", "(III)Z"⟩, 55), (⟨"IndexedTableModel", "sharesKey", "(IIIZZ)Z"⟩, 55), (⟨"IndexedTableModel", "sameKey", "(I[II[II)Z"⟩, 55), (⟨"IndexedTableModel", "changed", "(I)V"⟩, 55), (⟨"IndexedTableModel", "hadKey", "(I[II)Z"⟩, 55), (⟨"IndexedTableModel", "entryOf", "(I[III)V"⟩, 55), (⟨"IndexedTableModel", "note", "(IZ)V"⟩, 55)]
theorem lw_r4 : ∀ q ∈ lw_privs_4, lw_okq q := List.forall_mem_cons.mpr ⟨lw_p48, List.forall_mem_cons.mpr ⟨lw_p49, List.forall_mem_cons.mpr ⟨lw_p50, List.forall_mem_cons.mpr ⟨lw_p51, List.forall_mem_cons.mpr ⟨lw_p52, List.forall_mem_cons.mpr ⟨lw_p53, List.forall_mem_cons.mpr ⟨lw_p54, List.forall_mem_cons.mpr ⟨lw_p55, List.forall_mem_cons.mpr ⟨lw_p56, List.forall_mem_cons.mpr ⟨lw_p57, List.forall_mem_cons.mpr ⟨lw_p58, List.forall_mem_cons.mpr ⟨lw_p59, List.forall_mem_cons.mpr ⟨lw_p60, List.forall_mem_cons.mpr ⟨lw_p61, List.forall_mem_cons.mpr ⟨lw_p62, List.forall_mem_cons.mpr ⟨lw_p63, fun _ h => absurd h List.not_mem_nil⟩⟩⟩⟩⟩⟩⟩⟩⟩⟩⟩⟩⟩⟩⟩⟩
theorem lw_p64 : lw_okq (⟨"IndexedTableModel", "comesToTree", "(I)V"⟩, 55) := ⟨⟨by decide +kernel, by decide +kernel⟩, List.mem_of_getElem? (i := 832) (by decide +kernel), List.mem_of_getElem? (i := 1072) (by decide +kernel), List.mem_of_getElem? (i := 1073) (by decide +kernel)⟩
theorem lw_p65 : lw_okq (⟨"IndexedTableModel", "find", "(I)Z"⟩, 55) := ⟨⟨by decide +kernel, by decide +kernel⟩, List.mem_of_getElem? (i := 832) (by decide +kernel), List.mem_of_getElem? (i := 1076) (by decide +kernel), List.mem_of_getElem? (i := 1077) (by decide +kernel)⟩
theorem lw_p66 : lw_okq (⟨"IndexedTableModel", "slotFor", "(I)I"⟩, 55) := ⟨⟨by decide +kernel, by decide +kernel⟩, List.mem_of_getElem? (i := 832) (by decide +kernel), List.mem_of_getElem? (i := 1080) (by decide +kernel), List.mem_of_getElem? (i := 1081) (by decide +kernel)⟩
theorem lw_p67 : lw_okq (⟨"IndexedTableModel", "compare", "(I)I"⟩, 55) := ⟨⟨by decide +kernel, by decide +kernel⟩, List.mem_of_getElem? (i := 832) (by decide +kernel), List.mem_of_getElem? (i := 1084) (by decide +kernel), List.mem_of_getElem? (i := 1085) (by decide +kernel)⟩
theorem lw_p68 : lw_okq (⟨"IndexedTableModel", "isLowest", "(I)Z"⟩, 55) := ⟨⟨by decide +kernel, by decide +kernel⟩, List.mem_of_getElem? (i := 832) (by decide +kernel), List.mem_of_getElem? (i := 1088) (by decide +kernel), List.mem_of_getElem? (i := 1089) (by decide +kernel)⟩
theorem lw_p69 : lw_okq (⟨"IndexedTableModel", "addAt", "(III)V"⟩, 55) := ⟨⟨by decide +kernel, by decide +kernel⟩, List.mem_of_getElem? (i := 832) (by decide +kernel), List.mem_of_getElem? (i := 1092) (by decide +kernel), List.mem_of_getElem? (i := 1093) (by decide +kernel)⟩
theorem lw_p70 : lw_okq (⟨"IndexedTableModel", "copySlot", "(II)V"⟩, 55) := ⟨⟨by decide +kernel, by decide +kernel⟩, List.mem_of_getElem? (i := 832) (by decide +kernel), List.mem_of_getElem? (i := 1096) (by decide +kernel), List.mem_of_getElem? (i := 1097) (by decide +kernel)⟩
theorem lw_p71 : lw_okq (⟨"IndexedTableModel", "fillSlot", "(I)V"⟩, 55) := ⟨⟨by decide +kernel, by decide +kernel⟩, List.mem_of_getElem? (i := 832) (by decide +kernel), List.mem_of_getElem? (i := 1100) (by decide +kernel), List.mem_of_getElem? (i := 1101) (by decide +kernel)⟩
theorem lw_p72 : lw_okq (⟨"IndexedTableModel", "node", "(I)I"⟩, 55) := ⟨⟨by decide +kernel, by decide +kernel⟩, List.mem_of_getElem? (i := 832) (by decide +kernel), List.mem_of_getElem? (i := 1104) (by decide +kernel), List.mem_of_getElem? (i := 1105) (by decide +kernel)⟩
theorem lw_p73 : lw_okq (⟨"IndexedTableModel", "takeSlot", "(I)V"⟩, 55) := ⟨⟨by decide +kernel, by decide +kernel⟩, List.mem_of_getElem? (i := 832) (by decide +kernel), List.mem_of_getElem? (i := 1108) (by decide +kernel), List.mem_of_getElem? (i := 1109) (by decide +kernel)⟩
theorem lw_p74 : lw_okq (⟨"IndexedTableModel", "goesFromTree", "(I)V"⟩, 55) := ⟨⟨by decide +kernel, by decide +kernel⟩, List.mem_of_getElem? (i := 832) (by decide +kernel), List.mem_of_getElem? (i := 1112) (by decide +kernel), List.mem_of_getElem? (i := 1113) (by decide +kernel)⟩
theorem lw_p75 : lw_okq (⟨"IndexedTableModel", "takeOut", "(III)V"⟩, 55) := ⟨⟨by decide +kernel, by decide +kernel⟩, List.mem_of_getElem? (i := 832) (by decide +kernel), List.mem_of_getElem? (i := 1116) (by decide +kernel), List.mem_of_getElem? (i := 1117) (by decide +kernel)⟩
theorem lw_p76 : lw_okq (⟨"IndexedTableModel", "settle", "()V"⟩, 55) := ⟨⟨by decide +kernel, by decide +kernel⟩, List.mem_of_getElem? (i := 832) (by decide +kernel), List.mem_of_getElem? (i := 1120) (by decide +kernel), List.mem_of_getElem? (i := 1121) (by decide +kernel)⟩
theorem lw_p77 : lw_okq (⟨"IndexedTableModel", "join", "(IIII)V"⟩, 55) := ⟨⟨by decide +kernel, by decide +kernel⟩, List.mem_of_getElem? (i := 832) (by decide +kernel), List.mem_of_getElem? (i := 1124) (by decide +kernel), List.mem_of_getElem? (i := 1125) (by decide +kernel)⟩
theorem lw_p78 : lw_okq (⟨"IndexedTableModel", "fail", "(II)V"⟩, 55) := ⟨⟨by decide +kernel, by decide +kernel⟩, List.mem_of_getElem? (i := 832) (by decide +kernel), List.mem_of_getElem? (i := 1128) (by decide +kernel), List.mem_of_getElem? (i := 1129) (by decide +kernel)⟩
theorem lw_p79 : lw_okq (⟨"IndexedTableModel", "emptyTree", "(I)V"⟩, 55) := ⟨⟨by decide +kernel, by decide +kernel⟩, List.mem_of_getElem? (i := 832) (by decide +kernel), List.mem_of_getElem? (i := 1132) (by decide +kernel), List.mem_of_getElem? (i := 1133) (by decide +kernel)⟩
def lw_privs_5 : List (MethodName × Nat) := [(⟨"IndexedTableModel", "comesToTree", "(I)V"⟩, 55), (⟨"IndexedTableModel", "find", "(I)Z"⟩, 55), (⟨"IndexedTableModel", "slotFor", "(I)I"⟩, 55), (⟨"IndexedTableModel", "compare", "(I)I"⟩, 55), (⟨"IndexedTableModel", "isLowest", "(I)Z"⟩, 55), (⟨"IndexedTableModel", "addAt", "(III)V"⟩, 55), (⟨"IndexedTableModel", "copySlot", "(II)V"⟩, 55), (⟨"IndexedTableModel", "fillSlot", "(I)V"⟩, 55), (⟨"IndexedTableModel", "node", "(I)I"⟩, 55), (⟨"IndexedTableModel", "takeSlot", "(I)V"⟩, 55), (⟨"IndexedTableModel", "goesFromTree", "(I)V"⟩, 55), (⟨"IndexedTableModel", "takeOut", "(III)V"⟩, 55), (⟨"IndexedTableModel", "settle", "()V"⟩, 55), (⟨"IndexedTableModel", "join", "(IIII)V"⟩, 55), (⟨"IndexedTableModel", "fail", "(II)V"⟩, 55), (⟨"IndexedTableModel", "emptyTree", "(I)V"⟩, 55)]
theorem lw_r5 : ∀ q ∈ lw_privs_5, lw_okq q := List.forall_mem_cons.mpr ⟨lw_p64, List.forall_mem_cons.mpr ⟨lw_p65, List.forall_mem_cons.mpr ⟨lw_p66, List.forall_mem_cons.mpr ⟨lw_p67, List.forall_mem_cons.mpr ⟨lw_p68, List.forall_mem_cons.mpr ⟨lw_p69, List.forall_mem_cons.mpr ⟨lw_p70, List.forall_mem_cons.mpr ⟨lw_p71, List.forall_mem_cons.mpr ⟨lw_p72, List.forall_mem_cons.mpr ⟨lw_p73, List.forall_mem_cons.mpr ⟨lw_p74, List.forall_mem_cons.mpr ⟨lw_p75, List.forall_mem_cons.mpr ⟨lw_p76, List.forall_mem_cons.mpr ⟨lw_p77, List.forall_mem_cons.mpr ⟨lw_p78, List.forall_mem_cons.mpr ⟨lw_p79, fun _ h => absurd h List.not_mem_nil⟩⟩⟩⟩⟩⟩⟩⟩⟩⟩⟩⟩⟩⟩⟩⟩
theorem lw_p80 : lw_okq (⟨"IndexedTableModel", "hasKey", "(II[II)Z"⟩, 55) := ⟨⟨by decide +kernel, by decide +kernel⟩, List.mem_of_getElem? (i := 832) (by decide +kernel), List.mem_of_getElem? (i := 1136) (by decide +kernel), List.mem_of_getElem? (i := 1137) (by decide +kernel)⟩
theorem lw_p81 : lw_okq (⟨"IndexedTableModel", "isLocked", "(II)Z"⟩, 55) := ⟨⟨by decide +kernel, by decide +kernel⟩, List.mem_of_getElem? (i := 832) (by decide +kernel), List.mem_of_getElem? (i := 1144) (by decide +kernel), List.mem_of_getElem? (i := 1145) (by decide +kernel)⟩
theorem lw_p82 : lw_okq (⟨"IndexedTableModel", "wouldClash", "(II)Z"⟩, 55) := ⟨⟨by decide +kernel, by decide +kernel⟩, List.mem_of_getElem? (i := 832) (by decide +kernel), List.mem_of_getElem? (i := 1163) (by decide +kernel), List.mem_of_getElem? (i := 1164) (by decide +kernel)⟩
theorem lw_p83 : lw_okq (⟨"IndexedTableModel", "undoTo", "(II)I"⟩, 55) := ⟨⟨by decide +kernel, by decide +kernel⟩, List.mem_of_getElem? (i := 832) (by decide +kernel), List.mem_of_getElem? (i := 1167) (by decide +kernel), List.mem_of_getElem? (i := 1168) (by decide +kernel)⟩
theorem lw_p84 : lw_okq (⟨"IndexedTableModel", "undoOne", "(I)V"⟩, 55) := ⟨⟨by decide +kernel, by decide +kernel⟩, List.mem_of_getElem? (i := 832) (by decide +kernel), List.mem_of_getElem? (i := 1171) (by decide +kernel), List.mem_of_getElem? (i := 1172) (by decide +kernel)⟩
theorem lw_p85 : lw_okq (⟨"IndexedTableModel", "scanStep", "(I)V"⟩, 55) := ⟨⟨by decide +kernel, by decide +kernel⟩, List.mem_of_getElem? (i := 832) (by decide +kernel), List.mem_of_getElem? (i := 1195) (by decide +kernel), List.mem_of_getElem? (i := 1196) (by decide +kernel)⟩
theorem lw_p86 : lw_okq (⟨"IndexedTableModel", "pick", "(I)V"⟩, 55) := ⟨⟨by decide +kernel, by decide +kernel⟩, List.mem_of_getElem? (i := 832) (by decide +kernel), List.mem_of_getElem? (i := 1199) (by decide +kernel), List.mem_of_getElem? (i := 1200) (by decide +kernel)⟩
theorem lw_p87 : lw_okq (⟨"IndexedTableModel", "isBefore", "(I)Z"⟩, 55) := ⟨⟨by decide +kernel, by decide +kernel⟩, List.mem_of_getElem? (i := 832) (by decide +kernel), List.mem_of_getElem? (i := 1203) (by decide +kernel), List.mem_of_getElem? (i := 1204) (by decide +kernel)⟩
theorem lw_p88 : lw_okq (⟨"IndexedTableModel", "loadStep", "(I)V"⟩, 55) := ⟨⟨by decide +kernel, by decide +kernel⟩, List.mem_of_getElem? (i := 832) (by decide +kernel), List.mem_of_getElem? (i := 1207) (by decide +kernel), List.mem_of_getElem? (i := 1208) (by decide +kernel)⟩
theorem lw_p89 : lw_okq (⟨"IndexedTableModel", "catchStep", "(I)V"⟩, 55) := ⟨⟨by decide +kernel, by decide +kernel⟩, List.mem_of_getElem? (i := 832) (by decide +kernel), List.mem_of_getElem? (i := 1211) (by decide +kernel), List.mem_of_getElem? (i := 1212) (by decide +kernel)⟩
theorem lw_p90 : lw_okq (⟨"IndexedTableModel", "goThrough", "(I)V"⟩, 55) := ⟨⟨by decide +kernel, by decide +kernel⟩, List.mem_of_getElem? (i := 832) (by decide +kernel), List.mem_of_getElem? (i := 1219) (by decide +kernel), List.mem_of_getElem? (i := 1220) (by decide +kernel)⟩
theorem lw_p91 : lw_okq (⟨"IndexedTableModel", "heightOf", "(I)I"⟩, 55) := ⟨⟨by decide +kernel, by decide +kernel⟩, List.mem_of_getElem? (i := 832) (by decide +kernel), List.mem_of_getElem? (i := 1223) (by decide +kernel), List.mem_of_getElem? (i := 1224) (by decide +kernel)⟩
theorem lw_p92 : lw_okq (⟨"IndexedTableModel", "nodesOf", "(I)I"⟩, 55) := ⟨⟨by decide +kernel, by decide +kernel⟩, List.mem_of_getElem? (i := 832) (by decide +kernel), List.mem_of_getElem? (i := 1227) (by decide +kernel), List.mem_of_getElem? (i := 1228) (by decide +kernel)⟩
theorem lw_p93 : lw_okq (⟨"IndexedTableModel", "isSeer", "(I)Z"⟩, 55) := ⟨⟨by decide +kernel, by decide +kernel⟩, List.mem_of_getElem? (i := 832) (by decide +kernel), List.mem_of_getElem? (i := 1243) (by decide +kernel), List.mem_of_getElem? (i := 1244) (by decide +kernel)⟩
theorem lw_p94 : lw_okq (⟨"IndexedTableModel", "costOf", "(I)I"⟩, 55) := ⟨⟨by decide +kernel, by decide +kernel⟩, List.mem_of_getElem? (i := 832) (by decide +kernel), List.mem_of_getElem? (i := 1247) (by decide +kernel), List.mem_of_getElem? (i := 1248) (by decide +kernel)⟩
theorem lw_p95 : lw_okq (⟨"IndexedTableModel", "rangeOf", "(I)I"⟩, 55) := ⟨⟨by decide +kernel, by decide +kernel⟩, List.mem_of_getElem? (i := 832) (by decide +kernel), List.mem_of_getElem? (i := 1251) (by decide +kernel), List.mem_of_getElem? (i := 1252) (by decide +kernel)⟩
def lw_privs_6 : List (MethodName × Nat) := [(⟨"IndexedTableModel", "hasKey", "(II[II)Z"⟩, 55), (⟨"IndexedTableModel", "isLocked", "(II)Z"⟩, 55), (⟨"IndexedTableModel", "wouldClash", "(II)Z"⟩, 55), (⟨"IndexedTableModel", "undoTo", "(II)I"⟩, 55), (⟨"IndexedTableModel", "undoOne", "(I)V"⟩, 55), (⟨"IndexedTableModel", "scanStep", "(I)V"⟩, 55), (⟨"IndexedTableModel", "pick", "(I)V"⟩, 55), (⟨"IndexedTableModel", "isBefore", "(I)Z"⟩, 55), (⟨"IndexedTableModel", "loadStep", "(I)V"⟩, 55), (⟨"IndexedTableModel", "catchStep", "(I)V"⟩, 55), (⟨"IndexedTableModel", "goThrough", "(I)V"⟩, 55), (⟨"IndexedTableModel", "heightOf", "(I)I"⟩, 55), (⟨"IndexedTableModel", "nodesOf", "(I)I"⟩, 55), (⟨"IndexedTableModel", "isSeer", "(I)Z"⟩, 55), (⟨"IndexedTableModel", "costOf", "(I)I"⟩, 55), (⟨"IndexedTableModel", "rangeOf", "(I)I"⟩, 55)]
theorem lw_r6 : ∀ q ∈ lw_privs_6, lw_okq q := List.forall_mem_cons.mpr ⟨lw_p80, List.forall_mem_cons.mpr ⟨lw_p81, List.forall_mem_cons.mpr ⟨lw_p82, List.forall_mem_cons.mpr ⟨lw_p83, List.forall_mem_cons.mpr ⟨lw_p84, List.forall_mem_cons.mpr ⟨lw_p85, List.forall_mem_cons.mpr ⟨lw_p86, List.forall_mem_cons.mpr ⟨lw_p87, List.forall_mem_cons.mpr ⟨lw_p88, List.forall_mem_cons.mpr ⟨lw_p89, List.forall_mem_cons.mpr ⟨lw_p90, List.forall_mem_cons.mpr ⟨lw_p91, List.forall_mem_cons.mpr ⟨lw_p92, List.forall_mem_cons.mpr ⟨lw_p93, List.forall_mem_cons.mpr ⟨lw_p94, List.forall_mem_cons.mpr ⟨lw_p95, fun _ h => absurd h List.not_mem_nil⟩⟩⟩⟩⟩⟩⟩⟩⟩⟩⟩⟩⟩⟩⟩⟩
theorem lw_p96 : lw_okq (⟨"IndexedTableModel", "isInRange", "(II)Z"⟩, 55) := ⟨⟨by decide +kernel, by decide +kernel⟩, List.mem_of_getElem? (i := 832) (by decide +kernel), List.mem_of_getElem? (i := 1255) (by decide +kernel), List.mem_of_getElem? (i := 1256) (by decide +kernel)⟩
theorem lw_p97 : lw_okq (⟨"IndexedTableModel", "fits", "(II)Z"⟩, 55) := ⟨⟨by decide +kernel, by decide +kernel⟩, List.mem_of_getElem? (i := 832) (by decide +kernel), List.mem_of_getElem? (i := 1259) (by decide +kernel), List.mem_of_getElem? (i := 1260) (by decide +kernel)⟩
theorem lw_p98 : lw_okq (⟨"IndexedTableModel", "seesAny", "(II)Z"⟩, 55) := ⟨⟨by decide +kernel, by decide +kernel⟩, List.mem_of_getElem? (i := 832) (by decide +kernel), List.mem_of_getElem? (i := 1263) (by decide +kernel), List.mem_of_getElem? (i := 1264) (by decide +kernel)⟩
theorem lw_p99 : lw_okq (⟨"IndexedTableModel", "seen", "(III)I"⟩, 55) := ⟨⟨by decide +kernel, by decide +kernel⟩, List.mem_of_getElem? (i := 832) (by decide +kernel), List.mem_of_getElem? (i := 1267) (by decide +kernel), List.mem_of_getElem? (i := 1268) (by decide +kernel)⟩
theorem lw_p100 : lw_okq (⟨"IndexedTableModel", "hasSeenKey", "(III)Z"⟩, 55) := ⟨⟨by decide +kernel, by decide +kernel⟩, List.mem_of_getElem? (i := 832) (by decide +kernel), List.mem_of_getElem? (i := 1271) (by decide +kernel), List.mem_of_getElem? (i := 1272) (by decide +kernel)⟩
theorem lw_p101 : lw_okq (⟨"IndexedTableModel", "entriesOf", "(I)I"⟩, 55) := ⟨⟨by decide +kernel, by decide +kernel⟩, List.mem_of_getElem? (i := 832) (by decide +kernel), List.mem_of_getElem? (i := 1307) (by decide +kernel), List.mem_of_getElem? (i := 1308) (by decide +kernel)⟩
def lw_privs_7 : List (MethodName × Nat) := [(⟨"IndexedTableModel", "isInRange", "(II)Z"⟩, 55), (⟨"IndexedTableModel", "fits", "(II)Z"⟩, 55), (⟨"IndexedTableModel", "seesAny", "(II)Z"⟩, 55), (⟨"IndexedTableModel", "seen", "(III)I"⟩, 55), (⟨"IndexedTableModel", "hasSeenKey", "(III)Z"⟩, 55), (⟨"IndexedTableModel", "entriesOf", "(I)I"⟩, 55)]
theorem lw_r7 : ∀ q ∈ lw_privs_7, lw_okq q := List.forall_mem_cons.mpr ⟨lw_p96, List.forall_mem_cons.mpr ⟨lw_p97, List.forall_mem_cons.mpr ⟨lw_p98, List.forall_mem_cons.mpr ⟨lw_p99, List.forall_mem_cons.mpr ⟨lw_p100, List.forall_mem_cons.mpr ⟨lw_p101, fun _ h => absurd h List.not_mem_nil⟩⟩⟩⟩⟩⟩
def lw_privs : List (MethodName × Nat) := lw_privs_1 ++ (lw_privs_2 ++ (lw_privs_3 ++ (lw_privs_4 ++ (lw_privs_5 ++ (lw_privs_6 ++ (lw_privs_7))))))
def lw_tbl : List Cond := k2_sels lw_privs ++ tables_1
theorem lw_privs_ok : ∀ q ∈ lw_privs, lw_okq q := by
  show ∀ q ∈ lw_privs_1 ++ (lw_privs_2 ++ (lw_privs_3 ++ (lw_privs_4 ++ (lw_privs_5 ++ (lw_privs_6 ++ (lw_privs_7)))))), lw_okq q
  exact List.forall_mem_append.mpr ⟨lw_r1, List.forall_mem_append.mpr ⟨lw_r2, List.forall_mem_append.mpr ⟨lw_r3, List.forall_mem_append.mpr ⟨lw_r4, List.forall_mem_append.mpr ⟨lw_r5, List.forall_mem_append.mpr ⟨lw_r6, lw_r7⟩⟩⟩⟩⟩⟩
end
section
/-! ===== BEGIN words of one list among another's, by their places ===== -/
theorem goodIn_r {big : List Cond} (ws : List Cond) (ps : List Nat) (hp : ws = ps.filterMap (fun i => big[i]?)) (h : ws.all goodWord = true) : GoodIn big ws := by
  intro w hw
  have h1 := List.all_eq_true.mp h w hw
  rw [hp] at hw
  obtain ⟨i, -, hi⟩ := List.mem_filterMap.mp hw
  have hm : w ∈ big := by first | exact List.mem_of_getElem? hi | exact List.getElem?_mem hi
  exact ⟨hm, good_of_word h1⟩
theorem goodIn_app {big a b : List Cond} (ha : GoodIn big a) (hb : GoodIn big b) : GoodIn big (a ++ b) := fun w h => (List.mem_append.mp h).elim (ha w) (hb w)
theorem goodIn_ca {big a b : List Cond} {c : Cond} (ha : GoodIn big (c :: a)) (hb : GoodIn big b) : GoodIn big (c :: (a ++ b)) := fun w h => (List.mem_cons.mp h).elim (fun e => ha w (List.mem_cons.mpr (Or.inl e))) (fun h => (List.mem_append.mp h).elim (fun h => ha w (List.mem_cons.mpr (Or.inr h))) (hb w))
theorem goodIn_sub {big ws : List Cond} (hm : ∀ w ∈ ws, w ∈ big) (h : ws.all goodWord = true) : GoodIn big ws := fun w hw => ⟨hm w hw, good_of_word (List.all_eq_true.mp h w hw)⟩
/-! ===== END ===== -/

/-! ===== BEGIN printed: names, fields, word lists, decode rows ===== -/
def RX0 : String := "IndexedTable$Entries"
def TX0 : u_T := fun k => match k with
  | _ => ("IndexedTable$Entries", "words", "[I", true)
def tyX0 : Nat → FieldType := fun k => match k with
  | _ => .array .int
abbrev wsX00 : List Cond := u_ws RX0 TX0 1
theorem nmX0 : ∀ a, a < 1 → ∀ b, b < 1 → a ≠ b → (TX0 a).2.1 ≠ (TX0 b).2.1 := by decide +kernel
theorem tyX0_ok : ∀ k, k < 1 → parseFieldDescriptor (TX0 k).2.2.1 = some (tyX0 k) := by decide +kernel
abbrev cX0_init : ByteArray := prog_2_method_1_code
def yX0_init : MethodName := ⟨RX0, "<init>", "(I)V"⟩
abbrev cX0_word : ByteArray := prog_2_method_2_code
def yX0_word : MethodName := ⟨RX0, "word", "(II)I"⟩
abbrev cX0_set : ByteArray := prog_2_method_3_code
def yX0_set : MethodName := ⟨RX0, "set", "(III)V"⟩
abbrev cX0_copy : ByteArray := prog_2_method_4_code
def yX0_copy : MethodName := ⟨RX0, "copy", "(ILIndexedTable$Entries;I)V"⟩
abbrev cX0_compare : ByteArray := prog_2_method_5_code
def yX0_compare : MethodName := ⟨RX0, "compare", "(ILIndexedTable$Entries;I)I"⟩
def RX1 : String := "IndexedTable$Images"
def TX1 : u_T := fun k => match k with
  | _ => ("IndexedTable$Images", "words", "[I", true)
def tyX1 : Nat → FieldType := fun k => match k with
  | _ => .array .int
abbrev wsX10 : List Cond := u_ws RX1 TX1 1
theorem nmX1 : ∀ a, a < 1 → ∀ b, b < 1 → a ≠ b → (TX1 a).2.1 ≠ (TX1 b).2.1 := by decide +kernel
theorem tyX1_ok : ∀ k, k < 1 → parseFieldDescriptor (TX1 k).2.2.1 = some (tyX1 k) := by decide +kernel
abbrev cX1_init : ByteArray := prog_3_method_1_code
def yX1_init : MethodName := ⟨RX1, "<init>", "(I)V"⟩
abbrev cX1_has : ByteArray := prog_3_method_2_code
def yX1_has : MethodName := ⟨RX1, "has", "(I)Z"⟩
abbrev cX1_valueOf : ByteArray := prog_3_method_3_code
def yX1_valueOf : MethodName := ⟨RX1, "valueOf", "(II)I"⟩
abbrev cX1_set : ByteArray := prog_3_method_4_code
def yX1_set : MethodName := ⟨RX1, "set", "(III)V"⟩
abbrev cX1_put : ByteArray := prog_3_method_5_code
def yX1_put : MethodName := ⟨RX1, "put", "(IIIII)V"⟩
abbrev cX1_clear : ByteArray := prog_3_method_6_code
def yX1_clear : MethodName := ⟨RX1, "clear", "(I)V"⟩
abbrev cX1_copy : ByteArray := prog_3_method_7_code
def yX1_copy : MethodName := ⟨RX1, "copy", "(ILIndexedTable$Images;I)V"⟩
abbrev cX1_copyAll : ByteArray := prog_3_method_8_code
def yX1_copyAll : MethodName := ⟨RX1, "copyAll", "(LIndexedTable$Images;)V"⟩
def RX2 : String := "IndexedTable$Index"
def TX2 : u_T := fun k => match k with
  | 0 => ("IndexedTable$Index", "used", "Z", false)
  | 1 => ("IndexedTable$Index", "unique", "Z", false)
  | 2 => ("IndexedTable$Index", "fieldCount", "I", false)
  | 3 => ("IndexedTable$Index", "fields", "[I", true)
  | 4 => ("IndexedTable$Index", "state", "I", false)
  | 5 => ("IndexedTable$Index", "page", "I", false)
  | 6 => ("IndexedTable$Index", "why", "I", false)
  | 7 => ("IndexedTable$Index", "clashOne", "I", false)
  | 8 => ("IndexedTable$Index", "clashOther", "I", false)
  | 9 => ("IndexedTable$Index", "tree", "LIndexedTable$Tree;", true)
  | 10 => ("IndexedTable$Index", "log", "LIndexedTable$Log;", true)
  | 11 => ("IndexedTable$Index", "picks", "LIndexedTable$Picks;", true)
  | _ => ("IndexedTable$Index", "made", "LIndexedTable$Entries;", true)
def tyX2 : Nat → FieldType := fun k => match k with
  | 0 => .boolean
  | 1 => .boolean
  | 2 => .int
  | 3 => .array .int
  | 4 => .int
  | 5 => .int
  | 6 => .int
  | 7 => .int
  | 8 => .int
  | 9 => .object "IndexedTable$Tree"
  | 10 => .object "IndexedTable$Log"
  | 11 => .object "IndexedTable$Picks"
  | _ => .object "IndexedTable$Entries"
abbrev wsX20 : List Cond := u_ws RX2 TX2 13
theorem nmX2 : ∀ a, a < 13 → ∀ b, b < 13 → a ≠ b → (TX2 a).2.1 ≠ (TX2 b).2.1 := by decide +kernel
theorem tyX2_ok : ∀ k, k < 13 → parseFieldDescriptor (TX2 k).2.2.1 = some (tyX2 k) := by decide +kernel
abbrev cX2_init : ByteArray := prog_4_method_1_code
def yX2_init : MethodName := ⟨RX2, "<init>", "()V"⟩
abbrev cX2_start : ByteArray := prog_4_method_2_code
def yX2_start : MethodName := ⟨RX2, "start", "(IIIZ)V"⟩
abbrev cX2_forgetEntries : ByteArray := prog_4_method_3_code
def yX2_forgetEntries : MethodName := ⟨RX2, "forgetEntries", "()V"⟩
abbrev cX2_isBuilding : ByteArray := prog_4_method_4_code
def yX2_isBuilding : MethodName := ⟨RX2, "isBuilding", "()Z"⟩
abbrev cX2_isGuard : ByteArray := prog_4_method_5_code
def yX2_isGuard : MethodName := ⟨RX2, "isGuard", "()Z"⟩
abbrev cX2_haveOneKey : ByteArray := prog_4_method_6_code
def yX2_haveOneKey : MethodName := ⟨RX2, "haveOneKey", "(LIndexedTable$Images;ILIndexedTable$Images;I)Z"⟩
abbrev cX2_makeEntry : ByteArray := prog_4_method_7_code
def yX2_makeEntry : MethodName := ⟨RX2, "makeEntry", "(LIndexedTable$Images;II)V"⟩
abbrev cX2_hasKeyOf : ByteArray := prog_4_method_8_code
def yX2_hasKeyOf : MethodName := ⟨RX2, "hasKeyOf", "(ILIndexedTable$Images;)Z"⟩
abbrev cX2_makeComing : ByteArray := prog_4_method_9_code
def yX2_makeComing : MethodName := ⟨RX2, "makeComing", "(LIndexedTable$Rows;ILIndexedTable$Images;)Z"⟩
abbrev cX2_makeGoing : ByteArray := prog_4_method_10_code
def yX2_makeGoing : MethodName := ⟨RX2, "makeGoing", "(LIndexedTable$Rows;ILIndexedTable$Images;)Z"⟩
abbrev cX2_takeMade : ByteArray := prog_4_method_11_code
def yX2_takeMade : MethodName := ⟨RX2, "takeMade", "(Z)V"⟩
abbrev cX2_fail : ByteArray := prog_4_method_12_code
def yX2_fail : MethodName := ⟨RX2, "fail", "(I)V"⟩
abbrev cX2_takeStep : ByteArray := prog_4_method_13_code
def yX2_takeStep : MethodName := ⟨RX2, "takeStep", "(LIndexedTable$Rows;)V"⟩
abbrev cX2_scanPage : ByteArray := prog_4_method_14_code
def yX2_scanPage : MethodName := ⟨RX2, "scanPage", "(LIndexedTable$Rows;)V"⟩
abbrev cX2_loadSome : ByteArray := prog_4_method_15_code
def yX2_loadSome : MethodName := ⟨RX2, "loadSome", "()V"⟩
abbrev cX2_catchUp : ByteArray := prog_4_method_16_code
def yX2_catchUp : MethodName := ⟨RX2, "catchUp", "()V"⟩
abbrev cX2_finish : ByteArray := prog_4_method_17_code
def yX2_finish : MethodName := ⟨RX2, "finish", "(LIndexedTable$Rows;)V"⟩
abbrev cX2_leastWithClash : ByteArray := prog_4_method_18_code
def yX2_leastWithClash : MethodName := ⟨RX2, "leastWithClash", "(LIndexedTable$Rows;)I"⟩
abbrev cX2_leastClashWith : ByteArray := prog_4_method_19_code
def yX2_leastClashWith : MethodName := ⟨RX2, "leastClashWith", "(LIndexedTable$Rows;I)I"⟩
abbrev cX2_isClash : ByteArray := prog_4_method_20_code
def yX2_isClash : MethodName := ⟨RX2, "isClash", "(LIndexedTable$Rows;II)Z"⟩
abbrev cX2_rangeSize : ByteArray := prog_4_method_21_code
def yX2_rangeSize : MethodName := ⟨RX2, "rangeSize", "([I[I)I"⟩
abbrev cX2_isInRange : ByteArray := prog_4_method_22_code
def yX2_isInRange : MethodName := ⟨RX2, "isInRange", "(I[I[I)Z"⟩
abbrev cX2_faults : ByteArray := prog_4_method_23_code
def yX2_faults : MethodName := ⟨RX2, "faults", "(LIndexedTable$Rows;)I"⟩
abbrev cX2_missing : ByteArray := prog_4_method_24_code
def yX2_missing : MethodName := ⟨RX2, "missing", "(LIndexedTable$Images;I)I"⟩
def RX3 : String := "IndexedTable$Log"
def TX3 : u_T := fun k => match k with
  | 0 => ("IndexedTable$Log", "entries", "LIndexedTable$Entries;", true)
  | 1 => ("IndexedTable$Log", "came", "[Z", true)
  | 2 => ("IndexedTable$Log", "size", "I", false)
  | _ => ("IndexedTable$Log", "first", "I", false)
def tyX3 : Nat → FieldType := fun k => match k with
  | 0 => .object "IndexedTable$Entries"
  | 1 => .array .boolean
  | 2 => .int
  | _ => .int
abbrev wsX30 : List Cond := u_ws RX3 TX3 4
theorem nmX3 : ∀ a, a < 4 → ∀ b, b < 4 → a ≠ b → (TX3 a).2.1 ≠ (TX3 b).2.1 := by decide +kernel
theorem tyX3_ok : ∀ k, k < 4 → parseFieldDescriptor (TX3 k).2.2.1 = some (tyX3 k) := by decide +kernel
abbrev cX3_init : ByteArray := prog_5_method_1_code
def yX3_init : MethodName := ⟨RX3, "<init>", "()V"⟩
abbrev cX3_clear : ByteArray := prog_5_method_2_code
def yX3_clear : MethodName := ⟨RX3, "clear", "()V"⟩
abbrev cX3_isFull : ByteArray := prog_5_method_3_code
def yX3_isFull : MethodName := ⟨RX3, "isFull", "()Z"⟩
abbrev cX3_add : ByteArray := prog_5_method_4_code
def yX3_add : MethodName := ⟨RX3, "add", "(LIndexedTable$Entries;IZ)V"⟩
abbrev cX3_firstSlot : ByteArray := prog_5_method_5_code
def yX3_firstSlot : MethodName := ⟨RX3, "firstSlot", "()I"⟩
abbrev cX3_firstCame : ByteArray := prog_5_method_6_code
def yX3_firstCame : MethodName := ⟨RX3, "firstCame", "()Z"⟩
abbrev cX3_takeFirst : ByteArray := prog_5_method_7_code
def yX3_takeFirst : MethodName := ⟨RX3, "takeFirst", "()V"⟩
def RX4 : String := "IndexedTable$Picks"
def TX4 : u_T := fun k => match k with
  | 0 => ("IndexedTable$Picks", "entries", "LIndexedTable$Entries;", true)
  | 1 => ("IndexedTable$Picks", "order", "[I", true)
  | 2 => ("IndexedTable$Picks", "size", "I", false)
  | _ => ("IndexedTable$Picks", "taken", "I", false)
def tyX4 : Nat → FieldType := fun k => match k with
  | 0 => .object "IndexedTable$Entries"
  | 1 => .array .int
  | 2 => .int
  | _ => .int
abbrev wsX40 : List Cond := u_ws RX4 TX4 4
theorem nmX4 : ∀ a, a < 4 → ∀ b, b < 4 → a ≠ b → (TX4 a).2.1 ≠ (TX4 b).2.1 := by decide +kernel
theorem tyX4_ok : ∀ k, k < 4 → parseFieldDescriptor (TX4 k).2.2.1 = some (tyX4 k) := by decide +kernel
abbrev cX4_init : ByteArray := prog_6_method_1_code
def yX4_init : MethodName := ⟨RX4, "<init>", "()V"⟩
abbrev cX4_clear : ByteArray := prog_6_method_2_code
def yX4_clear : MethodName := ⟨RX4, "clear", "()V"⟩
abbrev cX4_add : ByteArray := prog_6_method_3_code
def yX4_add : MethodName := ⟨RX4, "add", "(LIndexedTable$Entries;I)V"⟩
abbrev cX4_slotOf : ByteArray := prog_6_method_4_code
def yX4_slotOf : MethodName := ⟨RX4, "slotOf", "(I)I"⟩
abbrev cX4_take : ByteArray := prog_6_method_5_code
def yX4_take : MethodName := ⟨RX4, "take", "()I"⟩
def RX5 : String := "IndexedTable$Rows"
def TX5 : u_T := fun k => match k with
  | 0 => ("IndexedTable$Rows", "committed", "LIndexedTable$Images;", true)
  | 1 => ("IndexedTable$Rows", "current", "LIndexedTable$Images;", true)
  | _ => ("IndexedTable$Rows", "writers", "[I", true)
def tyX5 : Nat → FieldType := fun k => match k with
  | 0 => .object "IndexedTable$Images"
  | 1 => .object "IndexedTable$Images"
  | _ => .array .int
abbrev wsX50 : List Cond := u_ws RX5 TX5 3
theorem nmX5 : ∀ a, a < 3 → ∀ b, b < 3 → a ≠ b → (TX5 a).2.1 ≠ (TX5 b).2.1 := by decide +kernel
theorem tyX5_ok : ∀ k, k < 3 → parseFieldDescriptor (TX5 k).2.2.1 = some (tyX5 k) := by decide +kernel
abbrev cX5_init : ByteArray := prog_7_method_1_code
def yX5_init : MethodName := ⟨RX5, "<init>", "()V"⟩
abbrev cX5_copyFrom : ByteArray := prog_7_method_2_code
def yX5_copyFrom : MethodName := ⟨RX5, "copyFrom", "(LIndexedTable$Rows;)V"⟩
abbrev cX5_isFree : ByteArray := prog_7_method_3_code
def yX5_isFree : MethodName := ⟨RX5, "isFree", "(I)Z"⟩
abbrev cX5_placesInUse : ByteArray := prog_7_method_4_code
def yX5_placesInUse : MethodName := ⟨RX5, "placesInUse", "()I"⟩
abbrev cX5_seenBy : ByteArray := prog_7_method_5_code
def yX5_seenBy : MethodName := ⟨RX5, "seenBy", "(II)LIndexedTable$Images;"⟩
def RX6 : String := "IndexedTable$Transaction"
def TX6 : u_T := fun k => match k with
  | 0 => ("IndexedTable$Transaction", "active", "Z", false)
  | 1 => ("IndexedTable$Transaction", "size", "I", false)
  | 2 => ("IndexedTable$Transaction", "places", "[I", true)
  | 3 => ("IndexedTable$Transaction", "writersBefore", "[I", true)
  | _ => ("IndexedTable$Transaction", "imagesBefore", "LIndexedTable$Images;", true)
def tyX6 : Nat → FieldType := fun k => match k with
  | 0 => .boolean
  | 1 => .int
  | 2 => .array .int
  | 3 => .array .int
  | _ => .object "IndexedTable$Images"
abbrev wsX60 : List Cond := u_ws RX6 TX6 5
theorem nmX6 : ∀ a, a < 5 → ∀ b, b < 5 → a ≠ b → (TX6 a).2.1 ≠ (TX6 b).2.1 := by decide +kernel
theorem tyX6_ok : ∀ k, k < 5 → parseFieldDescriptor (TX6 k).2.2.1 = some (tyX6 k) := by decide +kernel
abbrev cX6_init : ByteArray := prog_8_method_1_code
def yX6_init : MethodName := ⟨RX6, "<init>", "()V"⟩
abbrev cX6_isFull : ByteArray := prog_8_method_2_code
def yX6_isFull : MethodName := ⟨RX6, "isFull", "()Z"⟩
abbrev cX6_add : ByteArray := prog_8_method_3_code
def yX6_add : MethodName := ⟨RX6, "add", "(LIndexedTable$Rows;I)V"⟩
abbrev cX6_putBack : ByteArray := prog_8_method_4_code
def yX6_putBack : MethodName := ⟨RX6, "putBack", "(LIndexedTable$Rows;I)V"⟩
def RX7 : String := "IndexedTable$Tree"
def TX7 : u_T := fun k => match k with
  | 0 => ("IndexedTable$Tree", "entries", "LIndexedTable$Entries;", true)
  | 1 => ("IndexedTable$Tree", "spareEntries", "[I", true)
  | 2 => ("IndexedTable$Tree", "spareEntryCount", "I", false)
  | 3 => ("IndexedTable$Tree", "slots", "[I", true)
  | 4 => ("IndexedTable$Tree", "kids", "[I", true)
  | 5 => ("IndexedTable$Tree", "sizes", "[I", true)
  | 6 => ("IndexedTable$Tree", "spareNodes", "[I", true)
  | 7 => ("IndexedTable$Tree", "spareNodeCount", "I", false)
  | 8 => ("IndexedTable$Tree", "root", "I", false)
  | 9 => ("IndexedTable$Tree", "pathNodes", "[I", true)
  | 10 => ("IndexedTable$Tree", "pathSlots", "[I", true)
  | 11 => ("IndexedTable$Tree", "pathEnd", "I", false)
  | 12 => ("IndexedTable$Tree", "walk", "[I", true)
  | 13 => ("IndexedTable$Tree", "walkDepths", "[I", true)
  | 14 => ("IndexedTable$Tree", "walked", "Z", false)
  | 15 => ("IndexedTable$Tree", "walkSize", "I", false)
  | _ => ("IndexedTable$Tree", "queue", "[I", true)
def tyX7 : Nat → FieldType := fun k => match k with
  | 0 => .object "IndexedTable$Entries"
  | 1 => .array .int
  | 2 => .int
  | 3 => .array .int
  | 4 => .array .int
  | 5 => .array .int
  | 6 => .array .int
  | 7 => .int
  | 8 => .int
  | 9 => .array .int
  | 10 => .array .int
  | 11 => .int
  | 12 => .array .int
  | 13 => .array .int
  | 14 => .boolean
  | 15 => .int
  | _ => .array .int
abbrev wsX70 : List Cond := u_ws RX7 TX7 17
theorem nmX7 : ∀ a, a < 17 → ∀ b, b < 17 → a ≠ b → (TX7 a).2.1 ≠ (TX7 b).2.1 := by decide +kernel
theorem tyX7_ok : ∀ k, k < 17 → parseFieldDescriptor (TX7 k).2.2.1 = some (tyX7 k) := by decide +kernel
abbrev cX7_init : ByteArray := prog_9_method_1_code
def yX7_init : MethodName := ⟨RX7, "<init>", "()V"⟩
abbrev cX7_empty : ByteArray := prog_9_method_2_code
def yX7_empty : MethodName := ⟨RX7, "empty", "()V"⟩
abbrev cX7_size : ByteArray := prog_9_method_3_code
def yX7_size : MethodName := ⟨RX7, "size", "()I"⟩
abbrev cX7_nodes : ByteArray := prog_9_method_4_code
def yX7_nodes : MethodName := ⟨RX7, "nodes", "()I"⟩
abbrev cX7_height : ByteArray := prog_9_method_5_code
def yX7_height : MethodName := ⟨RX7, "height", "()I"⟩
abbrev cX7_wordAt : ByteArray := prog_9_method_6_code
def yX7_wordAt : MethodName := ⟨RX7, "wordAt", "(II)I"⟩
abbrev cX7_depthAt : ByteArray := prog_9_method_7_code
def yX7_depthAt : MethodName := ⟨RX7, "depthAt", "(I)I"⟩
abbrev cX7_holds : ByteArray := prog_9_method_8_code
def yX7_holds : MethodName := ⟨RX7, "holds", "(LIndexedTable$Entries;I)Z"⟩
abbrev cX7_add : ByteArray := prog_9_method_9_code
def yX7_add : MethodName := ⟨RX7, "add", "(LIndexedTable$Entries;I)V"⟩
abbrev cX7_cut : ByteArray := prog_9_method_10_code
def yX7_cut : MethodName := ⟨RX7, "cut", "(LIndexedTable$Entries;I)V"⟩
abbrev cX7_isLowest : ByteArray := prog_9_method_11_code
def yX7_isLowest : MethodName := ⟨RX7, "isLowest", "(I)Z"⟩
abbrev cX7_takeNode : ByteArray := prog_9_method_12_code
def yX7_takeNode : MethodName := ⟨RX7, "takeNode", "()I"⟩
abbrev cX7_giveNode : ByteArray := prog_9_method_13_code
def yX7_giveNode : MethodName := ⟨RX7, "giveNode", "(I)V"⟩
abbrev cX7_find : ByteArray := prog_9_method_14_code
def yX7_find : MethodName := ⟨RX7, "find", "(LIndexedTable$Entries;I)Z"⟩
abbrev cX7_goToGreatestBelow : ByteArray := prog_9_method_15_code
def yX7_goToGreatestBelow : MethodName := ⟨RX7, "goToGreatestBelow", "()V"⟩
abbrev cX7_putInto : ByteArray := prog_9_method_16_code
def yX7_putInto : MethodName := ⟨RX7, "putInto", "(IIII)V"⟩
abbrev cX7_takeOut : ByteArray := prog_9_method_17_code
def yX7_takeOut : MethodName := ⟨RX7, "takeOut", "(II)V"⟩
abbrev cX7_splitUpwards : ByteArray := prog_9_method_18_code
def yX7_splitUpwards : MethodName := ⟨RX7, "splitUpwards", "()V"⟩
abbrev cX7_halve : ByteArray := prog_9_method_19_code
def yX7_halve : MethodName := ⟨RX7, "halve", "(II)V"⟩
abbrev cX7_mendUpwards : ByteArray := prog_9_method_20_code
def yX7_mendUpwards : MethodName := ⟨RX7, "mendUpwards", "()V"⟩
abbrev cX7_takeFromLeft : ByteArray := prog_9_method_21_code
def yX7_takeFromLeft : MethodName := ⟨RX7, "takeFromLeft", "(II)V"⟩
abbrev cX7_takeFromRight : ByteArray := prog_9_method_22_code
def yX7_takeFromRight : MethodName := ⟨RX7, "takeFromRight", "(II)V"⟩
abbrev cX7_joinAround : ByteArray := prog_9_method_23_code
def yX7_joinAround : MethodName := ⟨RX7, "joinAround", "(II)V"⟩
abbrev cX7_walkAll : ByteArray := prog_9_method_24_code
def yX7_walkAll : MethodName := ⟨RX7, "walkAll", "()V"⟩
abbrev cX7_noteWalked : ByteArray := prog_9_method_25_code
def yX7_noteWalked : MethodName := ⟨RX7, "noteWalked", "(II)V"⟩
abbrev cX7_faults : ByteArray := prog_9_method_26_code
def yX7_faults : MethodName := ⟨RX7, "faults", "()I"⟩
abbrev cX7_nodeFaults : ByteArray := prog_9_method_27_code
def yX7_nodeFaults : MethodName := ⟨RX7, "nodeFaults", "()I"⟩
def RX8 : String := "IndexedTable"
def TX8 : u_T := fun k => match k with
  | 0 => ("IndexedTable", "rows", "LIndexedTable$Rows;", true)
  | 1 => ("IndexedTable", "trial", "LIndexedTable$Rows;", true)
  | 2 => ("IndexedTable", "transactions", "[LIndexedTable$Transaction;", true)
  | 3 => ("IndexedTable", "indexes", "[LIndexedTable$Index;", true)
  | 4 => ("IndexedTable", "next", "LIndexedTable$Images;", true)
  | 5 => ("IndexedTable", "replaced", "LIndexedTable$Images;", true)
  | 6 => ("IndexedTable", "lows", "[I", true)
  | 7 => ("IndexedTable", "highs", "[I", true)
  | 8 => ("IndexedTable", "told", "[I", true)
  | 9 => ("IndexedTable", "toldSize", "I", false)
  | 10 => ("IndexedTable", "askedWay", "I", false)
  | _ => ("IndexedTable", "lookedAt", "I", false)
def tyX8 : Nat → FieldType := fun k => match k with
  | 0 => .object "IndexedTable$Rows"
  | 1 => .object "IndexedTable$Rows"
  | 2 => .array (.object "IndexedTable$Transaction")
  | 3 => .array (.object "IndexedTable$Index")
  | 4 => .object "IndexedTable$Images"
  | 5 => .object "IndexedTable$Images"
  | 6 => .array .int
  | 7 => .array .int
  | 8 => .array .int
  | 9 => .int
  | 10 => .int
  | _ => .int
abbrev wsX80 : List Cond := u_ws RX8 TX8 12
theorem nmX8 : ∀ a, a < 12 → ∀ b, b < 12 → a ≠ b → (TX8 a).2.1 ≠ (TX8 b).2.1 := by decide +kernel
theorem tyX8_ok : ∀ k, k < 12 → parseFieldDescriptor (TX8 k).2.2.1 = some (tyX8 k) := by decide +kernel
abbrev cX8_init : ByteArray := prog_1_method_1_code
def yX8_init : MethodName := ⟨RX8, "<init>", "()V"⟩
abbrev cX8_begin : ByteArray := prog_1_method_2_code
def yX8_begin : MethodName := ⟨RX8, "begin", "()I"⟩
abbrev cX8_insert : ByteArray := prog_1_method_3_code
def yX8_insert : MethodName := ⟨RX8, "insert", "(IIIII)I"⟩
abbrev cX8_update : ByteArray := prog_1_method_4_code
def yX8_update : MethodName := ⟨RX8, "update", "(IIII)I"⟩
abbrev cX8_remove : ByteArray := prog_1_method_5_code
def yX8_remove : MethodName := ⟨RX8, "remove", "(II)I"⟩
abbrev cX8_records : ByteArray := prog_1_method_6_code
def yX8_records : MethodName := ⟨RX8, "records", "(I)I"⟩
abbrev cX8_undo : ByteArray := prog_1_method_7_code
def yX8_undo : MethodName := ⟨RX8, "undo", "(II)I"⟩
abbrev cX8_commit : ByteArray := prog_1_method_8_code
def yX8_commit : MethodName := ⟨RX8, "commit", "(I)I"⟩
abbrev cX8_abort : ByteArray := prog_1_method_9_code
def yX8_abort : MethodName := ⟨RX8, "abort", "(I)I"⟩
abbrev cX8_isActive : ByteArray := prog_1_method_10_code
def yX8_isActive : MethodName := ⟨RX8, "isActive", "(I)Z"⟩
abbrev cX8_isPlace : ByteArray := prog_1_method_11_code
def yX8_isPlace : MethodName := ⟨RX8, "isPlace", "(I)Z"⟩
abbrev cX8_isField : ByteArray := prog_1_method_12_code
def yX8_isField : MethodName := ⟨RX8, "isField", "(I)Z"⟩
abbrev cX8_isLocked : ByteArray := prog_1_method_13_code
def yX8_isLocked : MethodName := ⟨RX8, "isLocked", "(II)Z"⟩
abbrev cX8_hasRow : ByteArray := prog_1_method_14_code
def yX8_hasRow : MethodName := ⟨RX8, "hasRow", "(I)Z"⟩
abbrev cX8_leastFreePlace : ByteArray := prog_1_method_15_code
def yX8_leastFreePlace : MethodName := ⟨RX8, "leastFreePlace", "()I"⟩
abbrev cX8_write : ByteArray := prog_1_method_16_code
def yX8_write : MethodName := ⟨RX8, "write", "(II)V"⟩
abbrev cX8_undoTo : ByteArray := prog_1_method_17_code
def yX8_undoTo : MethodName := ⟨RX8, "undoTo", "(II)I"⟩
abbrev cX8_tellIndexes : ByteArray := prog_1_method_18_code
def yX8_tellIndexes : MethodName := ⟨RX8, "tellIndexes", "(I)V"⟩
abbrev cX8_wouldClash : ByteArray := prog_1_method_19_code
def yX8_wouldClash : MethodName := ⟨RX8, "wouldClash", "(II)Z"⟩
abbrev cX8_undoWouldClash : ByteArray := prog_1_method_20_code
def yX8_undoWouldClash : MethodName := ⟨RX8, "undoWouldClash", "(II)Z"⟩
abbrev cX8_hasGuard : ByteArray := prog_1_method_21_code
def yX8_hasGuard : MethodName := ⟨RX8, "hasGuard", "()Z"⟩
abbrev cX8_clashesIn : ByteArray := prog_1_method_22_code
def yX8_clashesIn : MethodName := ⟨RX8, "clashesIn", "(LIndexedTable$Rows;I)Z"⟩
abbrev cX8_index : ByteArray := prog_1_method_23_code
def yX8_index : MethodName := ⟨RX8, "index", "(IIIZ)I"⟩
abbrev cX8_drop : ByteArray := prog_1_method_24_code
def yX8_drop : MethodName := ⟨RX8, "drop", "(I)I"⟩
abbrev cX8_step : ByteArray := prog_1_method_25_code
def yX8_step : MethodName := ⟨RX8, "step", "(II)I"⟩
abbrev cX8_info : ByteArray := prog_1_method_26_code
def yX8_info : MethodName := ⟨RX8, "info", "(II)I"⟩
abbrev cX8_entry : ByteArray := prog_1_method_27_code
def yX8_entry : MethodName := ⟨RX8, "entry", "(III)I"⟩
abbrev cX8_isIndex : ByteArray := prog_1_method_28_code
def yX8_isIndex : MethodName := ⟨RX8, "isIndex", "(I)Z"⟩
abbrev cX8_isKey : ByteArray := prog_1_method_29_code
def yX8_isKey : MethodName := ⟨RX8, "isKey", "(III)Z"⟩
abbrev cX8_where : ByteArray := prog_1_method_30_code
def yX8_where : MethodName := ⟨RX8, "where", "(III)I"⟩
abbrev cX8_ask : ByteArray := prog_1_method_31_code
def yX8_ask : MethodName := ⟨RX8, "ask", "(II)I"⟩
abbrev cX8_answer : ByteArray := prog_1_method_32_code
def yX8_answer : MethodName := ⟨RX8, "answer", "(I)I"⟩
abbrev cX8_asked : ByteArray := prog_1_method_33_code
def yX8_asked : MethodName := ⟨RX8, "asked", "(I)I"⟩
abbrev cX8_cost : ByteArray := prog_1_method_34_code
def yX8_cost : MethodName := ⟨RX8, "cost", "(I)I"⟩
abbrev cX8_isReady : ByteArray := prog_1_method_35_code
def yX8_isReady : MethodName := ⟨RX8, "isReady", "(I)Z"⟩
abbrev cX8_cheapestWay : ByteArray := prog_1_method_36_code
def yX8_cheapestWay : MethodName := ⟨RX8, "cheapestWay", "()I"⟩
abbrev cX8_costOf : ByteArray := prog_1_method_37_code
def yX8_costOf : MethodName := ⟨RX8, "costOf", "(I)I"⟩
abbrev cX8_pagesInUse : ByteArray := prog_1_method_38_code
def yX8_pagesInUse : MethodName := ⟨RX8, "pagesInUse", "()I"⟩
abbrev cX8_answerByScan : ByteArray := prog_1_method_39_code
def yX8_answerByScan : MethodName := ⟨RX8, "answerByScan", "(I)V"⟩
abbrev cX8_answerByIndex : ByteArray := prog_1_method_40_code
def yX8_answerByIndex : MethodName := ⟨RX8, "answerByIndex", "(ILIndexedTable$Index;)V"⟩
abbrev cX8_fits : ByteArray := prog_1_method_41_code
def yX8_fits : MethodName := ⟨RX8, "fits", "(LIndexedTable$Images;I)Z"⟩
abbrev cX8_tell : ByteArray := prog_1_method_42_code
def yX8_tell : MethodName := ⟨RX8, "tell", "(I)V"⟩
abbrev cX8_sees : ByteArray := prog_1_method_43_code
def yX8_sees : MethodName := ⟨RX8, "sees", "(II)I"⟩
abbrev cX8_field : ByteArray := prog_1_method_44_code
def yX8_field : MethodName := ⟨RX8, "field", "(III)I"⟩
abbrev cX8_writer : ByteArray := prog_1_method_45_code
def yX8_writer : MethodName := ⟨RX8, "writer", "(I)I"⟩
abbrev cX8_count : ByteArray := prog_1_method_46_code
def yX8_count : MethodName := ⟨RX8, "count", "(I)I"⟩
abbrev cX8_audit : ByteArray := prog_1_method_47_code
def yX8_audit : MethodName := ⟨RX8, "audit", "()I"⟩
abbrev cX8_activeTransactions : ByteArray := prog_1_method_48_code
def yX8_activeTransactions : MethodName := ⟨RX8, "activeTransactions", "()I"⟩
abbrev cX8_indexesFrom : ByteArray := prog_1_method_49_code
def yX8_indexesFrom : MethodName := ⟨RX8, "indexesFrom", "(I)I"⟩
def RX9 : String := "IndexedTableModel"
def TX9 : u_T := fun k => match k with
  | 0 => ("IndexedTableModel", "committed", "[I", true)
  | 1 => ("IndexedTableModel", "current", "[I", true)
  | 2 => ("IndexedTableModel", "isCommitted", "[Z", true)
  | 3 => ("IndexedTableModel", "isCurrent", "[Z", true)
  | 4 => ("IndexedTableModel", "writer", "[I", true)
  | 5 => ("IndexedTableModel", "active", "[Z", true)
  | 6 => ("IndexedTableModel", "records", "[I", true)
  | 7 => ("IndexedTableModel", "recordPlace", "[I", true)
  | 8 => ("IndexedTableModel", "recordThere", "[Z", true)
  | 9 => ("IndexedTableModel", "recordImage", "[I", true)
  | 10 => ("IndexedTableModel", "recordWriter", "[I", true)
  | 11 => ("IndexedTableModel", "used", "[Z", true)
  | 12 => ("IndexedTableModel", "fieldCount", "[I", true)
  | 13 => ("IndexedTableModel", "fields", "[I", true)
  | 14 => ("IndexedTableModel", "unique", "[Z", true)
  | 15 => ("IndexedTableModel", "state", "[I", true)
  | 16 => ("IndexedTableModel", "page", "[I", true)
  | 17 => ("IndexedTableModel", "why", "[I", true)
  | 18 => ("IndexedTableModel", "clashOne", "[I", true)
  | 19 => ("IndexedTableModel", "clashOther", "[I", true)
  | 20 => ("IndexedTableModel", "logged", "[I", true)
  | 21 => ("IndexedTableModel", "logCame", "[Z", true)
  | 22 => ("IndexedTableModel", "logKey", "[I", true)
  | 23 => ("IndexedTableModel", "logPlace", "[I", true)
  | 24 => ("IndexedTableModel", "picked", "[I", true)
  | 25 => ("IndexedTableModel", "loaded", "[I", true)
  | 26 => ("IndexedTableModel", "pickedKey", "[I", true)
  | 27 => ("IndexedTableModel", "pickedPlace", "[I", true)
  | 28 => ("IndexedTableModel", "root", "[I", true)
  | 29 => ("IndexedTableModel", "taken", "[Z", true)
  | 30 => ("IndexedTableModel", "count", "[I", true)
  | 31 => ("IndexedTableModel", "key", "[I", true)
  | 32 => ("IndexedTableModel", "place", "[I", true)
  | 33 => ("IndexedTableModel", "child", "[I", true)
  | 34 => ("IndexedTableModel", "low", "[I", true)
  | 35 => ("IndexedTableModel", "high", "[I", true)
  | 36 => ("IndexedTableModel", "answers", "I", false)
  | 37 => ("IndexedTableModel", "answer", "[I", true)
  | 38 => ("IndexedTableModel", "way", "I", false)
  | 39 => ("IndexedTableModel", "looked", "I", false)
  | 40 => ("IndexedTableModel", "at", "[I", true)
  | 41 => ("IndexedTableModel", "atPlace", "I", false)
  | 42 => ("IndexedTableModel", "deep", "I", false)
  | 43 => ("IndexedTableModel", "path", "[I", true)
  | 44 => ("IndexedTableModel", "turn", "[I", true)
  | 45 => ("IndexedTableModel", "ordered", "I", false)
  | 46 => ("IndexedTableModel", "slots", "[I", true)
  | 47 => ("IndexedTableModel", "above", "[I", true)
  | 48 => ("IndexedTableModel", "before", "[I", true)
  | 49 => ("IndexedTableModel", "beforeCommitted", "Z", false)
  | 50 => ("IndexedTableModel", "beforeCurrent", "Z", false)
  | 51 => ("IndexedTableModel", "image", "[I", true)
  | 52 => ("IndexedTableModel", "triedImage", "[I", true)
  | 53 => ("IndexedTableModel", "triedThere", "[Z", true)
  | _ => ("IndexedTableModel", "triedWriter", "[I", true)
def tyX9 : Nat → FieldType := fun k => match k with
  | 0 => .array .int
  | 1 => .array .int
  | 2 => .array .boolean
  | 3 => .array .boolean
  | 4 => .array .int
  | 5 => .array .boolean
  | 6 => .array .int
  | 7 => .array .int
  | 8 => .array .boolean
  | 9 => .array .int
  | 10 => .array .int
  | 11 => .array .boolean
  | 12 => .array .int
  | 13 => .array .int
  | 14 => .array .boolean
  | 15 => .array .int
  | 16 => .array .int
  | 17 => .array .int
  | 18 => .array .int
  | 19 => .array .int
  | 20 => .array .int
  | 21 => .array .boolean
  | 22 => .array .int
  | 23 => .array .int
  | 24 => .array .int
  | 25 => .array .int
  | 26 => .array .int
  | 27 => .array .int
  | 28 => .array .int
  | 29 => .array .boolean
  | 30 => .array .int
  | 31 => .array .int
  | 32 => .array .int
  | 33 => .array .int
  | 34 => .array .int
  | 35 => .array .int
  | 36 => .int
  | 37 => .array .int
  | 38 => .int
  | 39 => .int
  | 40 => .array .int
  | 41 => .int
  | 42 => .int
  | 43 => .array .int
  | 44 => .array .int
  | 45 => .int
  | 46 => .array .int
  | 47 => .array .int
  | 48 => .array .int
  | 49 => .boolean
  | 50 => .boolean
  | 51 => .array .int
  | 52 => .array .int
  | 53 => .array .boolean
  | _ => .array .int
abbrev wsX90 : List Cond := u_ws RX9 TX9 55
theorem nmX9 : ∀ a, a < 55 → ∀ b, b < 55 → a ≠ b → (TX9 a).2.1 ≠ (TX9 b).2.1 := by decide +kernel
theorem tyX9_ok : ∀ k, k < 55 → parseFieldDescriptor (TX9 k).2.2.1 = some (tyX9 k) := by decide +kernel
abbrev cX9_init : ByteArray := prog_11_method_1_code
def yX9_init : MethodName := ⟨RX9, "<init>", "()V"⟩
abbrev cX9_in : ByteArray := prog_11_method_2_code
def yX9_in : MethodName := ⟨RX9, "in", "(III)Z"⟩
abbrev cX9_isActive : ByteArray := prog_11_method_3_code
def yX9_isActive : MethodName := ⟨RX9, "isActive", "(I)Z"⟩
abbrev cX9_isIndex : ByteArray := prog_11_method_4_code
def yX9_isIndex : MethodName := ⟨RX9, "isIndex", "(I)Z"⟩
abbrev cX9_isReady : ByteArray := prog_11_method_5_code
def yX9_isReady : MethodName := ⟨RX9, "isReady", "(I)Z"⟩
abbrev cX9_isPlace : ByteArray := prog_11_method_6_code
def yX9_isPlace : MethodName := ⟨RX9, "isPlace", "(I)Z"⟩
abbrev cX9_isFree : ByteArray := prog_11_method_7_code
def yX9_isFree : MethodName := ⟨RX9, "isFree", "(I)Z"⟩
abbrev cX9_entryOf : ByteArray := prog_11_method_8_code
def yX9_entryOf : MethodName := ⟨RX9, "entryOf", "(I[III)V"⟩
abbrev cX9_compare : ByteArray := prog_11_method_9_code
def yX9_compare : MethodName := ⟨RX9, "compare", "(I)I"⟩
abbrev cX9_copySlot : ByteArray := prog_11_method_10_code
def yX9_copySlot : MethodName := ⟨RX9, "copySlot", "(II)V"⟩
abbrev cX9_fillSlot : ByteArray := prog_11_method_11_code
def yX9_fillSlot : MethodName := ⟨RX9, "fillSlot", "(I)V"⟩
abbrev cX9_node : ByteArray := prog_11_method_12_code
def yX9_node : MethodName := ⟨RX9, "node", "(I)I"⟩
abbrev cX9_emptyTree : ByteArray := prog_11_method_13_code
def yX9_emptyTree : MethodName := ⟨RX9, "emptyTree", "(I)V"⟩
abbrev cX9_isLowest : ByteArray := prog_11_method_14_code
def yX9_isLowest : MethodName := ⟨RX9, "isLowest", "(I)Z"⟩
abbrev cX9_slotFor : ByteArray := prog_11_method_15_code
def yX9_slotFor : MethodName := ⟨RX9, "slotFor", "(I)I"⟩
abbrev cX9_find : ByteArray := prog_11_method_16_code
def yX9_find : MethodName := ⟨RX9, "find", "(I)Z"⟩
abbrev cX9_addAt : ByteArray := prog_11_method_17_code
def yX9_addAt : MethodName := ⟨RX9, "addAt", "(III)V"⟩
abbrev cX9_takeSlot : ByteArray := prog_11_method_18_code
def yX9_takeSlot : MethodName := ⟨RX9, "takeSlot", "(I)V"⟩
abbrev cX9_comesToTree : ByteArray := prog_11_method_19_code
def yX9_comesToTree : MethodName := ⟨RX9, "comesToTree", "(I)V"⟩
abbrev cX9_takeOut : ByteArray := prog_11_method_20_code
def yX9_takeOut : MethodName := ⟨RX9, "takeOut", "(III)V"⟩
abbrev cX9_goesFromTree : ByteArray := prog_11_method_21_code
def yX9_goesFromTree : MethodName := ⟨RX9, "goesFromTree", "(I)V"⟩
abbrev cX9_settle : ByteArray := prog_11_method_22_code
def yX9_settle : MethodName := ⟨RX9, "settle", "()V"⟩
abbrev cX9_join : ByteArray := prog_11_method_23_code
def yX9_join : MethodName := ⟨RX9, "join", "(IIII)V"⟩
abbrev cX9_goThrough : ByteArray := prog_11_method_24_code
def yX9_goThrough : MethodName := ⟨RX9, "goThrough", "(I)V"⟩
abbrev cX9_heightOf : ByteArray := prog_11_method_25_code
def yX9_heightOf : MethodName := ⟨RX9, "heightOf", "(I)I"⟩
abbrev cX9_nodesOf : ByteArray := prog_11_method_26_code
def yX9_nodesOf : MethodName := ⟨RX9, "nodesOf", "(I)I"⟩
abbrev cX9_fail : ByteArray := prog_11_method_27_code
def yX9_fail : MethodName := ⟨RX9, "fail", "(II)V"⟩
abbrev cX9_note : ByteArray := prog_11_method_28_code
def yX9_note : MethodName := ⟨RX9, "note", "(IZ)V"⟩
abbrev cX9_keepBefore : ByteArray := prog_11_method_29_code
def yX9_keepBefore : MethodName := ⟨RX9, "keepBefore", "(I)V"⟩
abbrev cX9_sameKey : ByteArray := prog_11_method_30_code
def yX9_sameKey : MethodName := ⟨RX9, "sameKey", "(I[II[II)Z"⟩
abbrev cX9_hadKey : ByteArray := prog_11_method_31_code
def yX9_hadKey : MethodName := ⟨RX9, "hadKey", "(I[II)Z"⟩
abbrev cX9_hasKey : ByteArray := prog_11_method_32_code
def yX9_hasKey : MethodName := ⟨RX9, "hasKey", "(II[II)Z"⟩
abbrev cX9_changed : ByteArray := prog_11_method_33_code
def yX9_changed : MethodName := ⟨RX9, "changed", "(I)V"⟩
abbrev cX9_sharesKey : ByteArray := prog_11_method_34_code
def yX9_sharesKey : MethodName := ⟨RX9, "sharesKey", "(IIIZZ)Z"⟩
abbrev cX9_clash : ByteArray := prog_11_method_35_code
def yX9_clash : MethodName := ⟨RX9, "clash", "(III)Z"⟩
abbrev cX9_clashOf : ByteArray := prog_11_method_36_code
def yX9_clashOf : MethodName := ⟨RX9, "clashOf", "(II)I"⟩
abbrev cX9_begin : ByteArray := prog_11_method_37_code
def yX9_begin : MethodName := ⟨RX9, "begin", "()I"⟩
abbrev cX9_write : ByteArray := prog_11_method_38_code
def yX9_write : MethodName := ⟨RX9, "write", "(IIZ)I"⟩
abbrev cX9_insert : ByteArray := prog_11_method_39_code
def yX9_insert : MethodName := ⟨RX9, "insert", "(IIIII)I"⟩
abbrev cX9_isLocked : ByteArray := prog_11_method_40_code
def yX9_isLocked : MethodName := ⟨RX9, "isLocked", "(II)Z"⟩
abbrev cX9_update : ByteArray := prog_11_method_41_code
def yX9_update : MethodName := ⟨RX9, "update", "(IIII)I"⟩
abbrev cX9_remove : ByteArray := prog_11_method_42_code
def yX9_remove : MethodName := ⟨RX9, "remove", "(II)I"⟩
abbrev cX9_records : ByteArray := prog_11_method_43_code
def yX9_records : MethodName := ⟨RX9, "records", "(I)I"⟩
abbrev cX9_undoOne : ByteArray := prog_11_method_44_code
def yX9_undoOne : MethodName := ⟨RX9, "undoOne", "(I)V"⟩
abbrev cX9_undo : ByteArray := prog_11_method_45_code
def yX9_undo : MethodName := ⟨RX9, "undo", "(II)I"⟩
abbrev cX9_undoTo : ByteArray := prog_11_method_46_code
def yX9_undoTo : MethodName := ⟨RX9, "undoTo", "(II)I"⟩
abbrev cX9_wouldClash : ByteArray := prog_11_method_47_code
def yX9_wouldClash : MethodName := ⟨RX9, "wouldClash", "(II)Z"⟩
abbrev cX9_commit : ByteArray := prog_11_method_48_code
def yX9_commit : MethodName := ⟨RX9, "commit", "(I)I"⟩
abbrev cX9_abort : ByteArray := prog_11_method_49_code
def yX9_abort : MethodName := ⟨RX9, "abort", "(I)I"⟩
abbrev cX9_index : ByteArray := prog_11_method_50_code
def yX9_index : MethodName := ⟨RX9, "index", "(IIIZ)I"⟩
abbrev cX9_drop : ByteArray := prog_11_method_51_code
def yX9_drop : MethodName := ⟨RX9, "drop", "(I)I"⟩
abbrev cX9_pick : ByteArray := prog_11_method_52_code
def yX9_pick : MethodName := ⟨RX9, "pick", "(I)V"⟩
abbrev cX9_isBefore : ByteArray := prog_11_method_53_code
def yX9_isBefore : MethodName := ⟨RX9, "isBefore", "(I)Z"⟩
abbrev cX9_scanStep : ByteArray := prog_11_method_54_code
def yX9_scanStep : MethodName := ⟨RX9, "scanStep", "(I)V"⟩
abbrev cX9_loadStep : ByteArray := prog_11_method_55_code
def yX9_loadStep : MethodName := ⟨RX9, "loadStep", "(I)V"⟩
abbrev cX9_catchStep : ByteArray := prog_11_method_56_code
def yX9_catchStep : MethodName := ⟨RX9, "catchStep", "(I)V"⟩
abbrev cX9_step : ByteArray := prog_11_method_57_code
def yX9_step : MethodName := ⟨RX9, "step", "(II)I"⟩
abbrev cX9_info : ByteArray := prog_11_method_58_code
def yX9_info : MethodName := ⟨RX9, "info", "(II)I"⟩
abbrev cX9_entry : ByteArray := prog_11_method_59_code
def yX9_entry : MethodName := ⟨RX9, "entry", "(III)I"⟩
abbrev cX9_where : ByteArray := prog_11_method_60_code
def yX9_where : MethodName := ⟨RX9, "where", "(III)I"⟩
abbrev cX9_seesAny : ByteArray := prog_11_method_61_code
def yX9_seesAny : MethodName := ⟨RX9, "seesAny", "(II)Z"⟩
abbrev cX9_seen : ByteArray := prog_11_method_62_code
def yX9_seen : MethodName := ⟨RX9, "seen", "(III)I"⟩
abbrev cX9_fits : ByteArray := prog_11_method_63_code
def yX9_fits : MethodName := ⟨RX9, "fits", "(II)Z"⟩
abbrev cX9_isInRange : ByteArray := prog_11_method_64_code
def yX9_isInRange : MethodName := ⟨RX9, "isInRange", "(II)Z"⟩
abbrev cX9_rangeOf : ByteArray := prog_11_method_65_code
def yX9_rangeOf : MethodName := ⟨RX9, "rangeOf", "(I)I"⟩
abbrev cX9_costOf : ByteArray := prog_11_method_66_code
def yX9_costOf : MethodName := ⟨RX9, "costOf", "(I)I"⟩
abbrev cX9_hasSeenKey : ByteArray := prog_11_method_67_code
def yX9_hasSeenKey : MethodName := ⟨RX9, "hasSeenKey", "(III)Z"⟩
abbrev cX9_isSeer : ByteArray := prog_11_method_68_code
def yX9_isSeer : MethodName := ⟨RX9, "isSeer", "(I)Z"⟩
abbrev cX9_ask : ByteArray := prog_11_method_69_code
def yX9_ask : MethodName := ⟨RX9, "ask", "(II)I"⟩
abbrev cX9_answer : ByteArray := prog_11_method_70_code
def yX9_answer : MethodName := ⟨RX9, "answer", "(I)I"⟩
abbrev cX9_asked : ByteArray := prog_11_method_71_code
def yX9_asked : MethodName := ⟨RX9, "asked", "(I)I"⟩
abbrev cX9_cost : ByteArray := prog_11_method_72_code
def yX9_cost : MethodName := ⟨RX9, "cost", "(I)I"⟩
abbrev cX9_sees : ByteArray := prog_11_method_73_code
def yX9_sees : MethodName := ⟨RX9, "sees", "(II)I"⟩
abbrev cX9_field : ByteArray := prog_11_method_74_code
def yX9_field : MethodName := ⟨RX9, "field", "(III)I"⟩
abbrev cX9_writer : ByteArray := prog_11_method_75_code
def yX9_writer : MethodName := ⟨RX9, "writer", "(I)I"⟩
abbrev cX9_count : ByteArray := prog_11_method_76_code
def yX9_count : MethodName := ⟨RX9, "count", "(I)I"⟩
abbrev cX9_entriesOf : ByteArray := prog_11_method_77_code
def yX9_entriesOf : MethodName := ⟨RX9, "entriesOf", "(I)I"⟩
abbrev cX9_audit : ByteArray := prog_11_method_78_code
def yX9_audit : MethodName := ⟨RX9, "audit", "()I"⟩
def RJ9 : String := "java/lang/Math"
def TJ9 : u_T := fun k => match k with
  | _ => ("", "", "", false)
def tyJ9 : Nat → FieldType := fun k => match k with
  | _ => .int
abbrev wsJ90 : List Cond := u_ws RJ9 TJ9 0
theorem nmJ9 : ∀ a, a < 0 → ∀ b, b < 0 → a ≠ b → (TJ9 a).2.1 ≠ (TJ9 b).2.1 := by decide +kernel
theorem tyJ9_ok : ∀ k, k < 0 → parseFieldDescriptor (TJ9 k).2.2.1 = some (tyJ9 k) := by decide +kernel
abbrev cJ9_min_7cf53 : ByteArray := prog_12_method_69_code
def yJ9_min_7cf53 : MethodName := ⟨RJ9, "min", "(II)I"⟩
def RJ10 : String := "java/lang/System"
def TJ10 : u_T := fun k => match k with
  | _ => ("", "", "", false)
def tyJ10 : Nat → FieldType := fun k => match k with
  | _ => .int
abbrev wsJ100 : List Cond := u_ws RJ10 TJ10 0
theorem nmJ10 : ∀ a, a < 0 → ∀ b, b < 0 → a ≠ b → (TJ10 a).2.1 ≠ (TJ10 b).2.1 := by decide +kernel
theorem tyJ10_ok : ∀ k, k < 0 → parseFieldDescriptor (TJ10 k).2.2.1 = some (tyJ10 k) := by decide +kernel
def RJ7 : String := "java/util/Arrays"
def TJ7 : u_T := fun k => match k with
  | _ => ("", "", "", false)
def tyJ7 : Nat → FieldType := fun k => match k with
  | _ => .int
abbrev wsJ70 : List Cond := u_ws RJ7 TJ7 0
theorem nmJ7 : ∀ a, a < 0 → ∀ b, b < 0 → a ≠ b → (TJ7 a).2.1 ≠ (TJ7 b).2.1 := by decide +kernel
theorem tyJ7_ok : ∀ k, k < 0 → parseFieldDescriptor (TJ7 k).2.2.1 = some (tyJ7 k) := by decide +kernel
abbrev cJ7_fill_53178 : ByteArray := prog_14_method_103_code
def yJ7_fill_53178 : MethodName := ⟨RJ7, "fill", "([II)V"⟩
def RL : String := "IndexedTableLaw"
abbrev cL_law : ByteArray := code
def yL_law : MethodName := ⟨RL, "law", "([I)Z"⟩
abbrev vwCl : List vw_C := [(RX0, TX0, 1), (RX1, TX1, 1), (RX2, TX2, 13), (RX3, TX3, 4), (RX4, TX4, 4), (RX5, TX5, 3), (RX6, TX6, 5), (RX7, TX7, 17), (RX8, TX8, 12), (RX9, TX9, 55)]
end
section
/-! numbers of classes: 0..9 the X classes, 10 the law, 11 Math, 12 Arrays; numbers of methods: their places here -/
def RC (k : Nat) : String := match k with
  | 0 => RX0
  | 1 => RX1
  | 2 => RX2
  | 3 => RX3
  | 4 => RX4
  | 5 => RX5
  | 6 => RX6
  | 7 => RX7
  | 8 => RX8
  | 9 => RX9
  | 10 => RL
  | 11 => RJ9
  | 12 => RJ7
  | _ => ""
def TC (k : Nat) : u_T := match k with
  | 0 => TX0
  | 1 => TX1
  | 2 => TX2
  | 3 => TX3
  | 4 => TX4
  | 5 => TX5
  | 6 => TX6
  | 7 => TX7
  | 8 => TX8
  | 9 => TX9
  | _ => TX0
def tyC (k : Nat) : Nat → FieldType := match k with
  | 0 => tyX0
  | 1 => tyX1
  | 2 => tyX2
  | 3 => tyX3
  | 4 => tyX4
  | 5 => tyX5
  | 6 => tyX6
  | 7 => tyX7
  | 8 => tyX8
  | 9 => tyX9
  | _ => tyX0
def NC (k : Nat) : Nat := match k with
  | 0 => 1
  | 1 => 1
  | 2 => 13
  | 3 => 4
  | 4 => 4
  | 5 => 3
  | 6 => 5
  | 7 => 17
  | 8 => 12
  | 9 => 55
  | _ => 0
/-- of each field: 0 int, 1 boolean, 2 a reference -/
def ftk (k : Nat) : List Nat := match k with
  | 0 => [2]
  | 1 => [2]
  | 2 => [1, 1, 0, 2, 0, 0, 0, 0, 0, 2, 2, 2, 2]
  | 3 => [2, 2, 0, 0]
  | 4 => [2, 2, 0, 0]
  | 5 => [2, 2, 2]
  | 6 => [1, 0, 2, 2, 2]
  | 7 => [2, 2, 0, 2, 2, 2, 2, 0, 0, 2, 2, 0, 2, 2, 1, 0, 2]
  | 8 => [2, 2, 2, 2, 2, 2, 2, 2, 2, 0, 0, 0]
  | 9 => [2, 2, 2, 2, 2, 2, 2, 2, 2, 2, 2, 2, 2, 2, 2, 2, 2, 2, 2, 2, 2, 2, 2, 2, 2, 2, 2, 2, 2, 2, 2, 2, 2, 2, 2, 2, 0, 2, 0, 0, 2, 0, 0, 2, 2, 0, 2, 2, 2, 1, 1, 2, 2, 2, 2]
  | _ => []
abbrev MT : Type := MethodName × ByteArray × Nat × Option FieldType × Nat × Nat × Nat × Nat × Nat
/-- name, code, locals, answer, class, arguments (with this), frames, words, kind (0 static, 1 instance, 2 constructor) -/
def mT0 : List MT := [(yX0_init, cX0_init, 2, none, 0, 2, 1, 12, 2), (yX0_word, cX0_word, 3, (some .int), 0, 3, 0, 0, 1), (yX0_set, cX0_set, 4, none, 0, 4, 0, 0, 1), (yX0_copy, cX0_copy, 4, none, 0, 4, 1, 18, 1), (yX0_compare, cX0_compare, 7, (some .int), 0, 4, 0, 0, 1), (yX1_init, cX1_init, 2, none, 1, 2, 1, 12, 2), (yX1_has, cX1_has, 2, (some .boolean), 1, 2, 0, 0, 1), (yX1_valueOf, cX1_valueOf, 3, (some .int), 1, 3, 0, 0, 1), (yX1_set, cX1_set, 4, none, 1, 4, 0, 0, 1), (yX1_put, cX1_put, 7, none, 1, 6, 0, 0, 1), (yX1_clear, cX1_clear, 2, none, 1, 2, 0, 0, 1), (yX1_copy, cX1_copy, 4, none, 1, 4, 1, 18, 1), (yX1_copyAll, cX1_copyAll, 2, none, 1, 2, 1, 18, 1), (yX2_init, cX2_init, 1, none, 2, 1, 3, 63, 2), (yX2_start, cX2_start, 5, none, 2, 5, 3, 63, 1), (yX2_forgetEntries, cX2_forgetEntries, 1, none, 2, 1, 2, 43, 1), (yX2_isBuilding, cX2_isBuilding, 1, (some .boolean), 2, 1, 0, 0, 1), (yX2_isGuard, cX2_isGuard, 1, (some .boolean), 2, 1, 0, 0, 1), (yX2_haveOneKey, cX2_haveOneKey, 6, (some .boolean), 2, 5, 1, 22, 1), (yX2_makeEntry, cX2_makeEntry, 5, none, 2, 4, 1, 23, 1), (yX2_hasKeyOf, cX2_hasKeyOf, 5, (some .boolean), 2, 3, 3, 68, 1), (yX2_makeComing, cX2_makeComing, 5, (some .boolean), 2, 4, 2, 47, 1), (yX2_makeGoing, cX2_makeGoing, 4, (some .boolean), 2, 4, 2, 47, 1), (yX2_takeMade, cX2_takeMade, 2, none, 2, 2, 4, 96, 1), (yX2_fail, cX2_fail, 2, none, 2, 2, 3, 63, 1), (yX2_takeStep, cX2_takeStep, 2, none, 2, 2, 6, 137, 1), (yX2_scanPage, cX2_scanPage, 4, none, 2, 2, 3, 74, 1), (yX2_loadSome, cX2_loadSome, 3, none, 2, 1, 4, 92, 1), (yX2_catchUp, cX2_catchUp, 1, none, 2, 1, 4, 96, 1), (yX2_finish, cX2_finish, 3, none, 2, 2, 5, 115, 1)]
def mT1 : List MT := [(yX2_leastWithClash, cX2_leastWithClash, 3, (some .int), 2, 2, 4, 93, 1), (yX2_leastClashWith, cX2_leastClashWith, 4, (some .int), 2, 3, 3, 70, 1), (yX2_isClash, cX2_isClash, 4, (some .boolean), 2, 4, 2, 47, 1), (yX2_rangeSize, cX2_rangeSize, 5, (some .int), 2, 3, 4, 95, 1), (yX2_isInRange, cX2_isInRange, 8, (some .boolean), 2, 4, 3, 68, 1), (yX2_faults, cX2_faults, 5, (some .int), 2, 2, 5, 115, 1), (yX2_missing, cX2_missing, 3, (some .int), 2, 3, 3, 74, 1), (yX3_init, cX3_init, 1, none, 3, 1, 2, 33, 2), (yX3_clear, cX3_clear, 1, none, 3, 1, 0, 0, 1), (yX3_isFull, cX3_isFull, 1, (some .boolean), 3, 1, 0, 0, 1), (yX3_add, cX3_add, 5, none, 3, 4, 2, 41, 1), (yX3_firstSlot, cX3_firstSlot, 1, (some .int), 3, 1, 0, 0, 1), (yX3_firstCame, cX3_firstCame, 1, (some .boolean), 3, 1, 0, 0, 1), (yX3_takeFirst, cX3_takeFirst, 1, none, 3, 1, 0, 0, 1), (yX4_init, cX4_init, 1, none, 4, 1, 2, 33, 2), (yX4_clear, cX4_clear, 1, none, 4, 1, 0, 0, 1), (yX4_add, cX4_add, 4, none, 4, 3, 2, 51, 1), (yX4_slotOf, cX4_slotOf, 6, (some .int), 4, 2, 1, 26, 1), (yX4_take, cX4_take, 2, (some .int), 4, 1, 0, 0, 1), (yX5_init, cX5_init, 1, none, 5, 1, 2, 33, 2), (yX5_copyFrom, cX5_copyFrom, 2, none, 5, 2, 2, 39, 1), (yX5_isFree, cX5_isFree, 2, (some .boolean), 5, 2, 1, 21, 1), (yX5_placesInUse, cX5_placesInUse, 3, (some .int), 5, 1, 2, 42, 1), (yX5_seenBy, cX5_seenBy, 3, (some (.object "IndexedTable$Images")), 5, 3, 0, 0, 1), (yX6_init, cX6_init, 1, none, 6, 1, 2, 33, 2), (yX6_isFull, cX6_isFull, 1, (some .boolean), 6, 1, 0, 0, 1), (yX6_add, cX6_add, 3, none, 6, 3, 2, 41, 1), (yX6_putBack, cX6_putBack, 4, none, 6, 3, 2, 41, 1), (yX7_init, cX7_init, 1, none, 7, 1, 2, 43, 2), (yX7_empty, cX7_empty, 2, none, 7, 1, 1, 22, 1)]
def mT2 : List MT := [(yX7_size, cX7_size, 1, (some .int), 7, 1, 0, 0, 1), (yX7_nodes, cX7_nodes, 1, (some .int), 7, 1, 0, 0, 1), (yX7_height, cX7_height, 3, (some .int), 7, 1, 1, 21, 1), (yX7_wordAt, cX7_wordAt, 3, (some .int), 7, 3, 2, 46, 1), (yX7_depthAt, cX7_depthAt, 2, (some .int), 7, 2, 2, 46, 1), (yX7_holds, cX7_holds, 3, (some .boolean), 7, 3, 2, 52, 1), (yX7_add, cX7_add, 4, none, 7, 3, 3, 69, 1), (yX7_cut, cX7_cut, 7, none, 7, 3, 3, 70, 1), (yX7_isLowest, cX7_isLowest, 2, (some .boolean), 7, 2, 0, 0, 1), (yX7_takeNode, cX7_takeNode, 3, (some .int), 7, 1, 0, 0, 1), (yX7_giveNode, cX7_giveNode, 2, none, 7, 2, 0, 0, 1), (yX7_find, cX7_find, 7, (some .boolean), 7, 3, 1, 26, 1), (yX7_goToGreatestBelow, cX7_goToGreatestBelow, 3, none, 7, 1, 1, 21, 1), (yX7_putInto, cX7_putInto, 8, none, 7, 5, 1, 18, 1), (yX7_takeOut, cX7_takeOut, 6, none, 7, 3, 1, 18, 1), (yX7_splitUpwards, cX7_splitUpwards, 5, none, 7, 1, 2, 45, 1), (yX7_halve, cX7_halve, 3, none, 7, 3, 1, 18, 1), (yX7_mendUpwards, cX7_mendUpwards, 5, none, 7, 1, 2, 46, 1), (yX7_takeFromLeft, cX7_takeFromLeft, 6, none, 7, 3, 1, 18, 1), (yX7_takeFromRight, cX7_takeFromRight, 6, none, 7, 3, 1, 18, 1), (yX7_joinAround, cX7_joinAround, 6, none, 7, 3, 1, 21, 1), (yX7_walkAll, cX7_walkAll, 5, none, 7, 1, 1, 22, 1), (yX7_noteWalked, cX7_noteWalked, 3, none, 7, 3, 0, 0, 1), (yX7_faults, cX7_faults, 3, (some .int), 7, 1, 2, 48, 1), (yX7_nodeFaults, cX7_nodeFaults, 8, (some .int), 7, 1, 1, 21, 1), (yX8_init, cX8_init, 2, none, 8, 1, 4, 83, 2), (yX8_begin, cX8_begin, 2, (some .int), 8, 1, 0, 0, 1), (yX8_insert, cX8_insert, 7, (some .int), 8, 6, 7, 161, 1), (yX8_update, cX8_update, 5, (some .int), 8, 5, 7, 161, 1), (yX8_remove, cX8_remove, 3, (some .int), 8, 3, 7, 161, 1)]
def mT3 : List MT := [(yX8_records, cX8_records, 2, (some .int), 8, 2, 1, 21, 1), (yX8_undo, cX8_undo, 3, (some .int), 8, 3, 7, 165, 1), (yX8_commit, cX8_commit, 4, (some .int), 8, 2, 6, 139, 1), (yX8_abort, cX8_abort, 3, (some .int), 8, 2, 7, 165, 1), (yX8_isActive, cX8_isActive, 2, (some .boolean), 8, 2, 0, 0, 1), (yX8_isPlace, cX8_isPlace, 1, (some .boolean), 8, 1, 0, 0, 0), (yX8_isField, cX8_isField, 1, (some .boolean), 8, 1, 0, 0, 0), (yX8_isLocked, cX8_isLocked, 3, (some .boolean), 8, 3, 1, 20, 1), (yX8_hasRow, cX8_hasRow, 2, (some .boolean), 8, 2, 1, 21, 1), (yX8_leastFreePlace, cX8_leastFreePlace, 2, (some .int), 8, 1, 2, 42, 1), (yX8_write, cX8_write, 3, none, 8, 3, 6, 139, 1), (yX8_undoTo, cX8_undoTo, 7, (some .int), 8, 3, 6, 139, 1), (yX8_tellIndexes, cX8_tellIndexes, 3, none, 8, 2, 5, 117, 1), (yX8_wouldClash, cX8_wouldClash, 3, (some .boolean), 8, 3, 5, 116, 1), (yX8_undoWouldClash, cX8_undoWouldClash, 4, (some .boolean), 8, 3, 5, 116, 1), (yX8_hasGuard, cX8_hasGuard, 2, (some .boolean), 8, 1, 1, 20, 1), (yX8_clashesIn, cX8_clashesIn, 4, (some .boolean), 8, 3, 4, 93, 1), (yX8_index, cX8_index, 6, (some .int), 8, 5, 4, 87, 1), (yX8_drop, cX8_drop, 2, (some .int), 8, 2, 1, 21, 1), (yX8_step, cX8_step, 4, (some .int), 8, 3, 7, 158, 1), (yX8_info, cX8_info, 4, (some .int), 8, 3, 2, 43, 1), (yX8_entry, cX8_entry, 5, (some .int), 8, 4, 3, 68, 1), (yX8_isIndex, cX8_isIndex, 2, (some .boolean), 8, 2, 0, 0, 1), (yX8_isKey, cX8_isKey, 3, (some .boolean), 8, 3, 1, 20, 0), (yX8_where, cX8_where, 4, (some .int), 8, 4, 1, 20, 1), (yX8_ask, cX8_ask, 3, (some .int), 8, 3, 7, 164, 1), (yX8_answer, cX8_answer, 2, (some .int), 8, 2, 0, 0, 1), (yX8_asked, cX8_asked, 2, (some .int), 8, 2, 0, 0, 1), (yX8_cost, cX8_cost, 2, (some .int), 8, 2, 6, 141, 1), (yX8_isReady, cX8_isReady, 2, (some .boolean), 8, 2, 1, 21, 1)]
def mT4 : List MT := [(yX8_cheapestWay, cX8_cheapestWay, 4, (some .int), 8, 1, 6, 141, 1), (yX8_costOf, cX8_costOf, 3, (some .int), 8, 2, 5, 119, 1), (yX8_pagesInUse, cX8_pagesInUse, 5, (some .int), 8, 1, 2, 42, 1), (yX8_answerByScan, cX8_answerByScan, 3, none, 8, 2, 2, 46, 1), (yX8_answerByIndex, cX8_answerByIndex, 6, none, 8, 3, 4, 95, 1), (yX8_fits, cX8_fits, 5, (some .boolean), 8, 3, 1, 22, 1), (yX8_tell, cX8_tell, 2, none, 8, 2, 0, 0, 1), (yX8_sees, cX8_sees, 3, (some .int), 8, 3, 1, 22, 1), (yX8_field, cX8_field, 5, (some .int), 8, 4, 1, 22, 1), (yX8_writer, cX8_writer, 2, (some .int), 8, 2, 1, 20, 1), (yX8_count, cX8_count, 2, (some .int), 8, 2, 3, 64, 1), (yX8_audit, cX8_audit, 3, (some .int), 8, 1, 6, 139, 1), (yX8_activeTransactions, cX8_activeTransactions, 3, (some .int), 8, 1, 0, 0, 1), (yX8_indexesFrom, cX8_indexesFrom, 4, (some .int), 8, 2, 0, 0, 1), (yX9_init, cX9_init, 2, none, 9, 1, 1, 12, 2), (yX9_in, cX9_in, 3, (some .boolean), 9, 3, 0, 0, 0), (yX9_isActive, cX9_isActive, 2, (some .boolean), 9, 2, 1, 22, 1), (yX9_isIndex, cX9_isIndex, 2, (some .boolean), 9, 2, 1, 22, 1), (yX9_isReady, cX9_isReady, 2, (some .boolean), 9, 2, 2, 43, 1), (yX9_isPlace, cX9_isPlace, 1, (some .boolean), 9, 1, 1, 22, 0), (yX9_isFree, cX9_isFree, 2, (some .boolean), 9, 2, 0, 0, 1), (yX9_entryOf, cX9_entryOf, 6, none, 9, 5, 0, 0, 1), (yX9_compare, cX9_compare, 3, (some .int), 9, 2, 0, 0, 1), (yX9_copySlot, cX9_copySlot, 4, none, 9, 3, 0, 0, 1), (yX9_fillSlot, cX9_fillSlot, 3, none, 9, 2, 0, 0, 1), (yX9_node, cX9_node, 4, (some .int), 9, 2, 0, 0, 1), (yX9_emptyTree, cX9_emptyTree, 3, none, 9, 2, 1, 23, 1), (yX9_isLowest, cX9_isLowest, 2, (some .boolean), 9, 2, 0, 0, 1), (yX9_slotFor, cX9_slotFor, 3, (some .int), 9, 2, 1, 22, 1), (yX9_find, cX9_find, 4, (some .boolean), 9, 2, 2, 44, 1)]
def mT5 : List MT := [(yX9_addAt, cX9_addAt, 5, none, 9, 4, 1, 23, 1), (yX9_takeSlot, cX9_takeSlot, 3, none, 9, 2, 0, 0, 1), (yX9_comesToTree, cX9_comesToTree, 5, none, 9, 2, 3, 67, 1), (yX9_takeOut, cX9_takeOut, 5, none, 9, 4, 1, 23, 1), (yX9_goesFromTree, cX9_goesFromTree, 6, none, 9, 2, 4, 98, 1), (yX9_settle, cX9_settle, 6, none, 9, 1, 3, 73, 1), (yX9_join, cX9_join, 7, none, 9, 5, 2, 47, 1), (yX9_goThrough, cX9_goThrough, 4, none, 9, 2, 1, 21, 1), (yX9_heightOf, cX9_heightOf, 4, (some .int), 9, 2, 1, 21, 1), (yX9_nodesOf, cX9_nodesOf, 4, (some .int), 9, 2, 0, 0, 1), (yX9_fail, cX9_fail, 3, none, 9, 3, 2, 45, 1), (yX9_note, cX9_note, 5, none, 9, 3, 5, 123, 1), (yX9_keepBefore, cX9_keepBefore, 3, none, 9, 2, 0, 0, 1), (yX9_sameKey, cX9_sameKey, 9, (some .boolean), 9, 6, 0, 0, 1), (yX9_hadKey, cX9_hadKey, 4, (some .boolean), 9, 4, 1, 28, 1), (yX9_hasKey, cX9_hasKey, 5, (some .boolean), 9, 5, 1, 28, 1), (yX9_changed, cX9_changed, 3, none, 9, 2, 6, 147, 1), (yX9_sharesKey, cX9_sharesKey, 7, (some .boolean), 9, 6, 1, 28, 1), (yX9_clash, cX9_clash, 5, (some .boolean), 9, 4, 2, 54, 1), (yX9_clashOf, cX9_clashOf, 4, (some .int), 9, 3, 3, 78, 1), (yX9_begin, cX9_begin, 2, (some .int), 9, 1, 0, 0, 1), (yX9_write, cX9_write, 8, (some .int), 9, 4, 7, 169, 1), (yX9_insert, cX9_insert, 8, (some .int), 9, 6, 8, 196, 1), (yX9_isLocked, cX9_isLocked, 3, (some .boolean), 9, 3, 2, 42, 1), (yX9_update, cX9_update, 6, (some .int), 9, 5, 8, 196, 1), (yX9_remove, cX9_remove, 3, (some .int), 9, 3, 8, 196, 1), (yX9_records, cX9_records, 2, (some .int), 9, 2, 2, 43, 1), (yX9_undoOne, cX9_undoOne, 5, none, 9, 2, 7, 169, 1), (yX9_undo, cX9_undo, 3, (some .int), 9, 3, 9, 216, 1), (yX9_undoTo, cX9_undoTo, 4, (some .int), 9, 3, 8, 193, 1)]
def mT6 : List MT := [(yX9_wouldClash, cX9_wouldClash, 7, (some .boolean), 9, 3, 4, 101, 1), (yX9_commit, cX9_commit, 5, (some .int), 9, 2, 7, 169, 1), (yX9_abort, cX9_abort, 3, (some .int), 9, 2, 9, 216, 1), (yX9_index, cX9_index, 7, (some .int), 9, 5, 2, 45, 1), (yX9_drop, cX9_drop, 2, (some .int), 9, 2, 2, 43, 1), (yX9_pick, cX9_pick, 4, none, 9, 2, 1, 22, 1), (yX9_isBefore, cX9_isBefore, 3, (some .boolean), 9, 2, 0, 0, 1), (yX9_scanStep, cX9_scanStep, 3, none, 9, 2, 2, 45, 1), (yX9_loadStep, cX9_loadStep, 5, none, 9, 2, 4, 91, 1), (yX9_catchStep, cX9_catchStep, 6, none, 9, 2, 5, 123, 1), (yX9_step, cX9_step, 4, (some .int), 9, 3, 6, 148, 1), (yX9_info, cX9_info, 3, (some .int), 9, 3, 2, 44, 1), (yX9_entry, cX9_entry, 4, (some .int), 9, 4, 2, 44, 1), (yX9_where, cX9_where, 4, (some .int), 9, 4, 1, 22, 1), (yX9_seesAny, cX9_seesAny, 3, (some .boolean), 9, 3, 0, 0, 1), (yX9_seen, cX9_seen, 4, (some .int), 9, 4, 0, 0, 1), (yX9_fits, cX9_fits, 5, (some .boolean), 9, 3, 1, 23, 1), (yX9_isInRange, cX9_isInRange, 6, (some .boolean), 9, 3, 1, 22, 1), (yX9_rangeOf, cX9_rangeOf, 4, (some .int), 9, 2, 2, 47, 1), (yX9_costOf, cX9_costOf, 6, (some .int), 9, 2, 3, 70, 1), (yX9_hasSeenKey, cX9_hasSeenKey, 7, (some .boolean), 9, 4, 1, 23, 1), (yX9_isSeer, cX9_isSeer, 2, (some .boolean), 9, 2, 2, 43, 1), (yX9_ask, cX9_ask, 7, (some .int), 9, 3, 4, 95, 1), (yX9_answer, cX9_answer, 2, (some .int), 9, 2, 1, 22, 1), (yX9_asked, cX9_asked, 2, (some .int), 9, 2, 0, 0, 1), (yX9_cost, cX9_cost, 2, (some .int), 9, 2, 4, 95, 1), (yX9_sees, cX9_sees, 3, (some .int), 9, 3, 3, 64, 1), (yX9_field, cX9_field, 4, (some .int), 9, 4, 3, 64, 1), (yX9_writer, cX9_writer, 2, (some .int), 9, 2, 2, 42, 1), (yX9_count, cX9_count, 4, (some .int), 9, 2, 3, 64, 1)]
def mT7 : List MT := [(yX9_entriesOf, cX9_entriesOf, 5, (some .int), 9, 2, 1, 28, 1), (yX9_audit, cX9_audit, 5, (some .int), 9, 1, 4, 101, 1), (yJ7_fill_53178, cJ7_fill_53178, 4, none, 12, 2, 0, 0, 0), (yL_law, code, 4, (some .boolean), 10, 1, 10, 238, 0)]
def mT (f : Nat) : Option MT := match f / 30 with
  | 0 => mT0[f % 30]?
  | 1 => mT1[f % 30]?
  | 2 => mT2[f % 30]?
  | 3 => mT3[f % 30]?
  | 4 => mT4[f % 30]?
  | 5 => mT5[f % 30]?
  | 6 => mT6[f % 30]?
  | 7 => mT7[f % 30]?
  | _ => none
abbrev En : Type := Nat × Instr × Nat × Int32 × Nat × Nat
def kX0_init : List En := [(0, .aload_n 0, 1, 0, 0, 0), (1, .invokespecial 3, 3, 0, 902, 0), (4, .aload_n 0, 1, 0, 0, 0), (5, .iload_n 1, 1, 0, 1, 0), (6, .iconst 4, 1, 4, 0, 0), (7, .imul, 1, 0, 0, 0), (8, .newarray .int, 2, 0, 10, 0), (10, .putfield 11, 3, 0, 0, 0), (13, .return_, 1, 0, 0, 0)]
def kX0_word : List En := [(0, .aload_n 0, 1, 0, 0, 0), (1, .getfield 11, 3, 0, 0, 0), (4, .iload_n 1, 1, 0, 1, 0), (5, .iconst 4, 1, 4, 0, 0), (6, .imul, 1, 0, 0, 0), (7, .iload_n 2, 1, 0, 2, 0), (8, .iadd, 1, 0, 0, 0), (9, .iaload, 1, 0, 0, 0), (10, .ireturn, 1, 0, 0, 0)]
def kX0_set : List En := [(0, .aload_n 0, 1, 0, 0, 0), (1, .getfield 11, 3, 0, 0, 0), (4, .iload_n 1, 1, 0, 1, 0), (5, .iconst 4, 1, 4, 0, 0), (6, .imul, 1, 0, 0, 0), (7, .iload_n 2, 1, 0, 2, 0), (8, .iadd, 1, 0, 0, 0), (9, .iload_n 3, 1, 0, 3, 0), (10, .iastore, 1, 0, 0, 0), (11, .return_, 1, 0, 0, 0)]
def kX0_copy : List En := [(0, .aload_n 2, 1, 0, 2, 0), (1, .getfield 11, 3, 0, 0, 0), (4, .iload_n 3, 1, 0, 3, 0), (5, .iconst 4, 1, 4, 0, 0), (6, .imul, 1, 0, 0, 0), (7, .aload_n 0, 1, 0, 0, 0), (8, .getfield 11, 3, 0, 0, 0), (11, .iload_n 1, 1, 0, 1, 0), (12, .iconst 4, 1, 4, 0, 0), (13, .imul, 1, 0, 0, 0), (14, .iconst 4, 1, 4, 0, 0), (15, .invokestatic 15, 3, 0, 900, 0), (18, .return_, 1, 0, 0, 0)]
def kX0_compare : List En := [(0, .iconst 0, 1, 0, 0, 0), (1, .istore 4, 2, 0, 4, 0), (3, .iload 4, 2, 0, 4, 0), (5, .iconst 4, 1, 4, 0, 0), (6, .if_icmp .ge 55, 3, 0, 61, 0), (9, .aload_n 0, 1, 0, 0, 0), (10, .getfield 11, 3, 0, 0, 0), (13, .iload_n 1, 1, 0, 1, 0), (14, .iconst 4, 1, 4, 0, 0), (15, .imul, 1, 0, 0, 0), (16, .iload 4, 2, 0, 4, 0), (18, .iadd, 1, 0, 0, 0), (19, .iaload, 1, 0, 0, 0), (20, .istore 5, 2, 0, 5, 0), (22, .aload_n 2, 1, 0, 2, 0), (23, .getfield 11, 3, 0, 0, 0), (26, .iload_n 3, 1, 0, 3, 0), (27, .iconst 4, 1, 4, 0, 0), (28, .imul, 1, 0, 0, 0), (29, .iload 4, 2, 0, 4, 0), (31, .iadd, 1, 0, 0, 0), (32, .iaload, 1, 0, 0, 0), (33, .istore 6, 2, 0, 6, 0), (35, .iload 5, 2, 0, 5, 0), (37, .iload 6, 2, 0, 6, 0), (39, .if_icmp .eq 16, 3, 0, 55, 0), (42, .iload 5, 2, 0, 5, 0), (44, .iload 6, 2, 0, 6, 0), (46, .if_icmp .ge 7, 3, 0, 53, 0), (49, .iconst (-1), 1, (-1), 0, 0), (50, .goto 4, 3, 0, 54, 0), (53, .iconst 1, 1, 1, 0, 0), (54, .ireturn, 1, 0, 0, 0), (55, .iinc 4 1, 3, 1, 4, 0), (58, .goto (-55), 3, 0, 3, 0), (61, .iconst 0, 1, 0, 0, 0), (62, .ireturn, 1, 0, 0, 0)]
def kX1_init : List En := [(0, .aload_n 0, 1, 0, 0, 0), (1, .invokespecial 3, 3, 0, 902, 0), (4, .aload_n 0, 1, 0, 0, 0), (5, .iload_n 1, 1, 0, 1, 0), (6, .iconst 5, 1, 5, 0, 0), (7, .imul, 1, 0, 0, 0), (8, .newarray .int, 2, 0, 10, 0), (10, .putfield 11, 3, 0, 1, 0), (13, .return_, 1, 0, 0, 0)]
def kX1_has : List En := [(0, .aload_n 0, 1, 0, 0, 0), (1, .getfield 11, 3, 0, 1, 0), (4, .iload_n 1, 1, 0, 1, 0), (5, .iconst 5, 1, 5, 0, 0), (6, .imul, 1, 0, 0, 0), (7, .iconst 4, 1, 4, 0, 0), (8, .iadd, 1, 0, 0, 0), (9, .iaload, 1, 0, 0, 0), (10, .ifCond .eq 7, 3, 0, 17, 0), (13, .iconst 1, 1, 1, 0, 0), (14, .goto 4, 3, 0, 18, 0), (17, .iconst 0, 1, 0, 0, 0), (18, .ireturn, 1, 0, 0, 0)]
def kX1_valueOf : List En := [(0, .aload_n 0, 1, 0, 0, 0), (1, .getfield 11, 3, 0, 1, 0), (4, .iload_n 1, 1, 0, 1, 0), (5, .iconst 5, 1, 5, 0, 0), (6, .imul, 1, 0, 0, 0), (7, .iload_n 2, 1, 0, 2, 0), (8, .iadd, 1, 0, 0, 0), (9, .iaload, 1, 0, 0, 0), (10, .ireturn, 1, 0, 0, 0)]
def kX1_set : List En := [(0, .aload_n 0, 1, 0, 0, 0), (1, .getfield 11, 3, 0, 1, 0), (4, .iload_n 1, 1, 0, 1, 0), (5, .iconst 5, 1, 5, 0, 0), (6, .imul, 1, 0, 0, 0), (7, .iload_n 2, 1, 0, 2, 0), (8, .iadd, 1, 0, 0, 0), (9, .iload_n 3, 1, 0, 3, 0), (10, .iastore, 1, 0, 0, 0), (11, .return_, 1, 0, 0, 0)]
def kX1_put : List En := [(0, .iload_n 1, 1, 0, 1, 0), (1, .iconst 5, 1, 5, 0, 0), (2, .imul, 1, 0, 0, 0), (3, .istore 6, 2, 0, 6, 0), (5, .aload_n 0, 1, 0, 0, 0), (6, .getfield 11, 3, 0, 1, 0), (9, .iload 6, 2, 0, 6, 0), (11, .iload_n 2, 1, 0, 2, 0), (12, .iastore, 1, 0, 0, 0), (13, .aload_n 0, 1, 0, 0, 0), (14, .getfield 11, 3, 0, 1, 0), (17, .iload 6, 2, 0, 6, 0), (19, .iconst 1, 1, 1, 0, 0), (20, .iadd, 1, 0, 0, 0), (21, .iload_n 3, 1, 0, 3, 0), (22, .iastore, 1, 0, 0, 0), (23, .aload_n 0, 1, 0, 0, 0), (24, .getfield 11, 3, 0, 1, 0), (27, .iload 6, 2, 0, 6, 0), (29, .iconst 2, 1, 2, 0, 0), (30, .iadd, 1, 0, 0, 0), (31, .iload 4, 2, 0, 4, 0), (33, .iastore, 1, 0, 0, 0), (34, .aload_n 0, 1, 0, 0, 0), (35, .getfield 11, 3, 0, 1, 0), (38, .iload 6, 2, 0, 6, 0), (40, .iconst 3, 1, 3, 0, 0), (41, .iadd, 1, 0, 0, 0), (42, .iload 5, 2, 0, 5, 0), (44, .iastore, 1, 0, 0, 0), (45, .aload_n 0, 1, 0, 0, 0), (46, .getfield 11, 3, 0, 1, 0), (49, .iload 6, 2, 0, 6, 0), (51, .iconst 4, 1, 4, 0, 0), (52, .iadd, 1, 0, 0, 0), (53, .iconst 1, 1, 1, 0, 0), (54, .iastore, 1, 0, 0, 0), (55, .return_, 1, 0, 0, 0)]
def kX1_clear : List En := [(0, .aload_n 0, 1, 0, 0, 0), (1, .getfield 11, 3, 0, 1, 0), (4, .iload_n 1, 1, 0, 1, 0), (5, .iconst 5, 1, 5, 0, 0), (6, .imul, 1, 0, 0, 0), (7, .iconst 4, 1, 4, 0, 0), (8, .iadd, 1, 0, 0, 0), (9, .iconst 0, 1, 0, 0, 0), (10, .iastore, 1, 0, 0, 0), (11, .return_, 1, 0, 0, 0)]
def kX1_copy : List En := [(0, .aload_n 2, 1, 0, 2, 0), (1, .getfield 11, 3, 0, 1, 0), (4, .iload_n 3, 1, 0, 3, 0), (5, .iconst 5, 1, 5, 0, 0), (6, .imul, 1, 0, 0, 0), (7, .aload_n 0, 1, 0, 0, 0), (8, .getfield 11, 3, 0, 1, 0), (11, .iload_n 1, 1, 0, 1, 0), (12, .iconst 5, 1, 5, 0, 0), (13, .imul, 1, 0, 0, 0), (14, .iconst 5, 1, 5, 0, 0), (15, .invokestatic 15, 3, 0, 900, 0), (18, .return_, 1, 0, 0, 0)]
def kX1_copyAll : List En := [(0, .aload_n 1, 1, 0, 1, 0), (1, .getfield 11, 3, 0, 1, 0), (4, .iconst 0, 1, 0, 0, 0), (5, .aload_n 0, 1, 0, 0, 0), (6, .getfield 11, 3, 0, 1, 0), (9, .iconst 0, 1, 0, 0, 0), (10, .aload_n 1, 1, 0, 1, 0), (11, .getfield 11, 3, 0, 1, 0), (14, .arraylength, 1, 0, 0, 0), (15, .aload_n 0, 1, 0, 0, 0), (16, .getfield 11, 3, 0, 1, 0), (19, .arraylength, 1, 0, 0, 0), (20, .invokestatic 21, 3, 0, 901, 0), (23, .invokestatic 15, 3, 0, 900, 0), (26, .return_, 1, 0, 0, 0)]
def kX2_init : List En := [(0, .aload_n 0, 1, 0, 0, 0), (1, .invokespecial 3, 3, 0, 902, 0), (4, .aload_n 0, 1, 0, 0, 0), (5, .iconst 0, 1, 0, 0, 0), (6, .putfield 9, 3, 0, 2, 0), (9, .aload_n 0, 1, 0, 0, 0), (10, .iconst 0, 1, 0, 0, 0), (11, .putfield 15, 3, 0, 2, 1), (14, .aload_n 0, 1, 0, 0, 0), (15, .iconst 0, 1, 0, 0, 0), (16, .putfield 18, 3, 0, 2, 2), (19, .aload_n 0, 1, 0, 0, 0), (20, .iconst 3, 1, 3, 0, 0), (21, .newarray .int, 2, 0, 10, 0), (23, .putfield 22, 3, 0, 2, 3), (26, .aload_n 0, 1, 0, 0, 0), (27, .iconst 1, 1, 1, 0, 0), (28, .putfield 26, 3, 0, 2, 4), (31, .aload_n 0, 1, 0, 0, 0), (32, .iconst 0, 1, 0, 0, 0), (33, .putfield 29, 3, 0, 2, 5), (36, .aload_n 0, 1, 0, 0, 0), (37, .iconst 0, 1, 0, 0, 0), (38, .putfield 32, 3, 0, 2, 6), (41, .aload_n 0, 1, 0, 0, 0), (42, .iconst (-1), 1, (-1), 0, 0), (43, .putfield 35, 3, 0, 2, 7), (46, .aload_n 0, 1, 0, 0, 0), (47, .iconst (-1), 1, (-1), 0, 0), (48, .putfield 38, 3, 0, 2, 8), (51, .aload_n 0, 1, 0, 0, 0), (52, .new 41, 3, 0, 7, 0), (55, .dup, 1, 0, 0, 0), (56, .invokespecial 43, 3, 0, 58, 0), (59, .putfield 44, 3, 0, 2, 9), (62, .aload_n 0, 1, 0, 0, 0), (63, .new 48, 3, 0, 3, 0), (66, .dup, 1, 0, 0, 0), (67, .invokespecial 50, 3, 0, 37, 0), (70, .putfield 51, 3, 0, 2, 10), (73, .aload_n 0, 1, 0, 0, 0), (74, .new 55, 3, 0, 4, 0), (77, .dup, 1, 0, 0, 0), (78, .invokespecial 57, 3, 0, 44, 0), (81, .putfield 58, 3, 0, 2, 11), (84, .aload_n 0, 1, 0, 0, 0), (85, .new 62, 3, 0, 0, 0), (88, .dup, 1, 0, 0, 0), (89, .iconst 1, 1, 1, 0, 0), (90, .invokespecial 64, 3, 0, 0, 0), (93, .putfield 67, 3, 0, 2, 12), (96, .return_, 1, 0, 0, 0)]
def kX2_start : List En := [(0, .aload_n 0, 1, 0, 0, 0), (1, .iconst 1, 1, 1, 0, 0), (2, .putfield 9, 3, 0, 2, 0), (5, .aload_n 0, 1, 0, 0, 0), (6, .iload 4, 2, 0, 4, 0), (8, .putfield 15, 3, 0, 2, 1), (11, .aload_n 0, 1, 0, 0, 0), (12, .getfield 22, 3, 0, 2, 3), (15, .iconst 0, 1, 0, 0, 0), (16, .iload_n 1, 1, 0, 1, 0), (17, .iastore, 1, 0, 0, 0), (18, .aload_n 0, 1, 0, 0, 0), (19, .getfield 22, 3, 0, 2, 3), (22, .iconst 1, 1, 1, 0, 0), (23, .iload_n 2, 1, 0, 2, 0), (24, .iastore, 1, 0, 0, 0), (25, .aload_n 0, 1, 0, 0, 0), (26, .getfield 22, 3, 0, 2, 3), (29, .iconst 2, 1, 2, 0, 0), (30, .iload_n 3, 1, 0, 3, 0), (31, .iastore, 1, 0, 0, 0), (32, .aload_n 0, 1, 0, 0, 0), (33, .iload_n 2, 1, 0, 2, 0), (34, .iconst (-1), 1, (-1), 0, 0), (35, .if_icmp .ne 7, 3, 0, 42, 0), (38, .iconst 1, 1, 1, 0, 0), (39, .goto 13, 3, 0, 52, 0), (42, .iload_n 3, 1, 0, 3, 0), (43, .iconst (-1), 1, (-1), 0, 0), (44, .if_icmp .ne 7, 3, 0, 51, 0), (47, .iconst 2, 1, 2, 0, 0), (48, .goto 4, 3, 0, 52, 0), (51, .iconst 3, 1, 3, 0, 0), (52, .putfield 18, 3, 0, 2, 2), (55, .aload_n 0, 1, 0, 0, 0), (56, .iconst 1, 1, 1, 0, 0), (57, .putfield 26, 3, 0, 2, 4), (60, .aload_n 0, 1, 0, 0, 0), (61, .iconst 0, 1, 0, 0, 0), (62, .putfield 29, 3, 0, 2, 5), (65, .aload_n 0, 1, 0, 0, 0), (66, .iconst 0, 1, 0, 0, 0), (67, .putfield 32, 3, 0, 2, 6), (70, .aload_n 0, 1, 0, 0, 0), (71, .iconst (-1), 1, (-1), 0, 0), (72, .putfield 35, 3, 0, 2, 7), (75, .aload_n 0, 1, 0, 0, 0), (76, .iconst (-1), 1, (-1), 0, 0), (77, .putfield 38, 3, 0, 2, 8), (80, .aload_n 0, 1, 0, 0, 0), (81, .invokevirtual 71, 3, 0, 15, 0), (84, .return_, 1, 0, 0, 0)]
def kX2_forgetEntries : List En := [(0, .aload_n 0, 1, 0, 0, 0), (1, .getfield 44, 3, 0, 2, 9), (4, .invokevirtual 74, 3, 0, 59, 0), (7, .aload_n 0, 1, 0, 0, 0), (8, .getfield 51, 3, 0, 2, 10), (11, .invokevirtual 77, 3, 0, 38, 0), (14, .aload_n 0, 1, 0, 0, 0), (15, .getfield 58, 3, 0, 2, 11), (18, .invokevirtual 80, 3, 0, 45, 0), (21, .return_, 1, 0, 0, 0)]
def kX2_isBuilding : List En := [(0, .aload_n 0, 1, 0, 0, 0), (1, .getfield 9, 3, 0, 2, 0), (4, .ifCond .eq 15, 3, 0, 19, 0), (7, .aload_n 0, 1, 0, 0, 0), (8, .getfield 26, 3, 0, 2, 4), (11, .iconst 4, 1, 4, 0, 0), (12, .if_icmp .ge 7, 3, 0, 19, 0), (15, .iconst 1, 1, 1, 0, 0), (16, .goto 4, 3, 0, 20, 0), (19, .iconst 0, 1, 0, 0, 0), (20, .ireturn, 1, 0, 0, 0)]
def kX2_isGuard : List En := [(0, .aload_n 0, 1, 0, 0, 0), (1, .getfield 9, 3, 0, 2, 0), (4, .ifCond .eq 22, 3, 0, 26, 0), (7, .aload_n 0, 1, 0, 0, 0), (8, .getfield 15, 3, 0, 2, 1), (11, .ifCond .eq 15, 3, 0, 26, 0), (14, .aload_n 0, 1, 0, 0, 0), (15, .getfield 26, 3, 0, 2, 4), (18, .iconst 4, 1, 4, 0, 0), (19, .if_icmp .ne 7, 3, 0, 26, 0), (22, .iconst 1, 1, 1, 0, 0), (23, .goto 4, 3, 0, 27, 0), (26, .iconst 0, 1, 0, 0, 0), (27, .ireturn, 1, 0, 0, 0)]
def kX2_haveOneKey : List En := [(0, .aload_n 1, 1, 0, 1, 0), (1, .iload_n 2, 1, 0, 2, 0), (2, .invokevirtual 81, 3, 0, 6, 0), (5, .ifCond .eq 12, 3, 0, 17, 0), (8, .aload_n 3, 1, 0, 3, 0), (9, .iload 4, 2, 0, 4, 0), (11, .invokevirtual 81, 3, 0, 6, 0), (14, .ifCond .ne 5, 3, 0, 19, 0), (17, .iconst 0, 1, 0, 0, 0), (18, .ireturn, 1, 0, 0, 0), (19, .iconst 0, 1, 0, 0, 0), (20, .istore 5, 2, 0, 5, 0), (22, .iload 5, 2, 0, 5, 0), (24, .aload_n 0, 1, 0, 0, 0), (25, .getfield 18, 3, 0, 2, 2), (28, .if_icmp .ge 39, 3, 0, 67, 0), (31, .aload_n 1, 1, 0, 1, 0), (32, .iload_n 2, 1, 0, 2, 0), (33, .aload_n 0, 1, 0, 0, 0), (34, .getfield 22, 3, 0, 2, 3), (37, .iload 5, 2, 0, 5, 0), (39, .iaload, 1, 0, 0, 0), (40, .invokevirtual 87, 3, 0, 7, 0), (43, .aload_n 3, 1, 0, 3, 0), (44, .iload 4, 2, 0, 4, 0), (46, .aload_n 0, 1, 0, 0, 0), (47, .getfield 22, 3, 0, 2, 3), (50, .iload 5, 2, 0, 5, 0), (52, .iaload, 1, 0, 0, 0), (53, .invokevirtual 87, 3, 0, 7, 0), (56, .if_icmp .eq 5, 3, 0, 61, 0), (59, .iconst 0, 1, 0, 0, 0), (60, .ireturn, 1, 0, 0, 0), (61, .iinc 5 1, 3, 1, 5, 0), (64, .goto (-42), 3, 0, 22, 0), (67, .iconst 1, 1, 1, 0, 0), (68, .ireturn, 1, 0, 0, 0)]
def kX2_makeEntry : List En := [(0, .iconst 0, 1, 0, 0, 0), (1, .istore 4, 2, 0, 4, 0), (3, .iload 4, 2, 0, 4, 0), (5, .iconst 3, 1, 3, 0, 0), (6, .if_icmp .ge 44, 3, 0, 50, 0), (9, .aload_n 0, 1, 0, 0, 0), (10, .getfield 67, 3, 0, 2, 12), (13, .iconst 0, 1, 0, 0, 0), (14, .iload 4, 2, 0, 4, 0), (16, .iload 4, 2, 0, 4, 0), (18, .aload_n 0, 1, 0, 0, 0), (19, .getfield 18, 3, 0, 2, 2), (22, .if_icmp .ge 18, 3, 0, 40, 0), (25, .aload_n 1, 1, 0, 1, 0), (26, .iload_n 2, 1, 0, 2, 0), (27, .aload_n 0, 1, 0, 0, 0), (28, .getfield 22, 3, 0, 2, 3), (31, .iload 4, 2, 0, 4, 0), (33, .iaload, 1, 0, 0, 0), (34, .invokevirtual 87, 3, 0, 7, 0), (37, .goto 4, 3, 0, 41, 0), (40, .iconst 0, 1, 0, 0, 0), (41, .invokevirtual 91, 3, 0, 2, 0), (44, .iinc 4 1, 3, 1, 4, 0), (47, .goto (-44), 3, 0, 3, 0), (50, .aload_n 0, 1, 0, 0, 0), (51, .getfield 67, 3, 0, 2, 12), (54, .iconst 0, 1, 0, 0, 0), (55, .iconst 3, 1, 3, 0, 0), (56, .iload_n 3, 1, 0, 3, 0), (57, .invokevirtual 91, 3, 0, 2, 0), (60, .return_, 1, 0, 0, 0)]
def kX2_hasKeyOf : List En := [(0, .aload_n 0, 1, 0, 0, 0), (1, .getfield 44, 3, 0, 2, 9), (4, .iload_n 1, 1, 0, 1, 0), (5, .iconst 3, 1, 3, 0, 0), (6, .invokevirtual 95, 3, 0, 63, 0), (9, .istore_n 3, 1, 0, 3, 0), (10, .aload_n 2, 1, 0, 2, 0), (11, .iload_n 3, 1, 0, 3, 0), (12, .invokevirtual 81, 3, 0, 6, 0), (15, .ifCond .ne 5, 3, 0, 20, 0), (18, .iconst 0, 1, 0, 0, 0), (19, .ireturn, 1, 0, 0, 0), (20, .iconst 0, 1, 0, 0, 0), (21, .istore 4, 2, 0, 4, 0), (23, .iload 4, 2, 0, 4, 0), (25, .aload_n 0, 1, 0, 0, 0), (26, .getfield 18, 3, 0, 2, 2), (29, .if_icmp .ge 36, 3, 0, 65, 0), (32, .aload_n 2, 1, 0, 2, 0), (33, .iload_n 3, 1, 0, 3, 0), (34, .aload_n 0, 1, 0, 0, 0), (35, .getfield 22, 3, 0, 2, 3), (38, .iload 4, 2, 0, 4, 0), (40, .iaload, 1, 0, 0, 0), (41, .invokevirtual 87, 3, 0, 7, 0), (44, .aload_n 0, 1, 0, 0, 0), (45, .getfield 44, 3, 0, 2, 9), (48, .iload_n 1, 1, 0, 1, 0), (49, .iload 4, 2, 0, 4, 0), (51, .invokevirtual 95, 3, 0, 63, 0), (54, .if_icmp .eq 5, 3, 0, 59, 0), (57, .iconst 0, 1, 0, 0, 0), (58, .ireturn, 1, 0, 0, 0), (59, .iinc 4 1, 3, 1, 4, 0), (62, .goto (-39), 3, 0, 23, 0), (65, .iconst 1, 1, 1, 0, 0), (66, .ireturn, 1, 0, 0, 0)]
def kX2_makeComing : List En := [(0, .aload_n 1, 1, 0, 1, 0), (1, .getfield 98, 3, 0, 5, 1), (4, .astore 4, 2, 0, 4, 0), (6, .aload 4, 2, 0, 4, 0), (8, .iload_n 2, 1, 0, 2, 0), (9, .invokevirtual 81, 3, 0, 6, 0), (12, .ifCond .eq 30, 3, 0, 42, 0), (15, .aload_n 0, 1, 0, 0, 0), (16, .aload 4, 2, 0, 4, 0), (18, .iload_n 2, 1, 0, 2, 0), (19, .aload_n 3, 1, 0, 3, 0), (20, .iconst 0, 1, 0, 0, 0), (21, .invokevirtual 104, 3, 0, 18, 0), (24, .ifCond .ne 18, 3, 0, 42, 0), (27, .aload_n 0, 1, 0, 0, 0), (28, .aload 4, 2, 0, 4, 0), (30, .iload_n 2, 1, 0, 2, 0), (31, .aload_n 1, 1, 0, 1, 0), (32, .getfield 108, 3, 0, 5, 0), (35, .iload_n 2, 1, 0, 2, 0), (36, .invokevirtual 104, 3, 0, 18, 0), (39, .ifCond .eq 5, 3, 0, 44, 0), (42, .iconst 0, 1, 0, 0, 0), (43, .ireturn, 1, 0, 0, 0), (44, .aload_n 0, 1, 0, 0, 0), (45, .aload 4, 2, 0, 4, 0), (47, .iload_n 2, 1, 0, 2, 0), (48, .iload_n 2, 1, 0, 2, 0), (49, .invokevirtual 111, 3, 0, 19, 0), (52, .iconst 1, 1, 1, 0, 0), (53, .ireturn, 1, 0, 0, 0)]
def kX2_makeGoing : List En := [(0, .aload_n 3, 1, 0, 3, 0), (1, .iconst 0, 1, 0, 0, 0), (2, .invokevirtual 81, 3, 0, 6, 0), (5, .ifCond .eq 31, 3, 0, 36, 0), (8, .aload_n 0, 1, 0, 0, 0), (9, .aload_n 3, 1, 0, 3, 0), (10, .iconst 0, 1, 0, 0, 0), (11, .aload_n 1, 1, 0, 1, 0), (12, .getfield 98, 3, 0, 5, 1), (15, .iload_n 2, 1, 0, 2, 0), (16, .invokevirtual 104, 3, 0, 18, 0), (19, .ifCond .ne 17, 3, 0, 36, 0), (22, .aload_n 0, 1, 0, 0, 0), (23, .aload_n 3, 1, 0, 3, 0), (24, .iconst 0, 1, 0, 0, 0), (25, .aload_n 1, 1, 0, 1, 0), (26, .getfield 108, 3, 0, 5, 0), (29, .iload_n 2, 1, 0, 2, 0), (30, .invokevirtual 104, 3, 0, 18, 0), (33, .ifCond .eq 5, 3, 0, 38, 0), (36, .iconst 0, 1, 0, 0, 0), (37, .ireturn, 1, 0, 0, 0), (38, .aload_n 0, 1, 0, 0, 0), (39, .aload_n 3, 1, 0, 3, 0), (40, .iconst 0, 1, 0, 0, 0), (41, .iload_n 2, 1, 0, 2, 0), (42, .invokevirtual 111, 3, 0, 19, 0), (45, .iconst 1, 1, 1, 0, 0), (46, .ireturn, 1, 0, 0, 0)]
def kX2_takeMade : List En := [(0, .aload_n 0, 1, 0, 0, 0), (1, .getfield 26, 3, 0, 2, 4), (4, .iconst 4, 1, 4, 0, 0), (5, .if_icmp .ne 37, 3, 0, 42, 0), (8, .iload_n 1, 1, 0, 1, 0), (9, .ifCond .eq 18, 3, 0, 27, 0), (12, .aload_n 0, 1, 0, 0, 0), (13, .getfield 44, 3, 0, 2, 9), (16, .aload_n 0, 1, 0, 0, 0), (17, .getfield 67, 3, 0, 2, 12), (20, .iconst 0, 1, 0, 0, 0), (21, .invokevirtual 115, 3, 0, 66, 0), (24, .goto 75, 3, 0, 99, 0), (27, .aload_n 0, 1, 0, 0, 0), (28, .getfield 44, 3, 0, 2, 9), (31, .aload_n 0, 1, 0, 0, 0), (32, .getfield 67, 3, 0, 2, 12), (35, .iconst 0, 1, 0, 0, 0), (36, .invokevirtual 119, 3, 0, 67, 0), (39, .goto 60, 3, 0, 99, 0), (42, .aload_n 0, 1, 0, 0, 0), (43, .invokevirtual 122, 3, 0, 16, 0), (46, .ifCond .eq 53, 3, 0, 99, 0), (49, .aload_n 0, 1, 0, 0, 0), (50, .getfield 67, 3, 0, 2, 12), (53, .iconst 0, 1, 0, 0, 0), (54, .iconst 3, 1, 3, 0, 0), (55, .invokevirtual 126, 3, 0, 1, 0), (58, .aload_n 0, 1, 0, 0, 0), (59, .getfield 29, 3, 0, 2, 5), (62, .bipush 8, 2, 8, 0, 0), (64, .imul, 1, 0, 0, 0), (65, .if_icmp .ge 34, 3, 0, 99, 0), (68, .aload_n 0, 1, 0, 0, 0), (69, .getfield 51, 3, 0, 2, 10), (72, .invokevirtual 129, 3, 0, 39, 0), (75, .ifCond .eq 11, 3, 0, 86, 0), (78, .aload_n 0, 1, 0, 0, 0), (79, .iconst 2, 1, 2, 0, 0), (80, .invokevirtual 132, 3, 0, 24, 0), (83, .goto 16, 3, 0, 99, 0), (86, .aload_n 0, 1, 0, 0, 0), (87, .getfield 51, 3, 0, 2, 10), (90, .aload_n 0, 1, 0, 0, 0), (91, .getfield 67, 3, 0, 2, 12), (94, .iconst 0, 1, 0, 0, 0), (95, .iload_n 1, 1, 0, 1, 0), (96, .invokevirtual 135, 3, 0, 40, 0), (99, .return_, 1, 0, 0, 0)]
def kX2_fail : List En := [(0, .aload_n 0, 1, 0, 0, 0), (1, .iconst 5, 1, 5, 0, 0), (2, .putfield 26, 3, 0, 2, 4), (5, .aload_n 0, 1, 0, 0, 0), (6, .iload_n 1, 1, 0, 1, 0), (7, .putfield 32, 3, 0, 2, 6), (10, .aload_n 0, 1, 0, 0, 0), (11, .invokevirtual 71, 3, 0, 15, 0), (14, .return_, 1, 0, 0, 0)]
def kX2_takeStep : List En := [(0, .aload_n 0, 1, 0, 0, 0), (1, .getfield 26, 3, 0, 2, 4), (4, .iconst 1, 1, 1, 0, 0), (5, .if_icmp .ne 11, 3, 0, 16, 0), (8, .aload_n 0, 1, 0, 0, 0), (9, .aload_n 1, 1, 0, 1, 0), (10, .invokevirtual 138, 3, 0, 26, 0), (13, .goto 56, 3, 0, 69, 0), (16, .aload_n 0, 1, 0, 0, 0), (17, .getfield 26, 3, 0, 2, 4), (20, .iconst 2, 1, 2, 0, 0), (21, .if_icmp .ne 10, 3, 0, 31, 0), (24, .aload_n 0, 1, 0, 0, 0), (25, .invokevirtual 142, 3, 0, 27, 0), (28, .goto 41, 3, 0, 69, 0), (31, .aload_n 0, 1, 0, 0, 0), (32, .getfield 26, 3, 0, 2, 4), (35, .iconst 3, 1, 3, 0, 0), (36, .if_icmp .ne 20, 3, 0, 56, 0), (39, .aload_n 0, 1, 0, 0, 0), (40, .getfield 51, 3, 0, 2, 10), (43, .getfield 145, 3, 0, 3, 2), (46, .ifCond .le 10, 3, 0, 56, 0), (49, .aload_n 0, 1, 0, 0, 0), (50, .invokevirtual 148, 3, 0, 28, 0), (53, .goto 16, 3, 0, 69, 0), (56, .aload_n 0, 1, 0, 0, 0), (57, .getfield 26, 3, 0, 2, 4), (60, .iconst 3, 1, 3, 0, 0), (61, .if_icmp .ne 8, 3, 0, 69, 0), (64, .aload_n 0, 1, 0, 0, 0), (65, .aload_n 1, 1, 0, 1, 0), (66, .invokevirtual 151, 3, 0, 29, 0), (69, .return_, 1, 0, 0, 0)]
def kX2_scanPage : List En := [(0, .iconst 0, 1, 0, 0, 0), (1, .istore_n 2, 1, 0, 2, 0), (2, .iload_n 2, 1, 0, 2, 0), (3, .bipush 8, 2, 8, 0, 0), (5, .if_icmp .ge 102, 3, 0, 107, 0), (8, .aload_n 0, 1, 0, 0, 0), (9, .getfield 29, 3, 0, 2, 5), (12, .bipush 8, 2, 8, 0, 0), (14, .imul, 1, 0, 0, 0), (15, .iload_n 2, 1, 0, 2, 0), (16, .iadd, 1, 0, 0, 0), (17, .istore_n 3, 1, 0, 3, 0), (18, .aload_n 1, 1, 0, 1, 0), (19, .getfield 108, 3, 0, 5, 0), (22, .iload_n 3, 1, 0, 3, 0), (23, .invokevirtual 81, 3, 0, 6, 0), (26, .ifCond .eq 25, 3, 0, 51, 0), (29, .aload_n 0, 1, 0, 0, 0), (30, .aload_n 1, 1, 0, 1, 0), (31, .getfield 108, 3, 0, 5, 0), (34, .iload_n 3, 1, 0, 3, 0), (35, .iload_n 3, 1, 0, 3, 0), (36, .invokevirtual 111, 3, 0, 19, 0), (39, .aload_n 0, 1, 0, 0, 0), (40, .getfield 58, 3, 0, 2, 11), (43, .aload_n 0, 1, 0, 0, 0), (44, .getfield 67, 3, 0, 2, 12), (47, .iconst 0, 1, 0, 0, 0), (48, .invokevirtual 154, 3, 0, 46, 0), (51, .aload_n 1, 1, 0, 1, 0), (52, .getfield 98, 3, 0, 5, 1), (55, .iload_n 3, 1, 0, 3, 0), (56, .invokevirtual 81, 3, 0, 6, 0), (59, .ifCond .eq 42, 3, 0, 101, 0), (62, .aload_n 0, 1, 0, 0, 0), (63, .aload_n 1, 1, 0, 1, 0), (64, .getfield 98, 3, 0, 5, 1), (67, .iload_n 3, 1, 0, 3, 0), (68, .aload_n 1, 1, 0, 1, 0), (69, .getfield 108, 3, 0, 5, 0), (72, .iload_n 3, 1, 0, 3, 0), (73, .invokevirtual 104, 3, 0, 18, 0), (76, .ifCond .ne 25, 3, 0, 101, 0), (79, .aload_n 0, 1, 0, 0, 0), (80, .aload_n 1, 1, 0, 1, 0), (81, .getfield 98, 3, 0, 5, 1), (84, .iload_n 3, 1, 0, 3, 0), (85, .iload_n 3, 1, 0, 3, 0), (86, .invokevirtual 111, 3, 0, 19, 0), (89, .aload_n 0, 1, 0, 0, 0), (90, .getfield 58, 3, 0, 2, 11), (93, .aload_n 0, 1, 0, 0, 0), (94, .getfield 67, 3, 0, 2, 12), (97, .iconst 0, 1, 0, 0, 0), (98, .invokevirtual 154, 3, 0, 46, 0), (101, .iinc 2 1, 3, 1, 2, 0), (104, .goto (-102), 3, 0, 2, 0), (107, .aload_n 0, 1, 0, 0, 0), (108, .dup, 1, 0, 0, 0), (109, .getfield 29, 3, 0, 2, 5), (112, .iconst 1, 1, 1, 0, 0), (113, .iadd, 1, 0, 0, 0), (114, .putfield 29, 3, 0, 2, 5), (117, .aload_n 0, 1, 0, 0, 0), (118, .getfield 29, 3, 0, 2, 5), (121, .bipush 40, 2, 40, 0, 0), (123, .if_icmp .lt 8, 3, 0, 131, 0), (126, .aload_n 0, 1, 0, 0, 0), (127, .iconst 2, 1, 2, 0, 0), (128, .putfield 26, 3, 0, 2, 4), (131, .return_, 1, 0, 0, 0)]
def kX2_loadSome : List En := [(0, .iconst 0, 1, 0, 0, 0), (1, .istore_n 1, 1, 0, 1, 0), (2, .iload_n 1, 1, 0, 1, 0), (3, .bipush 16, 2, 16, 0, 0), (5, .if_icmp .ge 43, 3, 0, 48, 0), (8, .aload_n 0, 1, 0, 0, 0), (9, .getfield 58, 3, 0, 2, 11), (12, .invokevirtual 155, 3, 0, 48, 0), (15, .istore_n 2, 1, 0, 2, 0), (16, .iload_n 2, 1, 0, 2, 0), (17, .iconst (-1), 1, (-1), 0, 0), (18, .if_icmp .ne 9, 3, 0, 27, 0), (21, .aload_n 0, 1, 0, 0, 0), (22, .iconst 3, 1, 3, 0, 0), (23, .putfield 26, 3, 0, 2, 4), (26, .return_, 1, 0, 0, 0), (27, .aload_n 0, 1, 0, 0, 0), (28, .getfield 44, 3, 0, 2, 9), (31, .aload_n 0, 1, 0, 0, 0), (32, .getfield 58, 3, 0, 2, 11), (35, .getfield 159, 3, 0, 4, 0), (38, .iload_n 2, 1, 0, 2, 0), (39, .invokevirtual 115, 3, 0, 66, 0), (42, .iinc 1 1, 3, 1, 1, 0), (45, .goto (-43), 3, 0, 2, 0), (48, .return_, 1, 0, 0, 0)]
def kX2_catchUp : List En := [(0, .aload_n 0, 1, 0, 0, 0), (1, .getfield 51, 3, 0, 2, 10), (4, .invokevirtual 162, 3, 0, 42, 0), (7, .ifCond .eq 27, 3, 0, 34, 0), (10, .aload_n 0, 1, 0, 0, 0), (11, .getfield 44, 3, 0, 2, 9), (14, .aload_n 0, 1, 0, 0, 0), (15, .getfield 51, 3, 0, 2, 10), (18, .getfield 165, 3, 0, 3, 0), (21, .aload_n 0, 1, 0, 0, 0), (22, .getfield 51, 3, 0, 2, 10), (25, .invokevirtual 166, 3, 0, 41, 0), (28, .invokevirtual 115, 3, 0, 66, 0), (31, .goto 24, 3, 0, 55, 0), (34, .aload_n 0, 1, 0, 0, 0), (35, .getfield 44, 3, 0, 2, 9), (38, .aload_n 0, 1, 0, 0, 0), (39, .getfield 51, 3, 0, 2, 10), (42, .getfield 165, 3, 0, 3, 0), (45, .aload_n 0, 1, 0, 0, 0), (46, .getfield 51, 3, 0, 2, 10), (49, .invokevirtual 166, 3, 0, 41, 0), (52, .invokevirtual 119, 3, 0, 67, 0), (55, .aload_n 0, 1, 0, 0, 0), (56, .getfield 51, 3, 0, 2, 10), (59, .invokevirtual 169, 3, 0, 43, 0), (62, .return_, 1, 0, 0, 0)]
def kX2_finish : List En := [(0, .aload_n 0, 1, 0, 0, 0), (1, .getfield 15, 3, 0, 2, 1), (4, .ifCond .eq 11, 3, 0, 15, 0), (7, .aload_n 0, 1, 0, 0, 0), (8, .aload_n 1, 1, 0, 1, 0), (9, .invokevirtual 172, 3, 0, 30, 0), (12, .goto 4, 3, 0, 16, 0), (15, .iconst (-1), 1, (-1), 0, 0), (16, .istore_n 2, 1, 0, 2, 0), (17, .iload_n 2, 1, 0, 2, 0), (18, .iconst (-1), 1, (-1), 0, 0), (19, .if_icmp .ne 9, 3, 0, 28, 0), (22, .aload_n 0, 1, 0, 0, 0), (23, .iconst 4, 1, 4, 0, 0), (24, .putfield 26, 3, 0, 2, 4), (27, .return_, 1, 0, 0, 0), (28, .aload_n 0, 1, 0, 0, 0), (29, .iload_n 2, 1, 0, 2, 0), (30, .putfield 35, 3, 0, 2, 7), (33, .aload_n 0, 1, 0, 0, 0), (34, .aload_n 0, 1, 0, 0, 0), (35, .aload_n 1, 1, 0, 1, 0), (36, .iload_n 2, 1, 0, 2, 0), (37, .invokevirtual 176, 3, 0, 31, 0), (40, .putfield 38, 3, 0, 2, 8), (43, .aload_n 0, 1, 0, 0, 0), (44, .iconst 1, 1, 1, 0, 0), (45, .invokevirtual 132, 3, 0, 24, 0), (48, .return_, 1, 0, 0, 0)]
def kX2_leastWithClash : List En := [(0, .iconst 0, 1, 0, 0, 0), (1, .istore_n 2, 1, 0, 2, 0), (2, .iload_n 2, 1, 0, 2, 0), (3, .sipush 320, 3, 320, 0, 0), (6, .if_icmp .ge 21, 3, 0, 27, 0), (9, .aload_n 0, 1, 0, 0, 0), (10, .aload_n 1, 1, 0, 1, 0), (11, .iload_n 2, 1, 0, 2, 0), (12, .invokevirtual 176, 3, 0, 31, 0), (15, .iconst (-1), 1, (-1), 0, 0), (16, .if_icmp .eq 5, 3, 0, 21, 0), (19, .iload_n 2, 1, 0, 2, 0), (20, .ireturn, 1, 0, 0, 0), (21, .iinc 2 1, 3, 1, 2, 0), (24, .goto (-22), 3, 0, 2, 0), (27, .iconst (-1), 1, (-1), 0, 0), (28, .ireturn, 1, 0, 0, 0)]
def kX2_leastClashWith : List En := [(0, .aload_n 1, 1, 0, 1, 0), (1, .getfield 98, 3, 0, 5, 1), (4, .iload_n 2, 1, 0, 2, 0), (5, .invokevirtual 81, 3, 0, 6, 0), (8, .ifCond .ne 16, 3, 0, 24, 0), (11, .aload_n 1, 1, 0, 1, 0), (12, .getfield 108, 3, 0, 5, 0), (15, .iload_n 2, 1, 0, 2, 0), (16, .invokevirtual 81, 3, 0, 6, 0), (19, .ifCond .ne 5, 3, 0, 24, 0), (22, .iconst (-1), 1, (-1), 0, 0), (23, .ireturn, 1, 0, 0, 0), (24, .iconst 0, 1, 0, 0, 0), (25, .istore_n 3, 1, 0, 3, 0), (26, .iload_n 3, 1, 0, 3, 0), (27, .sipush 320, 3, 320, 0, 0), (30, .if_icmp .ge 26, 3, 0, 56, 0), (33, .iload_n 3, 1, 0, 3, 0), (34, .iload_n 2, 1, 0, 2, 0), (35, .if_icmp .eq 15, 3, 0, 50, 0), (38, .aload_n 0, 1, 0, 0, 0), (39, .aload_n 1, 1, 0, 1, 0), (40, .iload_n 2, 1, 0, 2, 0), (41, .iload_n 3, 1, 0, 3, 0), (42, .invokevirtual 180, 3, 0, 32, 0), (45, .ifCond .eq 5, 3, 0, 50, 0), (48, .iload_n 3, 1, 0, 3, 0), (49, .ireturn, 1, 0, 0, 0), (50, .iinc 3 1, 3, 1, 3, 0), (53, .goto (-27), 3, 0, 26, 0), (56, .iconst (-1), 1, (-1), 0, 0), (57, .ireturn, 1, 0, 0, 0)]
def kX2_isClash : List En := [(0, .aload_n 0, 1, 0, 0, 0), (1, .aload_n 1, 1, 0, 1, 0), (2, .getfield 98, 3, 0, 5, 1), (5, .iload_n 2, 1, 0, 2, 0), (6, .aload_n 1, 1, 0, 1, 0), (7, .getfield 98, 3, 0, 5, 1), (10, .iload_n 3, 1, 0, 3, 0), (11, .invokevirtual 104, 3, 0, 18, 0), (14, .ifCond .ne 20, 3, 0, 34, 0), (17, .aload_n 0, 1, 0, 0, 0), (18, .aload_n 1, 1, 0, 1, 0), (19, .getfield 108, 3, 0, 5, 0), (22, .iload_n 2, 1, 0, 2, 0), (23, .aload_n 1, 1, 0, 1, 0), (24, .getfield 108, 3, 0, 5, 0), (27, .iload_n 3, 1, 0, 3, 0), (28, .invokevirtual 104, 3, 0, 18, 0), (31, .ifCond .eq 5, 3, 0, 36, 0), (34, .iconst 1, 1, 1, 0, 0), (35, .ireturn, 1, 0, 0, 0), (36, .aload_n 1, 1, 0, 1, 0), (37, .getfield 184, 3, 0, 5, 2), (40, .iload_n 2, 1, 0, 2, 0), (41, .iaload, 1, 0, 0, 0), (42, .iconst (-1), 1, (-1), 0, 0), (43, .if_icmp .eq 20, 3, 0, 63, 0), (46, .aload_n 1, 1, 0, 1, 0), (47, .getfield 184, 3, 0, 5, 2), (50, .iload_n 2, 1, 0, 2, 0), (51, .iaload, 1, 0, 0, 0), (52, .aload_n 1, 1, 0, 1, 0), (53, .getfield 184, 3, 0, 5, 2), (56, .iload_n 3, 1, 0, 3, 0), (57, .iaload, 1, 0, 0, 0), (58, .if_icmp .ne 5, 3, 0, 63, 0), (61, .iconst 0, 1, 0, 0, 0), (62, .ireturn, 1, 0, 0, 0), (63, .aload_n 0, 1, 0, 0, 0), (64, .aload_n 1, 1, 0, 1, 0), (65, .getfield 98, 3, 0, 5, 1), (68, .iload_n 2, 1, 0, 2, 0), (69, .aload_n 1, 1, 0, 1, 0), (70, .getfield 108, 3, 0, 5, 0), (73, .iload_n 3, 1, 0, 3, 0), (74, .invokevirtual 104, 3, 0, 18, 0), (77, .ifCond .ne 20, 3, 0, 97, 0), (80, .aload_n 0, 1, 0, 0, 0), (81, .aload_n 1, 1, 0, 1, 0), (82, .getfield 108, 3, 0, 5, 0), (85, .iload_n 2, 1, 0, 2, 0), (86, .aload_n 1, 1, 0, 1, 0), (87, .getfield 98, 3, 0, 5, 1), (90, .iload_n 3, 1, 0, 3, 0), (91, .invokevirtual 104, 3, 0, 18, 0), (94, .ifCond .eq 7, 3, 0, 101, 0), (97, .iconst 1, 1, 1, 0, 0), (98, .goto 4, 3, 0, 102, 0), (101, .iconst 0, 1, 0, 0, 0), (102, .ireturn, 1, 0, 0, 0)]
def kX2_rangeSize : List En := [(0, .iconst 0, 1, 0, 0, 0), (1, .istore_n 3, 1, 0, 3, 0), (2, .iconst 0, 1, 0, 0, 0), (3, .istore 4, 2, 0, 4, 0), (5, .iload 4, 2, 0, 4, 0), (7, .aload_n 0, 1, 0, 0, 0), (8, .getfield 44, 3, 0, 2, 9), (11, .invokevirtual 187, 3, 0, 60, 0), (14, .if_icmp .ge 23, 3, 0, 37, 0), (17, .aload_n 0, 1, 0, 0, 0), (18, .iload 4, 2, 0, 4, 0), (20, .aload_n 1, 1, 0, 1, 0), (21, .aload_n 2, 1, 0, 2, 0), (22, .invokevirtual 189, 3, 0, 34, 0), (25, .ifCond .eq 6, 3, 0, 31, 0), (28, .iinc 3 1, 3, 1, 3, 0), (31, .iinc 4 1, 3, 1, 4, 0), (34, .goto (-29), 3, 0, 5, 0), (37, .iload_n 3, 1, 0, 3, 0), (38, .ireturn, 1, 0, 0, 0)]
def kX2_isInRange : List En := [(0, .iconst 0, 1, 0, 0, 0), (1, .istore 4, 2, 0, 4, 0), (3, .iload 4, 2, 0, 4, 0), (5, .aload_n 0, 1, 0, 0, 0), (6, .getfield 18, 3, 0, 2, 2), (9, .if_icmp .ge 68, 3, 0, 77, 0), (12, .aload_n 0, 1, 0, 0, 0), (13, .getfield 44, 3, 0, 2, 9), (16, .iload_n 1, 1, 0, 1, 0), (17, .iload 4, 2, 0, 4, 0), (19, .invokevirtual 95, 3, 0, 63, 0), (22, .istore 5, 2, 0, 5, 0), (24, .aload_n 2, 1, 0, 2, 0), (25, .aload_n 0, 1, 0, 0, 0), (26, .getfield 22, 3, 0, 2, 3), (29, .iload 4, 2, 0, 4, 0), (31, .iaload, 1, 0, 0, 0), (32, .iaload, 1, 0, 0, 0), (33, .istore 6, 2, 0, 6, 0), (35, .aload_n 3, 1, 0, 3, 0), (36, .aload_n 0, 1, 0, 0, 0), (37, .getfield 22, 3, 0, 2, 3), (40, .iload 4, 2, 0, 4, 0), (42, .iaload, 1, 0, 0, 0), (43, .iaload, 1, 0, 0, 0), (44, .istore 7, 2, 0, 7, 0), (46, .iload 5, 2, 0, 5, 0), (48, .iload 6, 2, 0, 6, 0), (50, .if_icmp .lt 10, 3, 0, 60, 0), (53, .iload 5, 2, 0, 5, 0), (55, .iload 7, 2, 0, 7, 0), (57, .if_icmp .le 5, 3, 0, 62, 0), (60, .iconst 0, 1, 0, 0, 0), (61, .ireturn, 1, 0, 0, 0), (62, .iload 6, 2, 0, 6, 0), (64, .iload 7, 2, 0, 7, 0), (66, .if_icmp .eq 5, 3, 0, 71, 0), (69, .iconst 1, 1, 1, 0, 0), (70, .ireturn, 1, 0, 0, 0), (71, .iinc 4 1, 3, 1, 4, 0), (74, .goto (-71), 3, 0, 3, 0), (77, .iconst 1, 1, 1, 0, 0), (78, .ireturn, 1, 0, 0, 0)]
def kX2_faults : List En := [(0, .aload_n 0, 1, 0, 0, 0), (1, .getfield 44, 3, 0, 2, 9), (4, .invokevirtual 193, 3, 0, 83, 0), (7, .istore_n 2, 1, 0, 2, 0), (8, .iconst 0, 1, 0, 0, 0), (9, .istore_n 3, 1, 0, 3, 0), (10, .iconst 0, 1, 0, 0, 0), (11, .istore 4, 2, 0, 4, 0), (13, .iload 4, 2, 0, 4, 0), (15, .sipush 320, 3, 320, 0, 0), (18, .if_icmp .ge 84, 3, 0, 102, 0), (21, .aload_n 1, 1, 0, 1, 0), (22, .getfield 108, 3, 0, 5, 0), (25, .iload 4, 2, 0, 4, 0), (27, .invokevirtual 81, 3, 0, 6, 0), (30, .ifCond .eq 19, 3, 0, 49, 0), (33, .iinc 3 1, 3, 1, 3, 0), (36, .iload_n 2, 1, 0, 2, 0), (37, .aload_n 0, 1, 0, 0, 0), (38, .aload_n 1, 1, 0, 1, 0), (39, .getfield 108, 3, 0, 5, 0), (42, .iload 4, 2, 0, 4, 0), (44, .invokevirtual 196, 3, 0, 36, 0), (47, .iadd, 1, 0, 0, 0), (48, .istore_n 2, 1, 0, 2, 0), (49, .aload_n 1, 1, 0, 1, 0), (50, .getfield 98, 3, 0, 5, 1), (53, .iload 4, 2, 0, 4, 0), (55, .invokevirtual 81, 3, 0, 6, 0), (58, .ifCond .eq 38, 3, 0, 96, 0), (61, .aload_n 0, 1, 0, 0, 0), (62, .aload_n 1, 1, 0, 1, 0), (63, .getfield 98, 3, 0, 5, 1), (66, .iload 4, 2, 0, 4, 0), (68, .aload_n 1, 1, 0, 1, 0), (69, .getfield 108, 3, 0, 5, 0), (72, .iload 4, 2, 0, 4, 0), (74, .invokevirtual 104, 3, 0, 18, 0), (77, .ifCond .ne 19, 3, 0, 96, 0), (80, .iinc 3 1, 3, 1, 3, 0), (83, .iload_n 2, 1, 0, 2, 0), (84, .aload_n 0, 1, 0, 0, 0), (85, .aload_n 1, 1, 0, 1, 0), (86, .getfield 98, 3, 0, 5, 1), (89, .iload 4, 2, 0, 4, 0), (91, .invokevirtual 196, 3, 0, 36, 0), (94, .iadd, 1, 0, 0, 0), (95, .istore_n 2, 1, 0, 2, 0), (96, .iinc 4 1, 3, 1, 4, 0), (99, .goto (-86), 3, 0, 13, 0), (102, .iload_n 3, 1, 0, 3, 0), (103, .aload_n 0, 1, 0, 0, 0), (104, .getfield 44, 3, 0, 2, 9), (107, .invokevirtual 187, 3, 0, 60, 0), (110, .if_icmp .eq 6, 3, 0, 116, 0), (113, .iinc 2 1, 3, 1, 2, 0), (116, .aload_n 0, 1, 0, 0, 0), (117, .getfield 15, 3, 0, 2, 1), (120, .ifCond .eq 15, 3, 0, 135, 0), (123, .aload_n 0, 1, 0, 0, 0), (124, .aload_n 1, 1, 0, 1, 0), (125, .invokevirtual 172, 3, 0, 30, 0), (128, .iconst (-1), 1, (-1), 0, 0), (129, .if_icmp .eq 6, 3, 0, 135, 0), (132, .iinc 2 1, 3, 1, 2, 0), (135, .iload_n 2, 1, 0, 2, 0), (136, .ireturn, 1, 0, 0, 0)]
def kX2_missing : List En := [(0, .aload_n 0, 1, 0, 0, 0), (1, .aload_n 1, 1, 0, 1, 0), (2, .iload_n 2, 1, 0, 2, 0), (3, .iload_n 2, 1, 0, 2, 0), (4, .invokevirtual 111, 3, 0, 19, 0), (7, .aload_n 0, 1, 0, 0, 0), (8, .getfield 44, 3, 0, 2, 9), (11, .aload_n 0, 1, 0, 0, 0), (12, .getfield 67, 3, 0, 2, 12), (15, .iconst 0, 1, 0, 0, 0), (16, .invokevirtual 200, 3, 0, 65, 0), (19, .ifCond .eq 7, 3, 0, 26, 0), (22, .iconst 0, 1, 0, 0, 0), (23, .goto 4, 3, 0, 27, 0), (26, .iconst 1, 1, 1, 0, 0), (27, .ireturn, 1, 0, 0, 0)]
def kX3_init : List En := [(0, .aload_n 0, 1, 0, 0, 0), (1, .invokespecial 3, 3, 0, 902, 0), (4, .aload_n 0, 1, 0, 0, 0), (5, .new 9, 3, 0, 0, 0), (8, .dup, 1, 0, 0, 0), (9, .sipush 300, 3, 300, 0, 0), (12, .invokespecial 11, 3, 0, 0, 0), (15, .putfield 14, 3, 0, 3, 0), (18, .aload_n 0, 1, 0, 0, 0), (19, .sipush 300, 3, 300, 0, 0), (22, .newarray .boolean, 2, 0, 11, 0), (24, .putfield 20, 3, 0, 3, 1), (27, .aload_n 0, 1, 0, 0, 0), (28, .iconst 0, 1, 0, 0, 0), (29, .putfield 24, 3, 0, 3, 2), (32, .aload_n 0, 1, 0, 0, 0), (33, .iconst 0, 1, 0, 0, 0), (34, .putfield 28, 3, 0, 3, 3), (37, .return_, 1, 0, 0, 0)]
def kX3_clear : List En := [(0, .aload_n 0, 1, 0, 0, 0), (1, .iconst 0, 1, 0, 0, 0), (2, .putfield 24, 3, 0, 3, 2), (5, .aload_n 0, 1, 0, 0, 0), (6, .iconst 0, 1, 0, 0, 0), (7, .putfield 28, 3, 0, 3, 3), (10, .return_, 1, 0, 0, 0)]
def kX3_isFull : List En := [(0, .aload_n 0, 1, 0, 0, 0), (1, .getfield 24, 3, 0, 3, 2), (4, .sipush 300, 3, 300, 0, 0), (7, .if_icmp .lt 7, 3, 0, 14, 0), (10, .iconst 1, 1, 1, 0, 0), (11, .goto 4, 3, 0, 15, 0), (14, .iconst 0, 1, 0, 0, 0), (15, .ireturn, 1, 0, 0, 0)]
def kX3_add : List En := [(0, .aload_n 0, 1, 0, 0, 0), (1, .invokevirtual 31, 3, 0, 39, 0), (4, .ifCond .ne 47, 3, 0, 51, 0), (7, .aload_n 0, 1, 0, 0, 0), (8, .getfield 28, 3, 0, 3, 3), (11, .aload_n 0, 1, 0, 0, 0), (12, .getfield 24, 3, 0, 3, 2), (15, .iadd, 1, 0, 0, 0), (16, .sipush 300, 3, 300, 0, 0), (19, .irem, 1, 0, 0, 0), (20, .istore 4, 2, 0, 4, 0), (22, .aload_n 0, 1, 0, 0, 0), (23, .getfield 14, 3, 0, 3, 0), (26, .iload 4, 2, 0, 4, 0), (28, .aload_n 1, 1, 0, 1, 0), (29, .iload_n 2, 1, 0, 2, 0), (30, .invokevirtual 35, 3, 0, 3, 0), (33, .aload_n 0, 1, 0, 0, 0), (34, .getfield 20, 3, 0, 3, 1), (37, .iload 4, 2, 0, 4, 0), (39, .iload_n 3, 1, 0, 3, 0), (40, .bastore, 1, 0, 0, 0), (41, .aload_n 0, 1, 0, 0, 0), (42, .dup, 1, 0, 0, 0), (43, .getfield 24, 3, 0, 3, 2), (46, .iconst 1, 1, 1, 0, 0), (47, .iadd, 1, 0, 0, 0), (48, .putfield 24, 3, 0, 3, 2), (51, .return_, 1, 0, 0, 0)]
def kX3_firstSlot : List En := [(0, .aload_n 0, 1, 0, 0, 0), (1, .getfield 28, 3, 0, 3, 3), (4, .ireturn, 1, 0, 0, 0)]
def kX3_firstCame : List En := [(0, .aload_n 0, 1, 0, 0, 0), (1, .getfield 20, 3, 0, 3, 1), (4, .aload_n 0, 1, 0, 0, 0), (5, .getfield 28, 3, 0, 3, 3), (8, .baload, 1, 0, 0, 0), (9, .ireturn, 1, 0, 0, 0)]
def kX3_takeFirst : List En := [(0, .aload_n 0, 1, 0, 0, 0), (1, .getfield 24, 3, 0, 3, 2), (4, .ifCond .le 27, 3, 0, 31, 0), (7, .aload_n 0, 1, 0, 0, 0), (8, .aload_n 0, 1, 0, 0, 0), (9, .getfield 28, 3, 0, 3, 3), (12, .iconst 1, 1, 1, 0, 0), (13, .iadd, 1, 0, 0, 0), (14, .sipush 300, 3, 300, 0, 0), (17, .irem, 1, 0, 0, 0), (18, .putfield 28, 3, 0, 3, 3), (21, .aload_n 0, 1, 0, 0, 0), (22, .dup, 1, 0, 0, 0), (23, .getfield 24, 3, 0, 3, 2), (26, .iconst 1, 1, 1, 0, 0), (27, .isub, 1, 0, 0, 0), (28, .putfield 24, 3, 0, 3, 2), (31, .return_, 1, 0, 0, 0)]
def kX4_init : List En := [(0, .aload_n 0, 1, 0, 0, 0), (1, .invokespecial 3, 3, 0, 902, 0), (4, .aload_n 0, 1, 0, 0, 0), (5, .new 9, 3, 0, 0, 0), (8, .dup, 1, 0, 0, 0), (9, .sipush 640, 3, 640, 0, 0), (12, .invokespecial 13, 3, 0, 0, 0), (15, .putfield 16, 3, 0, 4, 0), (18, .aload_n 0, 1, 0, 0, 0), (19, .sipush 640, 3, 640, 0, 0), (22, .newarray .int, 2, 0, 10, 0), (24, .putfield 20, 3, 0, 4, 1), (27, .aload_n 0, 1, 0, 0, 0), (28, .iconst 0, 1, 0, 0, 0), (29, .putfield 24, 3, 0, 4, 2), (32, .aload_n 0, 1, 0, 0, 0), (33, .iconst 0, 1, 0, 0, 0), (34, .putfield 28, 3, 0, 4, 3), (37, .return_, 1, 0, 0, 0)]
def kX4_clear : List En := [(0, .aload_n 0, 1, 0, 0, 0), (1, .iconst 0, 1, 0, 0, 0), (2, .putfield 24, 3, 0, 4, 2), (5, .aload_n 0, 1, 0, 0, 0), (6, .iconst 0, 1, 0, 0, 0), (7, .putfield 28, 3, 0, 4, 3), (10, .return_, 1, 0, 0, 0)]
def kX4_add : List En := [(0, .aload_n 0, 1, 0, 0, 0), (1, .getfield 24, 3, 0, 4, 2), (4, .sipush 640, 3, 640, 0, 0), (7, .if_icmp .lt 4, 3, 0, 11, 0), (10, .return_, 1, 0, 0, 0), (11, .aload_n 0, 1, 0, 0, 0), (12, .getfield 16, 3, 0, 4, 0), (15, .aload_n 0, 1, 0, 0, 0), (16, .getfield 24, 3, 0, 4, 2), (19, .aload_n 1, 1, 0, 1, 0), (20, .iload_n 2, 1, 0, 2, 0), (21, .invokevirtual 31, 3, 0, 3, 0), (24, .aload_n 0, 1, 0, 0, 0), (25, .aload_n 0, 1, 0, 0, 0), (26, .getfield 24, 3, 0, 4, 2), (29, .invokevirtual 35, 3, 0, 47, 0), (32, .istore_n 3, 1, 0, 3, 0), (33, .aload_n 0, 1, 0, 0, 0), (34, .getfield 20, 3, 0, 4, 1), (37, .iload_n 3, 1, 0, 3, 0), (38, .aload_n 0, 1, 0, 0, 0), (39, .getfield 20, 3, 0, 4, 1), (42, .iload_n 3, 1, 0, 3, 0), (43, .iconst 1, 1, 1, 0, 0), (44, .iadd, 1, 0, 0, 0), (45, .aload_n 0, 1, 0, 0, 0), (46, .getfield 24, 3, 0, 4, 2), (49, .iload_n 3, 1, 0, 3, 0), (50, .isub, 1, 0, 0, 0), (51, .invokestatic 39, 3, 0, 900, 0), (54, .aload_n 0, 1, 0, 0, 0), (55, .getfield 20, 3, 0, 4, 1), (58, .iload_n 3, 1, 0, 3, 0), (59, .aload_n 0, 1, 0, 0, 0), (60, .getfield 24, 3, 0, 4, 2), (63, .iastore, 1, 0, 0, 0), (64, .aload_n 0, 1, 0, 0, 0), (65, .dup, 1, 0, 0, 0), (66, .getfield 24, 3, 0, 4, 2), (69, .iconst 1, 1, 1, 0, 0), (70, .iadd, 1, 0, 0, 0), (71, .putfield 24, 3, 0, 4, 2), (74, .return_, 1, 0, 0, 0)]
def kX4_slotOf : List En := [(0, .iconst 0, 1, 0, 0, 0), (1, .istore_n 2, 1, 0, 2, 0), (2, .aload_n 0, 1, 0, 0, 0), (3, .getfield 24, 3, 0, 4, 2), (6, .istore_n 3, 1, 0, 3, 0), (7, .iconst 0, 1, 0, 0, 0), (8, .istore 4, 2, 0, 4, 0), (10, .iload 4, 2, 0, 4, 0), (12, .sipush 640, 3, 640, 0, 0), (15, .if_icmp .ge 54, 3, 0, 69, 0), (18, .iload_n 2, 1, 0, 2, 0), (19, .iload_n 3, 1, 0, 3, 0), (20, .if_icmp .ge 49, 3, 0, 69, 0), (23, .iload_n 2, 1, 0, 2, 0), (24, .iload_n 3, 1, 0, 3, 0), (25, .iadd, 1, 0, 0, 0), (26, .iconst 2, 1, 2, 0, 0), (27, .idiv, 1, 0, 0, 0), (28, .istore 5, 2, 0, 5, 0), (30, .aload_n 0, 1, 0, 0, 0), (31, .getfield 16, 3, 0, 4, 0), (34, .aload_n 0, 1, 0, 0, 0), (35, .getfield 20, 3, 0, 4, 1), (38, .iload 5, 2, 0, 5, 0), (40, .iaload, 1, 0, 0, 0), (41, .aload_n 0, 1, 0, 0, 0), (42, .getfield 16, 3, 0, 4, 0), (45, .iload_n 1, 1, 0, 1, 0), (46, .invokevirtual 45, 3, 0, 4, 0), (49, .ifCond .ge 11, 3, 0, 60, 0), (52, .iload 5, 2, 0, 5, 0), (54, .iconst 1, 1, 1, 0, 0), (55, .iadd, 1, 0, 0, 0), (56, .istore_n 2, 1, 0, 2, 0), (57, .goto 6, 3, 0, 63, 0), (60, .iload 5, 2, 0, 5, 0), (62, .istore_n 3, 1, 0, 3, 0), (63, .iinc 4 1, 3, 1, 4, 0), (66, .goto (-56), 3, 0, 10, 0), (69, .iload_n 2, 1, 0, 2, 0), (70, .ireturn, 1, 0, 0, 0)]
def kX4_take : List En := [(0, .aload_n 0, 1, 0, 0, 0), (1, .getfield 28, 3, 0, 4, 3), (4, .aload_n 0, 1, 0, 0, 0), (5, .getfield 24, 3, 0, 4, 2), (8, .if_icmp .lt 5, 3, 0, 13, 0), (11, .iconst (-1), 1, (-1), 0, 0), (12, .ireturn, 1, 0, 0, 0), (13, .aload_n 0, 1, 0, 0, 0), (14, .getfield 20, 3, 0, 4, 1), (17, .aload_n 0, 1, 0, 0, 0), (18, .getfield 28, 3, 0, 4, 3), (21, .iaload, 1, 0, 0, 0), (22, .istore_n 1, 1, 0, 1, 0), (23, .aload_n 0, 1, 0, 0, 0), (24, .dup, 1, 0, 0, 0), (25, .getfield 28, 3, 0, 4, 3), (28, .iconst 1, 1, 1, 0, 0), (29, .iadd, 1, 0, 0, 0), (30, .putfield 28, 3, 0, 4, 3), (33, .iload_n 1, 1, 0, 1, 0), (34, .ireturn, 1, 0, 0, 0)]
def kX5_init : List En := [(0, .aload_n 0, 1, 0, 0, 0), (1, .invokespecial 3, 3, 0, 902, 0), (4, .aload_n 0, 1, 0, 0, 0), (5, .new 9, 3, 0, 1, 0), (8, .dup, 1, 0, 0, 0), (9, .sipush 320, 3, 320, 0, 0), (12, .invokespecial 11, 3, 0, 5, 0), (15, .putfield 14, 3, 0, 5, 0), (18, .aload_n 0, 1, 0, 0, 0), (19, .new 9, 3, 0, 1, 0), (22, .dup, 1, 0, 0, 0), (23, .sipush 320, 3, 320, 0, 0), (26, .invokespecial 11, 3, 0, 5, 0), (29, .putfield 20, 3, 0, 5, 1), (32, .aload_n 0, 1, 0, 0, 0), (33, .sipush 320, 3, 320, 0, 0), (36, .newarray .int, 2, 0, 10, 0), (38, .putfield 23, 3, 0, 5, 2), (41, .aload_n 0, 1, 0, 0, 0), (42, .getfield 23, 3, 0, 5, 2), (45, .iconst (-1), 1, (-1), 0, 0), (46, .invokestatic 27, 3, 0, 212, 0), (49, .return_, 1, 0, 0, 0)]
def kX5_copyFrom : List En := [(0, .aload_n 0, 1, 0, 0, 0), (1, .getfield 14, 3, 0, 5, 0), (4, .aload_n 1, 1, 0, 1, 0), (5, .getfield 14, 3, 0, 5, 0), (8, .invokevirtual 33, 3, 0, 12, 0), (11, .aload_n 0, 1, 0, 0, 0), (12, .getfield 20, 3, 0, 5, 1), (15, .aload_n 1, 1, 0, 1, 0), (16, .getfield 20, 3, 0, 5, 1), (19, .invokevirtual 33, 3, 0, 12, 0), (22, .aload_n 1, 1, 0, 1, 0), (23, .getfield 23, 3, 0, 5, 2), (26, .iconst 0, 1, 0, 0, 0), (27, .aload_n 0, 1, 0, 0, 0), (28, .getfield 23, 3, 0, 5, 2), (31, .iconst 0, 1, 0, 0, 0), (32, .sipush 320, 3, 320, 0, 0), (35, .invokestatic 37, 3, 0, 900, 0), (38, .return_, 1, 0, 0, 0)]
def kX5_isFree : List En := [(0, .aload_n 0, 1, 0, 0, 0), (1, .getfield 23, 3, 0, 5, 2), (4, .iload_n 1, 1, 0, 1, 0), (5, .iaload, 1, 0, 0, 0), (6, .iconst (-1), 1, (-1), 0, 0), (7, .if_icmp .ne 18, 3, 0, 25, 0), (10, .aload_n 0, 1, 0, 0, 0), (11, .getfield 20, 3, 0, 5, 1), (14, .iload_n 1, 1, 0, 1, 0), (15, .invokevirtual 43, 3, 0, 6, 0), (18, .ifCond .ne 7, 3, 0, 25, 0), (21, .iconst 1, 1, 1, 0, 0), (22, .goto 4, 3, 0, 26, 0), (25, .iconst 0, 1, 0, 0, 0), (26, .ireturn, 1, 0, 0, 0)]
def kX5_placesInUse : List En := [(0, .iconst 0, 1, 0, 0, 0), (1, .istore_n 1, 1, 0, 1, 0), (2, .iconst 0, 1, 0, 0, 0), (3, .istore_n 2, 1, 0, 2, 0), (4, .iload_n 2, 1, 0, 2, 0), (5, .sipush 320, 3, 320, 0, 0), (8, .if_icmp .ge 20, 3, 0, 28, 0), (11, .aload_n 0, 1, 0, 0, 0), (12, .iload_n 2, 1, 0, 2, 0), (13, .invokevirtual 47, 3, 0, 51, 0), (16, .ifCond .ne 6, 3, 0, 22, 0), (19, .iinc 1 1, 3, 1, 1, 0), (22, .iinc 2 1, 3, 1, 2, 0), (25, .goto (-21), 3, 0, 4, 0), (28, .iload_n 1, 1, 0, 1, 0), (29, .ireturn, 1, 0, 0, 0)]
def kX5_seenBy : List En := [(0, .iload_n 1, 1, 0, 1, 0), (1, .iconst (-1), 1, (-1), 0, 0), (2, .if_icmp .eq 20, 3, 0, 22, 0), (5, .aload_n 0, 1, 0, 0, 0), (6, .getfield 23, 3, 0, 5, 2), (9, .iload_n 2, 1, 0, 2, 0), (10, .iaload, 1, 0, 0, 0), (11, .iload_n 1, 1, 0, 1, 0), (12, .if_icmp .ne 10, 3, 0, 22, 0), (15, .aload_n 0, 1, 0, 0, 0), (16, .getfield 20, 3, 0, 5, 1), (19, .goto 7, 3, 0, 26, 0), (22, .aload_n 0, 1, 0, 0, 0), (23, .getfield 14, 3, 0, 5, 0), (26, .areturn, 1, 0, 0, 0)]
def kX6_init : List En := [(0, .aload_n 0, 1, 0, 0, 0), (1, .invokespecial 3, 3, 0, 902, 0), (4, .aload_n 0, 1, 0, 0, 0), (5, .iconst 0, 1, 0, 0, 0), (6, .putfield 9, 3, 0, 6, 0), (9, .aload_n 0, 1, 0, 0, 0), (10, .iconst 0, 1, 0, 0, 0), (11, .putfield 15, 3, 0, 6, 1), (14, .aload_n 0, 1, 0, 0, 0), (15, .sipush 200, 3, 200, 0, 0), (18, .newarray .int, 2, 0, 10, 0), (20, .putfield 19, 3, 0, 6, 2), (23, .aload_n 0, 1, 0, 0, 0), (24, .sipush 200, 3, 200, 0, 0), (27, .newarray .int, 2, 0, 10, 0), (29, .putfield 23, 3, 0, 6, 3), (32, .aload_n 0, 1, 0, 0, 0), (33, .new 26, 3, 0, 1, 0), (36, .dup, 1, 0, 0, 0), (37, .sipush 200, 3, 200, 0, 0), (40, .invokespecial 28, 3, 0, 5, 0), (43, .putfield 31, 3, 0, 6, 4), (46, .return_, 1, 0, 0, 0)]
def kX6_isFull : List En := [(0, .aload_n 0, 1, 0, 0, 0), (1, .getfield 15, 3, 0, 6, 1), (4, .sipush 200, 3, 200, 0, 0), (7, .if_icmp .lt 7, 3, 0, 14, 0), (10, .iconst 1, 1, 1, 0, 0), (11, .goto 4, 3, 0, 15, 0), (14, .iconst 0, 1, 0, 0, 0), (15, .ireturn, 1, 0, 0, 0)]
def kX6_add : List En := [(0, .aload_n 0, 1, 0, 0, 0), (1, .invokevirtual 35, 3, 0, 55, 0), (4, .ifCond .ne 54, 3, 0, 58, 0), (7, .aload_n 0, 1, 0, 0, 0), (8, .getfield 19, 3, 0, 6, 2), (11, .aload_n 0, 1, 0, 0, 0), (12, .getfield 15, 3, 0, 6, 1), (15, .iload_n 2, 1, 0, 2, 0), (16, .iastore, 1, 0, 0, 0), (17, .aload_n 0, 1, 0, 0, 0), (18, .getfield 23, 3, 0, 6, 3), (21, .aload_n 0, 1, 0, 0, 0), (22, .getfield 15, 3, 0, 6, 1), (25, .aload_n 1, 1, 0, 1, 0), (26, .getfield 39, 3, 0, 5, 2), (29, .iload_n 2, 1, 0, 2, 0), (30, .iaload, 1, 0, 0, 0), (31, .iastore, 1, 0, 0, 0), (32, .aload_n 0, 1, 0, 0, 0), (33, .getfield 31, 3, 0, 6, 4), (36, .aload_n 0, 1, 0, 0, 0), (37, .getfield 15, 3, 0, 6, 1), (40, .aload_n 1, 1, 0, 1, 0), (41, .getfield 44, 3, 0, 5, 1), (44, .iload_n 2, 1, 0, 2, 0), (45, .invokevirtual 47, 3, 0, 11, 0), (48, .aload_n 0, 1, 0, 0, 0), (49, .dup, 1, 0, 0, 0), (50, .getfield 15, 3, 0, 6, 1), (53, .iconst 1, 1, 1, 0, 0), (54, .iadd, 1, 0, 0, 0), (55, .putfield 15, 3, 0, 6, 1), (58, .return_, 1, 0, 0, 0)]
def kX6_putBack : List En := [(0, .aload_n 0, 1, 0, 0, 0), (1, .getfield 19, 3, 0, 6, 2), (4, .iload_n 2, 1, 0, 2, 0), (5, .iaload, 1, 0, 0, 0), (6, .istore_n 3, 1, 0, 3, 0), (7, .aload_n 1, 1, 0, 1, 0), (8, .getfield 44, 3, 0, 5, 1), (11, .iload_n 3, 1, 0, 3, 0), (12, .aload_n 0, 1, 0, 0, 0), (13, .getfield 31, 3, 0, 6, 4), (16, .iload_n 2, 1, 0, 2, 0), (17, .invokevirtual 47, 3, 0, 11, 0), (20, .aload_n 1, 1, 0, 1, 0), (21, .getfield 39, 3, 0, 5, 2), (24, .iload_n 3, 1, 0, 3, 0), (25, .aload_n 0, 1, 0, 0, 0), (26, .getfield 23, 3, 0, 6, 3), (29, .iload_n 2, 1, 0, 2, 0), (30, .iaload, 1, 0, 0, 0), (31, .iastore, 1, 0, 0, 0), (32, .return_, 1, 0, 0, 0)]
def kX7_init : List En := [(0, .aload_n 0, 1, 0, 0, 0), (1, .invokespecial 5, 3, 0, 902, 0), (4, .aload_n 0, 1, 0, 0, 0), (5, .new 11, 3, 0, 0, 0), (8, .dup, 1, 0, 0, 0), (9, .sipush 648, 3, 648, 0, 0), (12, .invokespecial 13, 3, 0, 0, 0), (15, .putfield 16, 3, 0, 7, 0), (18, .aload_n 0, 1, 0, 0, 0), (19, .sipush 648, 3, 648, 0, 0), (22, .newarray .int, 2, 0, 10, 0), (24, .putfield 20, 3, 0, 7, 1), (27, .aload_n 0, 1, 0, 0, 0), (28, .iconst 0, 1, 0, 0, 0), (29, .putfield 24, 3, 0, 7, 2), (32, .aload_n 0, 1, 0, 0, 0), (33, .sipush 1740, 3, 1740, 0, 0), (36, .newarray .int, 2, 0, 10, 0), (38, .putfield 28, 3, 0, 7, 3), (41, .aload_n 0, 1, 0, 0, 0), (42, .sipush 2088, 3, 2088, 0, 0), (45, .newarray .int, 2, 0, 10, 0), (47, .putfield 31, 3, 0, 7, 4), (50, .aload_n 0, 1, 0, 0, 0), (51, .sipush 348, 3, 348, 0, 0), (54, .newarray .int, 2, 0, 10, 0), (56, .putfield 34, 3, 0, 7, 5), (59, .aload_n 0, 1, 0, 0, 0), (60, .sipush 348, 3, 348, 0, 0), (63, .newarray .int, 2, 0, 10, 0), (65, .putfield 37, 3, 0, 7, 6), (68, .aload_n 0, 1, 0, 0, 0), (69, .iconst 0, 1, 0, 0, 0), (70, .putfield 40, 3, 0, 7, 7), (73, .aload_n 0, 1, 0, 0, 0), (74, .iconst 0, 1, 0, 0, 0), (75, .putfield 43, 3, 0, 7, 8), (78, .aload_n 0, 1, 0, 0, 0), (79, .bipush 12, 2, 12, 0, 0), (81, .newarray .int, 2, 0, 10, 0), (83, .putfield 46, 3, 0, 7, 9), (86, .aload_n 0, 1, 0, 0, 0), (87, .bipush 12, 2, 12, 0, 0), (89, .newarray .int, 2, 0, 10, 0), (91, .putfield 49, 3, 0, 7, 10), (94, .aload_n 0, 1, 0, 0, 0), (95, .iconst 0, 1, 0, 0, 0), (96, .putfield 52, 3, 0, 7, 11), (99, .aload_n 0, 1, 0, 0, 0), (100, .sipush 648, 3, 648, 0, 0), (103, .newarray .int, 2, 0, 10, 0), (105, .putfield 55, 3, 0, 7, 12), (108, .aload_n 0, 1, 0, 0, 0), (109, .sipush 648, 3, 648, 0, 0), (112, .newarray .int, 2, 0, 10, 0), (114, .putfield 58, 3, 0, 7, 13), (117, .aload_n 0, 1, 0, 0, 0), (118, .iconst 0, 1, 0, 0, 0), (119, .putfield 61, 3, 0, 7, 14), (122, .aload_n 0, 1, 0, 0, 0), (123, .iconst 0, 1, 0, 0, 0), (124, .putfield 65, 3, 0, 7, 15), (127, .aload_n 0, 1, 0, 0, 0), (128, .sipush 348, 3, 348, 0, 0), (131, .newarray .int, 2, 0, 10, 0), (133, .putfield 68, 3, 0, 7, 16), (136, .aload_n 0, 1, 0, 0, 0), (137, .invokevirtual 71, 3, 0, 59, 0), (140, .return_, 1, 0, 0, 0)]
def kX7_empty : List En := [(0, .iconst 0, 1, 0, 0, 0), (1, .istore_n 1, 1, 0, 1, 0), (2, .iload_n 1, 1, 0, 1, 0), (3, .sipush 648, 3, 648, 0, 0), (6, .if_icmp .ge 20, 3, 0, 26, 0), (9, .aload_n 0, 1, 0, 0, 0), (10, .getfield 20, 3, 0, 7, 1), (13, .iload_n 1, 1, 0, 1, 0), (14, .sipush 647, 3, 647, 0, 0), (17, .iload_n 1, 1, 0, 1, 0), (18, .isub, 1, 0, 0, 0), (19, .iastore, 1, 0, 0, 0), (20, .iinc 1 1, 3, 1, 1, 0), (23, .goto (-21), 3, 0, 2, 0), (26, .aload_n 0, 1, 0, 0, 0), (27, .sipush 648, 3, 648, 0, 0), (30, .putfield 24, 3, 0, 7, 2), (33, .iconst 0, 1, 0, 0, 0), (34, .istore_n 1, 1, 0, 1, 0), (35, .iload_n 1, 1, 0, 1, 0), (36, .sipush 348, 3, 348, 0, 0), (39, .if_icmp .ge 20, 3, 0, 59, 0), (42, .aload_n 0, 1, 0, 0, 0), (43, .getfield 37, 3, 0, 7, 6), (46, .iload_n 1, 1, 0, 1, 0), (47, .sipush 347, 3, 347, 0, 0), (50, .iload_n 1, 1, 0, 1, 0), (51, .isub, 1, 0, 0, 0), (52, .iastore, 1, 0, 0, 0), (53, .iinc 1 1, 3, 1, 1, 0), (56, .goto (-21), 3, 0, 35, 0), (59, .aload_n 0, 1, 0, 0, 0), (60, .sipush 348, 3, 348, 0, 0), (63, .putfield 40, 3, 0, 7, 7), (66, .aload_n 0, 1, 0, 0, 0), (67, .aload_n 0, 1, 0, 0, 0), (68, .invokevirtual 74, 3, 0, 69, 0), (71, .putfield 43, 3, 0, 7, 8), (74, .aload_n 0, 1, 0, 0, 0), (75, .iconst 0, 1, 0, 0, 0), (76, .putfield 61, 3, 0, 7, 14), (79, .return_, 1, 0, 0, 0)]
def kX7_size : List En := [(0, .sipush 648, 3, 648, 0, 0), (3, .aload_n 0, 1, 0, 0, 0), (4, .getfield 24, 3, 0, 7, 2), (7, .isub, 1, 0, 0, 0), (8, .ireturn, 1, 0, 0, 0)]
def kX7_nodes : List En := [(0, .sipush 348, 3, 348, 0, 0), (3, .aload_n 0, 1, 0, 0, 0), (4, .getfield 40, 3, 0, 7, 7), (7, .isub, 1, 0, 0, 0), (8, .ireturn, 1, 0, 0, 0)]
def kX7_height : List En := [(0, .aload_n 0, 1, 0, 0, 0), (1, .getfield 43, 3, 0, 7, 8), (4, .istore_n 1, 1, 0, 1, 0), (5, .iconst 1, 1, 1, 0, 0), (6, .istore_n 2, 1, 0, 2, 0), (7, .iload_n 2, 1, 0, 2, 0), (8, .bipush 12, 2, 12, 0, 0), (10, .if_icmp .ge 27, 3, 0, 37, 0), (13, .aload_n 0, 1, 0, 0, 0), (14, .iload_n 1, 1, 0, 1, 0), (15, .invokevirtual 78, 3, 0, 68, 0), (18, .ifCond .ne 19, 3, 0, 37, 0), (21, .aload_n 0, 1, 0, 0, 0), (22, .getfield 31, 3, 0, 7, 4), (25, .iload_n 1, 1, 0, 1, 0), (26, .bipush 6, 2, 6, 0, 0), (28, .imul, 1, 0, 0, 0), (29, .iaload, 1, 0, 0, 0), (30, .istore_n 1, 1, 0, 1, 0), (31, .iinc 2 1, 3, 1, 2, 0), (34, .goto (-27), 3, 0, 7, 0), (37, .iload_n 2, 1, 0, 2, 0), (38, .ireturn, 1, 0, 0, 0)]
def kX7_wordAt : List En := [(0, .aload_n 0, 1, 0, 0, 0), (1, .invokevirtual 82, 3, 0, 81, 0), (4, .aload_n 0, 1, 0, 0, 0), (5, .getfield 16, 3, 0, 7, 0), (8, .aload_n 0, 1, 0, 0, 0), (9, .getfield 55, 3, 0, 7, 12), (12, .iload_n 1, 1, 0, 1, 0), (13, .iaload, 1, 0, 0, 0), (14, .iload_n 2, 1, 0, 2, 0), (15, .invokevirtual 85, 3, 0, 1, 0), (18, .ireturn, 1, 0, 0, 0)]
def kX7_depthAt : List En := [(0, .aload_n 0, 1, 0, 0, 0), (1, .invokevirtual 82, 3, 0, 81, 0), (4, .aload_n 0, 1, 0, 0, 0), (5, .getfield 58, 3, 0, 7, 13), (8, .iload_n 1, 1, 0, 1, 0), (9, .iaload, 1, 0, 0, 0), (10, .ireturn, 1, 0, 0, 0)]
def kX7_holds : List En := [(0, .aload_n 0, 1, 0, 0, 0), (1, .aload_n 1, 1, 0, 1, 0), (2, .iload_n 2, 1, 0, 2, 0), (3, .invokevirtual 89, 3, 0, 71, 0), (6, .ireturn, 1, 0, 0, 0)]
def kX7_add : List En := [(0, .aload_n 0, 1, 0, 0, 0), (1, .getfield 24, 3, 0, 7, 2), (4, .ifCond .eq 21, 3, 0, 25, 0), (7, .aload_n 0, 1, 0, 0, 0), (8, .getfield 40, 3, 0, 7, 7), (11, .bipush 12, 2, 12, 0, 0), (13, .if_icmp .le 12, 3, 0, 25, 0), (16, .aload_n 0, 1, 0, 0, 0), (17, .aload_n 1, 1, 0, 1, 0), (18, .iload_n 2, 1, 0, 2, 0), (19, .invokevirtual 89, 3, 0, 71, 0), (22, .ifCond .eq 4, 3, 0, 26, 0), (25, .return_, 1, 0, 0, 0), (26, .aload_n 0, 1, 0, 0, 0), (27, .dup, 1, 0, 0, 0), (28, .getfield 24, 3, 0, 7, 2), (31, .iconst 1, 1, 1, 0, 0), (32, .isub, 1, 0, 0, 0), (33, .putfield 24, 3, 0, 7, 2), (36, .aload_n 0, 1, 0, 0, 0), (37, .getfield 20, 3, 0, 7, 1), (40, .aload_n 0, 1, 0, 0, 0), (41, .getfield 24, 3, 0, 7, 2), (44, .iaload, 1, 0, 0, 0), (45, .istore_n 3, 1, 0, 3, 0), (46, .aload_n 0, 1, 0, 0, 0), (47, .getfield 16, 3, 0, 7, 0), (50, .iload_n 3, 1, 0, 3, 0), (51, .aload_n 1, 1, 0, 1, 0), (52, .iload_n 2, 1, 0, 2, 0), (53, .invokevirtual 93, 3, 0, 3, 0), (56, .aload_n 0, 1, 0, 0, 0), (57, .aload_n 0, 1, 0, 0, 0), (58, .getfield 46, 3, 0, 7, 9), (61, .aload_n 0, 1, 0, 0, 0), (62, .getfield 52, 3, 0, 7, 11), (65, .iaload, 1, 0, 0, 0), (66, .aload_n 0, 1, 0, 0, 0), (67, .getfield 49, 3, 0, 7, 10), (70, .aload_n 0, 1, 0, 0, 0), (71, .getfield 52, 3, 0, 7, 11), (74, .iaload, 1, 0, 0, 0), (75, .iload_n 3, 1, 0, 3, 0), (76, .iconst (-1), 1, (-1), 0, 0), (77, .invokevirtual 97, 3, 0, 73, 0), (80, .aload_n 0, 1, 0, 0, 0), (81, .invokevirtual 101, 3, 0, 75, 0), (84, .aload_n 0, 1, 0, 0, 0), (85, .iconst 0, 1, 0, 0, 0), (86, .putfield 61, 3, 0, 7, 14), (89, .return_, 1, 0, 0, 0)]
def kX7_cut : List En := [(0, .aload_n 0, 1, 0, 0, 0), (1, .aload_n 1, 1, 0, 1, 0), (2, .iload_n 2, 1, 0, 2, 0), (3, .invokevirtual 89, 3, 0, 71, 0), (6, .ifCond .ne 4, 3, 0, 10, 0), (9, .return_, 1, 0, 0, 0), (10, .aload_n 0, 1, 0, 0, 0), (11, .getfield 46, 3, 0, 7, 9), (14, .aload_n 0, 1, 0, 0, 0), (15, .getfield 52, 3, 0, 7, 11), (18, .iaload, 1, 0, 0, 0), (19, .istore_n 3, 1, 0, 3, 0), (20, .aload_n 0, 1, 0, 0, 0), (21, .getfield 49, 3, 0, 7, 10), (24, .aload_n 0, 1, 0, 0, 0), (25, .getfield 52, 3, 0, 7, 11), (28, .iaload, 1, 0, 0, 0), (29, .istore 4, 2, 0, 4, 0), (31, .aload_n 0, 1, 0, 0, 0), (32, .getfield 20, 3, 0, 7, 1), (35, .aload_n 0, 1, 0, 0, 0), (36, .getfield 24, 3, 0, 7, 2), (39, .aload_n 0, 1, 0, 0, 0), (40, .getfield 28, 3, 0, 7, 3), (43, .iload_n 3, 1, 0, 3, 0), (44, .iconst 5, 1, 5, 0, 0), (45, .imul, 1, 0, 0, 0), (46, .iload 4, 2, 0, 4, 0), (48, .iadd, 1, 0, 0, 0), (49, .iaload, 1, 0, 0, 0), (50, .iastore, 1, 0, 0, 0), (51, .aload_n 0, 1, 0, 0, 0), (52, .dup, 1, 0, 0, 0), (53, .getfield 24, 3, 0, 7, 2), (56, .iconst 1, 1, 1, 0, 0), (57, .iadd, 1, 0, 0, 0), (58, .putfield 24, 3, 0, 7, 2), (61, .aload_n 0, 1, 0, 0, 0), (62, .iload_n 3, 1, 0, 3, 0), (63, .invokevirtual 78, 3, 0, 68, 0), (66, .ifCond .eq 13, 3, 0, 79, 0), (69, .aload_n 0, 1, 0, 0, 0), (70, .iload_n 3, 1, 0, 3, 0), (71, .iload 4, 2, 0, 4, 0), (73, .invokevirtual 104, 3, 0, 74, 0), (76, .goto 60, 3, 0, 136, 0), (79, .aload_n 0, 1, 0, 0, 0), (80, .invokevirtual 108, 3, 0, 72, 0), (83, .aload_n 0, 1, 0, 0, 0), (84, .getfield 46, 3, 0, 7, 9), (87, .aload_n 0, 1, 0, 0, 0), (88, .getfield 52, 3, 0, 7, 11), (91, .iaload, 1, 0, 0, 0), (92, .istore 5, 2, 0, 5, 0), (94, .aload_n 0, 1, 0, 0, 0), (95, .getfield 34, 3, 0, 7, 5), (98, .iload 5, 2, 0, 5, 0), (100, .iaload, 1, 0, 0, 0), (101, .iconst 1, 1, 1, 0, 0), (102, .isub, 1, 0, 0, 0), (103, .istore 6, 2, 0, 6, 0), (105, .aload_n 0, 1, 0, 0, 0), (106, .getfield 28, 3, 0, 7, 3), (109, .iload_n 3, 1, 0, 3, 0), (110, .iconst 5, 1, 5, 0, 0), (111, .imul, 1, 0, 0, 0), (112, .iload 4, 2, 0, 4, 0), (114, .iadd, 1, 0, 0, 0), (115, .aload_n 0, 1, 0, 0, 0), (116, .getfield 28, 3, 0, 7, 3), (119, .iload 5, 2, 0, 5, 0), (121, .iconst 5, 1, 5, 0, 0), (122, .imul, 1, 0, 0, 0), (123, .iload 6, 2, 0, 6, 0), (125, .iadd, 1, 0, 0, 0), (126, .iaload, 1, 0, 0, 0), (127, .iastore, 1, 0, 0, 0), (128, .aload_n 0, 1, 0, 0, 0), (129, .iload 5, 2, 0, 5, 0), (131, .iload 6, 2, 0, 6, 0), (133, .invokevirtual 104, 3, 0, 74, 0), (136, .aload_n 0, 1, 0, 0, 0), (137, .invokevirtual 111, 3, 0, 77, 0), (140, .aload_n 0, 1, 0, 0, 0), (141, .iconst 0, 1, 0, 0, 0), (142, .putfield 61, 3, 0, 7, 14), (145, .return_, 1, 0, 0, 0)]
def kX7_isLowest : List En := [(0, .aload_n 0, 1, 0, 0, 0), (1, .getfield 31, 3, 0, 7, 4), (4, .iload_n 1, 1, 0, 1, 0), (5, .bipush 6, 2, 6, 0, 0), (7, .imul, 1, 0, 0, 0), (8, .iaload, 1, 0, 0, 0), (9, .iconst (-1), 1, (-1), 0, 0), (10, .if_icmp .ne 7, 3, 0, 17, 0), (13, .iconst 1, 1, 1, 0, 0), (14, .goto 4, 3, 0, 18, 0), (17, .iconst 0, 1, 0, 0, 0), (18, .ireturn, 1, 0, 0, 0)]
def kX7_takeNode : List En := [(0, .aload_n 0, 1, 0, 0, 0), (1, .dup, 1, 0, 0, 0), (2, .getfield 40, 3, 0, 7, 7), (5, .iconst 1, 1, 1, 0, 0), (6, .isub, 1, 0, 0, 0), (7, .putfield 40, 3, 0, 7, 7), (10, .aload_n 0, 1, 0, 0, 0), (11, .getfield 37, 3, 0, 7, 6), (14, .aload_n 0, 1, 0, 0, 0), (15, .getfield 40, 3, 0, 7, 7), (18, .iaload, 1, 0, 0, 0), (19, .istore_n 1, 1, 0, 1, 0), (20, .aload_n 0, 1, 0, 0, 0), (21, .getfield 34, 3, 0, 7, 5), (24, .iload_n 1, 1, 0, 1, 0), (25, .iconst 0, 1, 0, 0, 0), (26, .iastore, 1, 0, 0, 0), (27, .iconst 0, 1, 0, 0, 0), (28, .istore_n 2, 1, 0, 2, 0), (29, .iload_n 2, 1, 0, 2, 0), (30, .bipush 6, 2, 6, 0, 0), (32, .if_icmp .ge 21, 3, 0, 53, 0), (35, .aload_n 0, 1, 0, 0, 0), (36, .getfield 31, 3, 0, 7, 4), (39, .iload_n 1, 1, 0, 1, 0), (40, .bipush 6, 2, 6, 0, 0), (42, .imul, 1, 0, 0, 0), (43, .iload_n 2, 1, 0, 2, 0), (44, .iadd, 1, 0, 0, 0), (45, .iconst (-1), 1, (-1), 0, 0), (46, .iastore, 1, 0, 0, 0), (47, .iinc 2 1, 3, 1, 2, 0), (50, .goto (-21), 3, 0, 29, 0), (53, .iload_n 1, 1, 0, 1, 0), (54, .ireturn, 1, 0, 0, 0)]
def kX7_giveNode : List En := [(0, .aload_n 0, 1, 0, 0, 0), (1, .getfield 37, 3, 0, 7, 6), (4, .aload_n 0, 1, 0, 0, 0), (5, .getfield 40, 3, 0, 7, 7), (8, .iload_n 1, 1, 0, 1, 0), (9, .iastore, 1, 0, 0, 0), (10, .aload_n 0, 1, 0, 0, 0), (11, .dup, 1, 0, 0, 0), (12, .getfield 40, 3, 0, 7, 7), (15, .iconst 1, 1, 1, 0, 0), (16, .iadd, 1, 0, 0, 0), (17, .putfield 40, 3, 0, 7, 7), (20, .return_, 1, 0, 0, 0)]
def kX7_find : List En := [(0, .aload_n 0, 1, 0, 0, 0), (1, .getfield 43, 3, 0, 7, 8), (4, .istore_n 3, 1, 0, 3, 0), (5, .iconst 0, 1, 0, 0, 0), (6, .istore 4, 2, 0, 4, 0), (8, .iload 4, 2, 0, 4, 0), (10, .bipush 12, 2, 12, 0, 0), (12, .if_icmp .ge 124, 3, 0, 136, 0), (15, .iconst 0, 1, 0, 0, 0), (16, .istore 5, 2, 0, 5, 0), (18, .iconst 1, 1, 1, 0, 0), (19, .istore 6, 2, 0, 6, 0), (21, .iload 5, 2, 0, 5, 0), (23, .aload_n 0, 1, 0, 0, 0), (24, .getfield 34, 3, 0, 7, 5), (27, .iload_n 3, 1, 0, 3, 0), (28, .iaload, 1, 0, 0, 0), (29, .if_icmp .ge 41, 3, 0, 70, 0), (32, .iload 6, 2, 0, 6, 0), (34, .ifCond .le 36, 3, 0, 70, 0), (37, .aload_n 1, 1, 0, 1, 0), (38, .iload_n 2, 1, 0, 2, 0), (39, .aload_n 0, 1, 0, 0, 0), (40, .getfield 16, 3, 0, 7, 0), (43, .aload_n 0, 1, 0, 0, 0), (44, .getfield 28, 3, 0, 7, 3), (47, .iload_n 3, 1, 0, 3, 0), (48, .iconst 5, 1, 5, 0, 0), (49, .imul, 1, 0, 0, 0), (50, .iload 5, 2, 0, 5, 0), (52, .iadd, 1, 0, 0, 0), (53, .iaload, 1, 0, 0, 0), (54, .invokevirtual 114, 3, 0, 4, 0), (57, .istore 6, 2, 0, 6, 0), (59, .iload 6, 2, 0, 6, 0), (61, .ifCond .le (-40), 3, 0, 21, 0), (64, .iinc 5 1, 3, 1, 5, 0), (67, .goto (-46), 3, 0, 21, 0), (70, .aload_n 0, 1, 0, 0, 0), (71, .getfield 46, 3, 0, 7, 9), (74, .iload 4, 2, 0, 4, 0), (76, .iload_n 3, 1, 0, 3, 0), (77, .iastore, 1, 0, 0, 0), (78, .aload_n 0, 1, 0, 0, 0), (79, .getfield 49, 3, 0, 7, 10), (82, .iload 4, 2, 0, 4, 0), (84, .iload 5, 2, 0, 5, 0), (86, .iastore, 1, 0, 0, 0), (87, .aload_n 0, 1, 0, 0, 0), (88, .iload 4, 2, 0, 4, 0), (90, .putfield 52, 3, 0, 7, 11), (93, .iload 6, 2, 0, 6, 0), (95, .ifCond .eq 11, 3, 0, 106, 0), (98, .aload_n 0, 1, 0, 0, 0), (99, .iload_n 3, 1, 0, 3, 0), (100, .invokevirtual 78, 3, 0, 68, 0), (103, .ifCond .eq 14, 3, 0, 117, 0), (106, .iload 6, 2, 0, 6, 0), (108, .ifCond .ne 7, 3, 0, 115, 0), (111, .iconst 1, 1, 1, 0, 0), (112, .goto 4, 3, 0, 116, 0), (115, .iconst 0, 1, 0, 0, 0), (116, .ireturn, 1, 0, 0, 0), (117, .aload_n 0, 1, 0, 0, 0), (118, .getfield 31, 3, 0, 7, 4), (121, .iload_n 3, 1, 0, 3, 0), (122, .bipush 6, 2, 6, 0, 0), (124, .imul, 1, 0, 0, 0), (125, .iload 5, 2, 0, 5, 0), (127, .iadd, 1, 0, 0, 0), (128, .iaload, 1, 0, 0, 0), (129, .istore_n 3, 1, 0, 3, 0), (130, .iinc 4 1, 3, 1, 4, 0), (133, .goto (-125), 3, 0, 8, 0), (136, .iconst 0, 1, 0, 0, 0), (137, .ireturn, 1, 0, 0, 0)]
def kX7_goToGreatestBelow : List En := [(0, .aload_n 0, 1, 0, 0, 0), (1, .getfield 31, 3, 0, 7, 4), (4, .aload_n 0, 1, 0, 0, 0), (5, .getfield 46, 3, 0, 7, 9), (8, .aload_n 0, 1, 0, 0, 0), (9, .getfield 52, 3, 0, 7, 11), (12, .iaload, 1, 0, 0, 0), (13, .bipush 6, 2, 6, 0, 0), (15, .imul, 1, 0, 0, 0), (16, .aload_n 0, 1, 0, 0, 0), (17, .getfield 49, 3, 0, 7, 10), (20, .aload_n 0, 1, 0, 0, 0), (21, .getfield 52, 3, 0, 7, 11), (24, .iaload, 1, 0, 0, 0), (25, .iadd, 1, 0, 0, 0), (26, .iaload, 1, 0, 0, 0), (27, .istore_n 1, 1, 0, 1, 0), (28, .aload_n 0, 1, 0, 0, 0), (29, .getfield 52, 3, 0, 7, 11), (32, .iconst 1, 1, 1, 0, 0), (33, .iadd, 1, 0, 0, 0), (34, .istore_n 2, 1, 0, 2, 0), (35, .iload_n 2, 1, 0, 2, 0), (36, .bipush 12, 2, 12, 0, 0), (38, .if_icmp .ge 59, 3, 0, 97, 0), (41, .aload_n 0, 1, 0, 0, 0), (42, .getfield 46, 3, 0, 7, 9), (45, .iload_n 2, 1, 0, 2, 0), (46, .iload_n 1, 1, 0, 1, 0), (47, .iastore, 1, 0, 0, 0), (48, .aload_n 0, 1, 0, 0, 0), (49, .getfield 49, 3, 0, 7, 10), (52, .iload_n 2, 1, 0, 2, 0), (53, .aload_n 0, 1, 0, 0, 0), (54, .getfield 34, 3, 0, 7, 5), (57, .iload_n 1, 1, 0, 1, 0), (58, .iaload, 1, 0, 0, 0), (59, .iastore, 1, 0, 0, 0), (60, .aload_n 0, 1, 0, 0, 0), (61, .iload_n 2, 1, 0, 2, 0), (62, .putfield 52, 3, 0, 7, 11), (65, .aload_n 0, 1, 0, 0, 0), (66, .iload_n 1, 1, 0, 1, 0), (67, .invokevirtual 78, 3, 0, 68, 0), (70, .ifCond .eq 4, 3, 0, 74, 0), (73, .return_, 1, 0, 0, 0), (74, .aload_n 0, 1, 0, 0, 0), (75, .getfield 31, 3, 0, 7, 4), (78, .iload_n 1, 1, 0, 1, 0), (79, .bipush 6, 2, 6, 0, 0), (81, .imul, 1, 0, 0, 0), (82, .aload_n 0, 1, 0, 0, 0), (83, .getfield 34, 3, 0, 7, 5), (86, .iload_n 1, 1, 0, 1, 0), (87, .iaload, 1, 0, 0, 0), (88, .iadd, 1, 0, 0, 0), (89, .iaload, 1, 0, 0, 0), (90, .istore_n 1, 1, 0, 1, 0), (91, .iinc 2 1, 3, 1, 2, 0), (94, .goto (-59), 3, 0, 35, 0), (97, .return_, 1, 0, 0, 0)]
def kX7_putInto : List En := [(0, .aload_n 0, 1, 0, 0, 0), (1, .getfield 34, 3, 0, 7, 5), (4, .iload_n 1, 1, 0, 1, 0), (5, .iaload, 1, 0, 0, 0), (6, .iload_n 2, 1, 0, 2, 0), (7, .isub, 1, 0, 0, 0), (8, .istore 5, 2, 0, 5, 0), (10, .iload_n 1, 1, 0, 1, 0), (11, .iconst 5, 1, 5, 0, 0), (12, .imul, 1, 0, 0, 0), (13, .iload_n 2, 1, 0, 2, 0), (14, .iadd, 1, 0, 0, 0), (15, .istore 6, 2, 0, 6, 0), (17, .iload_n 1, 1, 0, 1, 0), (18, .bipush 6, 2, 6, 0, 0), (20, .imul, 1, 0, 0, 0), (21, .iload_n 2, 1, 0, 2, 0), (22, .iadd, 1, 0, 0, 0), (23, .iconst 1, 1, 1, 0, 0), (24, .iadd, 1, 0, 0, 0), (25, .istore 7, 2, 0, 7, 0), (27, .aload_n 0, 1, 0, 0, 0), (28, .getfield 28, 3, 0, 7, 3), (31, .iload 6, 2, 0, 6, 0), (33, .aload_n 0, 1, 0, 0, 0), (34, .getfield 28, 3, 0, 7, 3), (37, .iload 6, 2, 0, 6, 0), (39, .iconst 1, 1, 1, 0, 0), (40, .iadd, 1, 0, 0, 0), (41, .iload 5, 2, 0, 5, 0), (43, .invokestatic 118, 3, 0, 900, 0), (46, .aload_n 0, 1, 0, 0, 0), (47, .getfield 31, 3, 0, 7, 4), (50, .iload 7, 2, 0, 7, 0), (52, .aload_n 0, 1, 0, 0, 0), (53, .getfield 31, 3, 0, 7, 4), (56, .iload 7, 2, 0, 7, 0), (58, .iconst 1, 1, 1, 0, 0), (59, .iadd, 1, 0, 0, 0), (60, .iload 5, 2, 0, 5, 0), (62, .invokestatic 118, 3, 0, 900, 0), (65, .aload_n 0, 1, 0, 0, 0), (66, .getfield 28, 3, 0, 7, 3), (69, .iload 6, 2, 0, 6, 0), (71, .iload_n 3, 1, 0, 3, 0), (72, .iastore, 1, 0, 0, 0), (73, .aload_n 0, 1, 0, 0, 0), (74, .getfield 31, 3, 0, 7, 4), (77, .iload 7, 2, 0, 7, 0), (79, .iload 4, 2, 0, 4, 0), (81, .iastore, 1, 0, 0, 0), (82, .aload_n 0, 1, 0, 0, 0), (83, .getfield 34, 3, 0, 7, 5), (86, .iload_n 1, 1, 0, 1, 0), (87, .dup2, 1, 0, 0, 0), (88, .iaload, 1, 0, 0, 0), (89, .iconst 1, 1, 1, 0, 0), (90, .iadd, 1, 0, 0, 0), (91, .iastore, 1, 0, 0, 0), (92, .return_, 1, 0, 0, 0)]
def kX7_takeOut : List En := [(0, .aload_n 0, 1, 0, 0, 0), (1, .getfield 34, 3, 0, 7, 5), (4, .iload_n 1, 1, 0, 1, 0), (5, .iaload, 1, 0, 0, 0), (6, .iload_n 2, 1, 0, 2, 0), (7, .isub, 1, 0, 0, 0), (8, .iconst 1, 1, 1, 0, 0), (9, .isub, 1, 0, 0, 0), (10, .istore_n 3, 1, 0, 3, 0), (11, .iload_n 1, 1, 0, 1, 0), (12, .iconst 5, 1, 5, 0, 0), (13, .imul, 1, 0, 0, 0), (14, .iload_n 2, 1, 0, 2, 0), (15, .iadd, 1, 0, 0, 0), (16, .istore 4, 2, 0, 4, 0), (18, .iload_n 1, 1, 0, 1, 0), (19, .bipush 6, 2, 6, 0, 0), (21, .imul, 1, 0, 0, 0), (22, .iload_n 2, 1, 0, 2, 0), (23, .iadd, 1, 0, 0, 0), (24, .iconst 1, 1, 1, 0, 0), (25, .iadd, 1, 0, 0, 0), (26, .istore 5, 2, 0, 5, 0), (28, .aload_n 0, 1, 0, 0, 0), (29, .getfield 28, 3, 0, 7, 3), (32, .iload 4, 2, 0, 4, 0), (34, .iconst 1, 1, 1, 0, 0), (35, .iadd, 1, 0, 0, 0), (36, .aload_n 0, 1, 0, 0, 0), (37, .getfield 28, 3, 0, 7, 3), (40, .iload 4, 2, 0, 4, 0), (42, .iload_n 3, 1, 0, 3, 0), (43, .invokestatic 118, 3, 0, 900, 0), (46, .aload_n 0, 1, 0, 0, 0), (47, .getfield 31, 3, 0, 7, 4), (50, .iload 5, 2, 0, 5, 0), (52, .iconst 1, 1, 1, 0, 0), (53, .iadd, 1, 0, 0, 0), (54, .aload_n 0, 1, 0, 0, 0), (55, .getfield 31, 3, 0, 7, 4), (58, .iload 5, 2, 0, 5, 0), (60, .iload_n 3, 1, 0, 3, 0), (61, .invokestatic 118, 3, 0, 900, 0), (64, .aload_n 0, 1, 0, 0, 0), (65, .getfield 34, 3, 0, 7, 5), (68, .iload_n 1, 1, 0, 1, 0), (69, .dup2, 1, 0, 0, 0), (70, .iaload, 1, 0, 0, 0), (71, .iconst 1, 1, 1, 0, 0), (72, .isub, 1, 0, 0, 0), (73, .iastore, 1, 0, 0, 0), (74, .return_, 1, 0, 0, 0)]
def kX7_splitUpwards : List En := [(0, .aload_n 0, 1, 0, 0, 0), (1, .getfield 52, 3, 0, 7, 11), (4, .istore_n 1, 1, 0, 1, 0), (5, .iload_n 1, 1, 0, 1, 0), (6, .ifCond .lt 117, 3, 0, 123, 0), (9, .aload_n 0, 1, 0, 0, 0), (10, .getfield 34, 3, 0, 7, 5), (13, .aload_n 0, 1, 0, 0, 0), (14, .getfield 46, 3, 0, 7, 9), (17, .iload_n 1, 1, 0, 1, 0), (18, .iaload, 1, 0, 0, 0), (19, .iaload, 1, 0, 0, 0), (20, .iconst 4, 1, 4, 0, 0), (21, .if_icmp .le 102, 3, 0, 123, 0), (24, .aload_n 0, 1, 0, 0, 0), (25, .getfield 46, 3, 0, 7, 9), (28, .iload_n 1, 1, 0, 1, 0), (29, .iaload, 1, 0, 0, 0), (30, .istore_n 2, 1, 0, 2, 0), (31, .aload_n 0, 1, 0, 0, 0), (32, .invokevirtual 74, 3, 0, 69, 0), (35, .istore_n 3, 1, 0, 3, 0), (36, .aload_n 0, 1, 0, 0, 0), (37, .getfield 28, 3, 0, 7, 3), (40, .iload_n 2, 1, 0, 2, 0), (41, .iconst 5, 1, 5, 0, 0), (42, .imul, 1, 0, 0, 0), (43, .iconst 2, 1, 2, 0, 0), (44, .iadd, 1, 0, 0, 0), (45, .iaload, 1, 0, 0, 0), (46, .istore 4, 2, 0, 4, 0), (48, .aload_n 0, 1, 0, 0, 0), (49, .iload_n 2, 1, 0, 2, 0), (50, .iload_n 3, 1, 0, 3, 0), (51, .invokevirtual 124, 3, 0, 76, 0), (54, .iload_n 1, 1, 0, 1, 0), (55, .ifCond .le 29, 3, 0, 84, 0), (58, .aload_n 0, 1, 0, 0, 0), (59, .aload_n 0, 1, 0, 0, 0), (60, .getfield 46, 3, 0, 7, 9), (63, .iload_n 1, 1, 0, 1, 0), (64, .iconst 1, 1, 1, 0, 0), (65, .isub, 1, 0, 0, 0), (66, .iaload, 1, 0, 0, 0), (67, .aload_n 0, 1, 0, 0, 0), (68, .getfield 49, 3, 0, 7, 10), (71, .iload_n 1, 1, 0, 1, 0), (72, .iconst 1, 1, 1, 0, 0), (73, .isub, 1, 0, 0, 0), (74, .iaload, 1, 0, 0, 0), (75, .iload 4, 2, 0, 4, 0), (77, .iload_n 3, 1, 0, 3, 0), (78, .invokevirtual 97, 3, 0, 73, 0), (81, .goto 36, 3, 0, 117, 0), (84, .aload_n 0, 1, 0, 0, 0), (85, .aload_n 0, 1, 0, 0, 0), (86, .invokevirtual 74, 3, 0, 69, 0), (89, .putfield 43, 3, 0, 7, 8), (92, .aload_n 0, 1, 0, 0, 0), (93, .getfield 31, 3, 0, 7, 4), (96, .aload_n 0, 1, 0, 0, 0), (97, .getfield 43, 3, 0, 7, 8), (100, .bipush 6, 2, 6, 0, 0), (102, .imul, 1, 0, 0, 0), (103, .iload_n 2, 1, 0, 2, 0), (104, .iastore, 1, 0, 0, 0), (105, .aload_n 0, 1, 0, 0, 0), (106, .aload_n 0, 1, 0, 0, 0), (107, .getfield 43, 3, 0, 7, 8), (110, .iconst 0, 1, 0, 0, 0), (111, .iload 4, 2, 0, 4, 0), (113, .iload_n 3, 1, 0, 3, 0), (114, .invokevirtual 97, 3, 0, 73, 0), (117, .iinc 1 (-1), 3, (-1), 1, 0), (120, .goto (-115), 3, 0, 5, 0), (123, .return_, 1, 0, 0, 0)]
def kX7_halve : List En := [(0, .aload_n 0, 1, 0, 0, 0), (1, .getfield 28, 3, 0, 7, 3), (4, .iload_n 1, 1, 0, 1, 0), (5, .iconst 5, 1, 5, 0, 0), (6, .imul, 1, 0, 0, 0), (7, .iconst 2, 1, 2, 0, 0), (8, .iadd, 1, 0, 0, 0), (9, .iconst 1, 1, 1, 0, 0), (10, .iadd, 1, 0, 0, 0), (11, .aload_n 0, 1, 0, 0, 0), (12, .getfield 28, 3, 0, 7, 3), (15, .iload_n 2, 1, 0, 2, 0), (16, .iconst 5, 1, 5, 0, 0), (17, .imul, 1, 0, 0, 0), (18, .iconst 2, 1, 2, 0, 0), (19, .invokestatic 118, 3, 0, 900, 0), (22, .aload_n 0, 1, 0, 0, 0), (23, .getfield 31, 3, 0, 7, 4), (26, .iload_n 1, 1, 0, 1, 0), (27, .bipush 6, 2, 6, 0, 0), (29, .imul, 1, 0, 0, 0), (30, .iconst 2, 1, 2, 0, 0), (31, .iadd, 1, 0, 0, 0), (32, .iconst 1, 1, 1, 0, 0), (33, .iadd, 1, 0, 0, 0), (34, .aload_n 0, 1, 0, 0, 0), (35, .getfield 31, 3, 0, 7, 4), (38, .iload_n 2, 1, 0, 2, 0), (39, .bipush 6, 2, 6, 0, 0), (41, .imul, 1, 0, 0, 0), (42, .iconst 3, 1, 3, 0, 0), (43, .invokestatic 118, 3, 0, 900, 0), (46, .aload_n 0, 1, 0, 0, 0), (47, .getfield 34, 3, 0, 7, 5), (50, .iload_n 2, 1, 0, 2, 0), (51, .iconst 2, 1, 2, 0, 0), (52, .iastore, 1, 0, 0, 0), (53, .aload_n 0, 1, 0, 0, 0), (54, .getfield 34, 3, 0, 7, 5), (57, .iload_n 1, 1, 0, 1, 0), (58, .iconst 2, 1, 2, 0, 0), (59, .iastore, 1, 0, 0, 0), (60, .return_, 1, 0, 0, 0)]
def kX7_mendUpwards : List En := [(0, .aload_n 0, 1, 0, 0, 0), (1, .getfield 52, 3, 0, 7, 11), (4, .istore_n 1, 1, 0, 1, 0), (5, .iload_n 1, 1, 0, 1, 0), (6, .ifCond .le 145, 3, 0, 151, 0), (9, .aload_n 0, 1, 0, 0, 0), (10, .getfield 34, 3, 0, 7, 5), (13, .aload_n 0, 1, 0, 0, 0), (14, .getfield 46, 3, 0, 7, 9), (17, .iload_n 1, 1, 0, 1, 0), (18, .iaload, 1, 0, 0, 0), (19, .iaload, 1, 0, 0, 0), (20, .iconst 2, 1, 2, 0, 0), (21, .if_icmp .ge 130, 3, 0, 151, 0), (24, .aload_n 0, 1, 0, 0, 0), (25, .getfield 46, 3, 0, 7, 9), (28, .iload_n 1, 1, 0, 1, 0), (29, .iconst 1, 1, 1, 0, 0), (30, .isub, 1, 0, 0, 0), (31, .iaload, 1, 0, 0, 0), (32, .istore_n 2, 1, 0, 2, 0), (33, .aload_n 0, 1, 0, 0, 0), (34, .getfield 49, 3, 0, 7, 10), (37, .iload_n 1, 1, 0, 1, 0), (38, .iconst 1, 1, 1, 0, 0), (39, .isub, 1, 0, 0, 0), (40, .iaload, 1, 0, 0, 0), (41, .istore_n 3, 1, 0, 3, 0), (42, .iload_n 3, 1, 0, 3, 0), (43, .ifCond .le 34, 3, 0, 77, 0), (46, .aload_n 0, 1, 0, 0, 0), (47, .getfield 34, 3, 0, 7, 5), (50, .aload_n 0, 1, 0, 0, 0), (51, .getfield 31, 3, 0, 7, 4), (54, .iload_n 2, 1, 0, 2, 0), (55, .bipush 6, 2, 6, 0, 0), (57, .imul, 1, 0, 0, 0), (58, .iload_n 3, 1, 0, 3, 0), (59, .iadd, 1, 0, 0, 0), (60, .iconst 1, 1, 1, 0, 0), (61, .isub, 1, 0, 0, 0), (62, .iaload, 1, 0, 0, 0), (63, .iaload, 1, 0, 0, 0), (64, .iconst 2, 1, 2, 0, 0), (65, .if_icmp .le 12, 3, 0, 77, 0), (68, .aload_n 0, 1, 0, 0, 0), (69, .iload_n 2, 1, 0, 2, 0), (70, .iload_n 3, 1, 0, 3, 0), (71, .invokevirtual 127, 3, 0, 78, 0), (74, .goto 71, 3, 0, 145, 0), (77, .iload_n 3, 1, 0, 3, 0), (78, .aload_n 0, 1, 0, 0, 0), (79, .getfield 34, 3, 0, 7, 5), (82, .iload_n 2, 1, 0, 2, 0), (83, .iaload, 1, 0, 0, 0), (84, .if_icmp .ge 34, 3, 0, 118, 0), (87, .aload_n 0, 1, 0, 0, 0), (88, .getfield 34, 3, 0, 7, 5), (91, .aload_n 0, 1, 0, 0, 0), (92, .getfield 31, 3, 0, 7, 4), (95, .iload_n 2, 1, 0, 2, 0), (96, .bipush 6, 2, 6, 0, 0), (98, .imul, 1, 0, 0, 0), (99, .iload_n 3, 1, 0, 3, 0), (100, .iadd, 1, 0, 0, 0), (101, .iconst 1, 1, 1, 0, 0), (102, .iadd, 1, 0, 0, 0), (103, .iaload, 1, 0, 0, 0), (104, .iaload, 1, 0, 0, 0), (105, .iconst 2, 1, 2, 0, 0), (106, .if_icmp .le 12, 3, 0, 118, 0), (109, .aload_n 0, 1, 0, 0, 0), (110, .iload_n 2, 1, 0, 2, 0), (111, .iload_n 3, 1, 0, 3, 0), (112, .invokevirtual 130, 3, 0, 79, 0), (115, .goto 30, 3, 0, 145, 0), (118, .iload_n 3, 1, 0, 3, 0), (119, .ifCond .le 9, 3, 0, 128, 0), (122, .iload_n 3, 1, 0, 3, 0), (123, .iconst 1, 1, 1, 0, 0), (124, .isub, 1, 0, 0, 0), (125, .goto 4, 3, 0, 129, 0), (128, .iload_n 3, 1, 0, 3, 0), (129, .istore 4, 2, 0, 4, 0), (131, .aload_n 0, 1, 0, 0, 0), (132, .iload_n 2, 1, 0, 2, 0), (133, .iload 4, 2, 0, 4, 0), (135, .invokevirtual 133, 3, 0, 80, 0), (138, .aload_n 0, 1, 0, 0, 0), (139, .iload_n 2, 1, 0, 2, 0), (140, .iload 4, 2, 0, 4, 0), (142, .invokevirtual 104, 3, 0, 74, 0), (145, .iinc 1 (-1), 3, (-1), 1, 0), (148, .goto (-143), 3, 0, 5, 0), (151, .aload_n 0, 1, 0, 0, 0), (152, .getfield 34, 3, 0, 7, 5), (155, .aload_n 0, 1, 0, 0, 0), (156, .getfield 43, 3, 0, 7, 8), (159, .iaload, 1, 0, 0, 0), (160, .ifCond .ne 38, 3, 0, 198, 0), (163, .aload_n 0, 1, 0, 0, 0), (164, .aload_n 0, 1, 0, 0, 0), (165, .getfield 43, 3, 0, 7, 8), (168, .invokevirtual 78, 3, 0, 68, 0), (171, .ifCond .ne 27, 3, 0, 198, 0), (174, .aload_n 0, 1, 0, 0, 0), (175, .aload_n 0, 1, 0, 0, 0), (176, .getfield 43, 3, 0, 7, 8), (179, .invokevirtual 136, 3, 0, 70, 0), (182, .aload_n 0, 1, 0, 0, 0), (183, .aload_n 0, 1, 0, 0, 0), (184, .getfield 31, 3, 0, 7, 4), (187, .aload_n 0, 1, 0, 0, 0), (188, .getfield 43, 3, 0, 7, 8), (191, .bipush 6, 2, 6, 0, 0), (193, .imul, 1, 0, 0, 0), (194, .iaload, 1, 0, 0, 0), (195, .putfield 43, 3, 0, 7, 8), (198, .return_, 1, 0, 0, 0)]
def kX7_takeFromLeft : List En := [(0, .aload_n 0, 1, 0, 0, 0), (1, .getfield 31, 3, 0, 7, 4), (4, .iload_n 1, 1, 0, 1, 0), (5, .bipush 6, 2, 6, 0, 0), (7, .imul, 1, 0, 0, 0), (8, .iload_n 2, 1, 0, 2, 0), (9, .iadd, 1, 0, 0, 0), (10, .iconst 1, 1, 1, 0, 0), (11, .isub, 1, 0, 0, 0), (12, .iaload, 1, 0, 0, 0), (13, .istore_n 3, 1, 0, 3, 0), (14, .aload_n 0, 1, 0, 0, 0), (15, .getfield 31, 3, 0, 7, 4), (18, .iload_n 1, 1, 0, 1, 0), (19, .bipush 6, 2, 6, 0, 0), (21, .imul, 1, 0, 0, 0), (22, .iload_n 2, 1, 0, 2, 0), (23, .iadd, 1, 0, 0, 0), (24, .iaload, 1, 0, 0, 0), (25, .istore 4, 2, 0, 4, 0), (27, .iload_n 1, 1, 0, 1, 0), (28, .iconst 5, 1, 5, 0, 0), (29, .imul, 1, 0, 0, 0), (30, .iload_n 2, 1, 0, 2, 0), (31, .iadd, 1, 0, 0, 0), (32, .iconst 1, 1, 1, 0, 0), (33, .isub, 1, 0, 0, 0), (34, .istore 5, 2, 0, 5, 0), (36, .aload_n 0, 1, 0, 0, 0), (37, .getfield 28, 3, 0, 7, 3), (40, .iload 4, 2, 0, 4, 0), (42, .iconst 5, 1, 5, 0, 0), (43, .imul, 1, 0, 0, 0), (44, .aload_n 0, 1, 0, 0, 0), (45, .getfield 28, 3, 0, 7, 3), (48, .iload 4, 2, 0, 4, 0), (50, .iconst 5, 1, 5, 0, 0), (51, .imul, 1, 0, 0, 0), (52, .iconst 1, 1, 1, 0, 0), (53, .iadd, 1, 0, 0, 0), (54, .aload_n 0, 1, 0, 0, 0), (55, .getfield 34, 3, 0, 7, 5), (58, .iload 4, 2, 0, 4, 0), (60, .iaload, 1, 0, 0, 0), (61, .invokestatic 118, 3, 0, 900, 0), (64, .aload_n 0, 1, 0, 0, 0), (65, .getfield 31, 3, 0, 7, 4), (68, .iload 4, 2, 0, 4, 0), (70, .bipush 6, 2, 6, 0, 0), (72, .imul, 1, 0, 0, 0), (73, .aload_n 0, 1, 0, 0, 0), (74, .getfield 31, 3, 0, 7, 4), (77, .iload 4, 2, 0, 4, 0), (79, .bipush 6, 2, 6, 0, 0), (81, .imul, 1, 0, 0, 0), (82, .iconst 1, 1, 1, 0, 0), (83, .iadd, 1, 0, 0, 0), (84, .aload_n 0, 1, 0, 0, 0), (85, .getfield 34, 3, 0, 7, 5), (88, .iload 4, 2, 0, 4, 0), (90, .iaload, 1, 0, 0, 0), (91, .iconst 1, 1, 1, 0, 0), (92, .iadd, 1, 0, 0, 0), (93, .invokestatic 118, 3, 0, 900, 0), (96, .aload_n 0, 1, 0, 0, 0), (97, .getfield 28, 3, 0, 7, 3), (100, .iload 4, 2, 0, 4, 0), (102, .iconst 5, 1, 5, 0, 0), (103, .imul, 1, 0, 0, 0), (104, .aload_n 0, 1, 0, 0, 0), (105, .getfield 28, 3, 0, 7, 3), (108, .iload 5, 2, 0, 5, 0), (110, .iaload, 1, 0, 0, 0), (111, .iastore, 1, 0, 0, 0), (112, .aload_n 0, 1, 0, 0, 0), (113, .getfield 31, 3, 0, 7, 4), (116, .iload 4, 2, 0, 4, 0), (118, .bipush 6, 2, 6, 0, 0), (120, .imul, 1, 0, 0, 0), (121, .aload_n 0, 1, 0, 0, 0), (122, .getfield 31, 3, 0, 7, 4), (125, .iload_n 3, 1, 0, 3, 0), (126, .bipush 6, 2, 6, 0, 0), (128, .imul, 1, 0, 0, 0), (129, .aload_n 0, 1, 0, 0, 0), (130, .getfield 34, 3, 0, 7, 5), (133, .iload_n 3, 1, 0, 3, 0), (134, .iaload, 1, 0, 0, 0), (135, .iadd, 1, 0, 0, 0), (136, .iaload, 1, 0, 0, 0), (137, .iastore, 1, 0, 0, 0), (138, .aload_n 0, 1, 0, 0, 0), (139, .getfield 34, 3, 0, 7, 5), (142, .iload 4, 2, 0, 4, 0), (144, .dup2, 1, 0, 0, 0), (145, .iaload, 1, 0, 0, 0), (146, .iconst 1, 1, 1, 0, 0), (147, .iadd, 1, 0, 0, 0), (148, .iastore, 1, 0, 0, 0), (149, .aload_n 0, 1, 0, 0, 0), (150, .getfield 34, 3, 0, 7, 5), (153, .iload_n 3, 1, 0, 3, 0), (154, .dup2, 1, 0, 0, 0), (155, .iaload, 1, 0, 0, 0), (156, .iconst 1, 1, 1, 0, 0), (157, .isub, 1, 0, 0, 0), (158, .iastore, 1, 0, 0, 0), (159, .aload_n 0, 1, 0, 0, 0), (160, .getfield 28, 3, 0, 7, 3), (163, .iload 5, 2, 0, 5, 0), (165, .aload_n 0, 1, 0, 0, 0), (166, .getfield 28, 3, 0, 7, 3), (169, .iload_n 3, 1, 0, 3, 0), (170, .iconst 5, 1, 5, 0, 0), (171, .imul, 1, 0, 0, 0), (172, .aload_n 0, 1, 0, 0, 0), (173, .getfield 34, 3, 0, 7, 5), (176, .iload_n 3, 1, 0, 3, 0), (177, .iaload, 1, 0, 0, 0), (178, .iadd, 1, 0, 0, 0), (179, .iaload, 1, 0, 0, 0), (180, .iastore, 1, 0, 0, 0), (181, .return_, 1, 0, 0, 0)]
def kX7_takeFromRight : List En := [(0, .aload_n 0, 1, 0, 0, 0), (1, .getfield 31, 3, 0, 7, 4), (4, .iload_n 1, 1, 0, 1, 0), (5, .bipush 6, 2, 6, 0, 0), (7, .imul, 1, 0, 0, 0), (8, .iload_n 2, 1, 0, 2, 0), (9, .iadd, 1, 0, 0, 0), (10, .iaload, 1, 0, 0, 0), (11, .istore_n 3, 1, 0, 3, 0), (12, .aload_n 0, 1, 0, 0, 0), (13, .getfield 31, 3, 0, 7, 4), (16, .iload_n 1, 1, 0, 1, 0), (17, .bipush 6, 2, 6, 0, 0), (19, .imul, 1, 0, 0, 0), (20, .iload_n 2, 1, 0, 2, 0), (21, .iadd, 1, 0, 0, 0), (22, .iconst 1, 1, 1, 0, 0), (23, .iadd, 1, 0, 0, 0), (24, .iaload, 1, 0, 0, 0), (25, .istore 4, 2, 0, 4, 0), (27, .iload_n 1, 1, 0, 1, 0), (28, .iconst 5, 1, 5, 0, 0), (29, .imul, 1, 0, 0, 0), (30, .iload_n 2, 1, 0, 2, 0), (31, .iadd, 1, 0, 0, 0), (32, .istore 5, 2, 0, 5, 0), (34, .aload_n 0, 1, 0, 0, 0), (35, .getfield 28, 3, 0, 7, 3), (38, .iload_n 3, 1, 0, 3, 0), (39, .iconst 5, 1, 5, 0, 0), (40, .imul, 1, 0, 0, 0), (41, .aload_n 0, 1, 0, 0, 0), (42, .getfield 34, 3, 0, 7, 5), (45, .iload_n 3, 1, 0, 3, 0), (46, .iaload, 1, 0, 0, 0), (47, .iadd, 1, 0, 0, 0), (48, .aload_n 0, 1, 0, 0, 0), (49, .getfield 28, 3, 0, 7, 3), (52, .iload 5, 2, 0, 5, 0), (54, .iaload, 1, 0, 0, 0), (55, .iastore, 1, 0, 0, 0), (56, .aload_n 0, 1, 0, 0, 0), (57, .getfield 34, 3, 0, 7, 5), (60, .iload_n 3, 1, 0, 3, 0), (61, .dup2, 1, 0, 0, 0), (62, .iaload, 1, 0, 0, 0), (63, .iconst 1, 1, 1, 0, 0), (64, .iadd, 1, 0, 0, 0), (65, .iastore, 1, 0, 0, 0), (66, .aload_n 0, 1, 0, 0, 0), (67, .getfield 31, 3, 0, 7, 4), (70, .iload_n 3, 1, 0, 3, 0), (71, .bipush 6, 2, 6, 0, 0), (73, .imul, 1, 0, 0, 0), (74, .aload_n 0, 1, 0, 0, 0), (75, .getfield 34, 3, 0, 7, 5), (78, .iload_n 3, 1, 0, 3, 0), (79, .iaload, 1, 0, 0, 0), (80, .iadd, 1, 0, 0, 0), (81, .aload_n 0, 1, 0, 0, 0), (82, .getfield 31, 3, 0, 7, 4), (85, .iload 4, 2, 0, 4, 0), (87, .bipush 6, 2, 6, 0, 0), (89, .imul, 1, 0, 0, 0), (90, .iaload, 1, 0, 0, 0), (91, .iastore, 1, 0, 0, 0), (92, .aload_n 0, 1, 0, 0, 0), (93, .getfield 28, 3, 0, 7, 3), (96, .iload 5, 2, 0, 5, 0), (98, .aload_n 0, 1, 0, 0, 0), (99, .getfield 28, 3, 0, 7, 3), (102, .iload 4, 2, 0, 4, 0), (104, .iconst 5, 1, 5, 0, 0), (105, .imul, 1, 0, 0, 0), (106, .iaload, 1, 0, 0, 0), (107, .iastore, 1, 0, 0, 0), (108, .aload_n 0, 1, 0, 0, 0), (109, .getfield 34, 3, 0, 7, 5), (112, .iload 4, 2, 0, 4, 0), (114, .dup2, 1, 0, 0, 0), (115, .iaload, 1, 0, 0, 0), (116, .iconst 1, 1, 1, 0, 0), (117, .isub, 1, 0, 0, 0), (118, .iastore, 1, 0, 0, 0), (119, .aload_n 0, 1, 0, 0, 0), (120, .getfield 28, 3, 0, 7, 3), (123, .iload 4, 2, 0, 4, 0), (125, .iconst 5, 1, 5, 0, 0), (126, .imul, 1, 0, 0, 0), (127, .iconst 1, 1, 1, 0, 0), (128, .iadd, 1, 0, 0, 0), (129, .aload_n 0, 1, 0, 0, 0), (130, .getfield 28, 3, 0, 7, 3), (133, .iload 4, 2, 0, 4, 0), (135, .iconst 5, 1, 5, 0, 0), (136, .imul, 1, 0, 0, 0), (137, .aload_n 0, 1, 0, 0, 0), (138, .getfield 34, 3, 0, 7, 5), (141, .iload 4, 2, 0, 4, 0), (143, .iaload, 1, 0, 0, 0), (144, .invokestatic 118, 3, 0, 900, 0), (147, .aload_n 0, 1, 0, 0, 0), (148, .getfield 31, 3, 0, 7, 4), (151, .iload 4, 2, 0, 4, 0), (153, .bipush 6, 2, 6, 0, 0), (155, .imul, 1, 0, 0, 0), (156, .iconst 1, 1, 1, 0, 0), (157, .iadd, 1, 0, 0, 0), (158, .aload_n 0, 1, 0, 0, 0), (159, .getfield 31, 3, 0, 7, 4), (162, .iload 4, 2, 0, 4, 0), (164, .bipush 6, 2, 6, 0, 0), (166, .imul, 1, 0, 0, 0), (167, .aload_n 0, 1, 0, 0, 0), (168, .getfield 34, 3, 0, 7, 5), (171, .iload 4, 2, 0, 4, 0), (173, .iaload, 1, 0, 0, 0), (174, .iconst 1, 1, 1, 0, 0), (175, .iadd, 1, 0, 0, 0), (176, .invokestatic 118, 3, 0, 900, 0), (179, .return_, 1, 0, 0, 0)]
def kX7_joinAround : List En := [(0, .aload_n 0, 1, 0, 0, 0), (1, .getfield 31, 3, 0, 7, 4), (4, .iload_n 1, 1, 0, 1, 0), (5, .bipush 6, 2, 6, 0, 0), (7, .imul, 1, 0, 0, 0), (8, .iload_n 2, 1, 0, 2, 0), (9, .iadd, 1, 0, 0, 0), (10, .iaload, 1, 0, 0, 0), (11, .istore_n 3, 1, 0, 3, 0), (12, .aload_n 0, 1, 0, 0, 0), (13, .getfield 31, 3, 0, 7, 4), (16, .iload_n 1, 1, 0, 1, 0), (17, .bipush 6, 2, 6, 0, 0), (19, .imul, 1, 0, 0, 0), (20, .iload_n 2, 1, 0, 2, 0), (21, .iadd, 1, 0, 0, 0), (22, .iconst 1, 1, 1, 0, 0), (23, .iadd, 1, 0, 0, 0), (24, .iaload, 1, 0, 0, 0), (25, .istore 4, 2, 0, 4, 0), (27, .aload_n 0, 1, 0, 0, 0), (28, .getfield 34, 3, 0, 7, 5), (31, .iload_n 3, 1, 0, 3, 0), (32, .iaload, 1, 0, 0, 0), (33, .istore 5, 2, 0, 5, 0), (35, .aload_n 0, 1, 0, 0, 0), (36, .getfield 28, 3, 0, 7, 3), (39, .iload_n 3, 1, 0, 3, 0), (40, .iconst 5, 1, 5, 0, 0), (41, .imul, 1, 0, 0, 0), (42, .iload 5, 2, 0, 5, 0), (44, .iadd, 1, 0, 0, 0), (45, .aload_n 0, 1, 0, 0, 0), (46, .getfield 28, 3, 0, 7, 3), (49, .iload_n 1, 1, 0, 1, 0), (50, .iconst 5, 1, 5, 0, 0), (51, .imul, 1, 0, 0, 0), (52, .iload_n 2, 1, 0, 2, 0), (53, .iadd, 1, 0, 0, 0), (54, .iaload, 1, 0, 0, 0), (55, .iastore, 1, 0, 0, 0), (56, .aload_n 0, 1, 0, 0, 0), (57, .getfield 28, 3, 0, 7, 3), (60, .iload 4, 2, 0, 4, 0), (62, .iconst 5, 1, 5, 0, 0), (63, .imul, 1, 0, 0, 0), (64, .aload_n 0, 1, 0, 0, 0), (65, .getfield 28, 3, 0, 7, 3), (68, .iload_n 3, 1, 0, 3, 0), (69, .iconst 5, 1, 5, 0, 0), (70, .imul, 1, 0, 0, 0), (71, .iload 5, 2, 0, 5, 0), (73, .iadd, 1, 0, 0, 0), (74, .iconst 1, 1, 1, 0, 0), (75, .iadd, 1, 0, 0, 0), (76, .aload_n 0, 1, 0, 0, 0), (77, .getfield 34, 3, 0, 7, 5), (80, .iload 4, 2, 0, 4, 0), (82, .iaload, 1, 0, 0, 0), (83, .invokestatic 118, 3, 0, 900, 0), (86, .aload_n 0, 1, 0, 0, 0), (87, .getfield 31, 3, 0, 7, 4), (90, .iload 4, 2, 0, 4, 0), (92, .bipush 6, 2, 6, 0, 0), (94, .imul, 1, 0, 0, 0), (95, .aload_n 0, 1, 0, 0, 0), (96, .getfield 31, 3, 0, 7, 4), (99, .iload_n 3, 1, 0, 3, 0), (100, .bipush 6, 2, 6, 0, 0), (102, .imul, 1, 0, 0, 0), (103, .iload 5, 2, 0, 5, 0), (105, .iadd, 1, 0, 0, 0), (106, .iconst 1, 1, 1, 0, 0), (107, .iadd, 1, 0, 0, 0), (108, .aload_n 0, 1, 0, 0, 0), (109, .getfield 34, 3, 0, 7, 5), (112, .iload 4, 2, 0, 4, 0), (114, .iaload, 1, 0, 0, 0), (115, .iconst 1, 1, 1, 0, 0), (116, .iadd, 1, 0, 0, 0), (117, .invokestatic 118, 3, 0, 900, 0), (120, .aload_n 0, 1, 0, 0, 0), (121, .getfield 34, 3, 0, 7, 5), (124, .iload_n 3, 1, 0, 3, 0), (125, .iload 5, 2, 0, 5, 0), (127, .iconst 1, 1, 1, 0, 0), (128, .iadd, 1, 0, 0, 0), (129, .aload_n 0, 1, 0, 0, 0), (130, .getfield 34, 3, 0, 7, 5), (133, .iload 4, 2, 0, 4, 0), (135, .iaload, 1, 0, 0, 0), (136, .iadd, 1, 0, 0, 0), (137, .iastore, 1, 0, 0, 0), (138, .aload_n 0, 1, 0, 0, 0), (139, .iload 4, 2, 0, 4, 0), (141, .invokevirtual 136, 3, 0, 70, 0), (144, .return_, 1, 0, 0, 0)]
def kX7_walkAll : List En := [(0, .aload_n 0, 1, 0, 0, 0), (1, .getfield 61, 3, 0, 7, 14), (4, .ifCond .eq 4, 3, 0, 8, 0), (7, .return_, 1, 0, 0, 0), (8, .aload_n 0, 1, 0, 0, 0), (9, .iconst 0, 1, 0, 0, 0), (10, .putfield 65, 3, 0, 7, 15), (13, .iconst 0, 1, 0, 0, 0), (14, .istore_n 1, 1, 0, 1, 0), (15, .aload_n 0, 1, 0, 0, 0), (16, .getfield 46, 3, 0, 7, 9), (19, .iconst 0, 1, 0, 0, 0), (20, .aload_n 0, 1, 0, 0, 0), (21, .getfield 43, 3, 0, 7, 8), (24, .iastore, 1, 0, 0, 0), (25, .aload_n 0, 1, 0, 0, 0), (26, .getfield 49, 3, 0, 7, 10), (29, .iconst 0, 1, 0, 0, 0), (30, .iconst 0, 1, 0, 0, 0), (31, .iastore, 1, 0, 0, 0), (32, .iconst 0, 1, 0, 0, 0), (33, .istore_n 2, 1, 0, 2, 0), (34, .iload_n 2, 1, 0, 2, 0), (35, .sipush 2436, 3, 2436, 0, 0), (38, .if_icmp .ge 122, 3, 0, 160, 0), (41, .iload_n 1, 1, 0, 1, 0), (42, .ifCond .lt 118, 3, 0, 160, 0), (45, .aload_n 0, 1, 0, 0, 0), (46, .getfield 46, 3, 0, 7, 9), (49, .iload_n 1, 1, 0, 1, 0), (50, .iaload, 1, 0, 0, 0), (51, .istore_n 3, 1, 0, 3, 0), (52, .aload_n 0, 1, 0, 0, 0), (53, .getfield 49, 3, 0, 7, 10), (56, .iload_n 1, 1, 0, 1, 0), (57, .iaload, 1, 0, 0, 0), (58, .istore 4, 2, 0, 4, 0), (60, .iload 4, 2, 0, 4, 0), (62, .aload_n 0, 1, 0, 0, 0), (63, .getfield 34, 3, 0, 7, 5), (66, .iload_n 3, 1, 0, 3, 0), (67, .iaload, 1, 0, 0, 0), (68, .if_icmp .le 9, 3, 0, 77, 0), (71, .iinc 1 (-1), 3, (-1), 1, 0), (74, .goto 80, 3, 0, 154, 0), (77, .iload 4, 2, 0, 4, 0), (79, .ifCond .le 21, 3, 0, 100, 0), (82, .aload_n 0, 1, 0, 0, 0), (83, .aload_n 0, 1, 0, 0, 0), (84, .getfield 28, 3, 0, 7, 3), (87, .iload_n 3, 1, 0, 3, 0), (88, .iconst 5, 1, 5, 0, 0), (89, .imul, 1, 0, 0, 0), (90, .iload 4, 2, 0, 4, 0), (92, .iadd, 1, 0, 0, 0), (93, .iconst 1, 1, 1, 0, 0), (94, .isub, 1, 0, 0, 0), (95, .iaload, 1, 0, 0, 0), (96, .iload_n 1, 1, 0, 1, 0), (97, .invokevirtual 139, 3, 0, 82, 0), (100, .aload_n 0, 1, 0, 0, 0), (101, .getfield 49, 3, 0, 7, 10), (104, .iload_n 1, 1, 0, 1, 0), (105, .dup2, 1, 0, 0, 0), (106, .iaload, 1, 0, 0, 0), (107, .iconst 1, 1, 1, 0, 0), (108, .iadd, 1, 0, 0, 0), (109, .iastore, 1, 0, 0, 0), (110, .aload_n 0, 1, 0, 0, 0), (111, .iload_n 3, 1, 0, 3, 0), (112, .invokevirtual 78, 3, 0, 68, 0), (115, .ifCond .ne 39, 3, 0, 154, 0), (118, .iload_n 1, 1, 0, 1, 0), (119, .iconst 1, 1, 1, 0, 0), (120, .iadd, 1, 0, 0, 0), (121, .bipush 12, 2, 12, 0, 0), (123, .if_icmp .ge 31, 3, 0, 154, 0), (126, .iinc 1 1, 3, 1, 1, 0), (129, .aload_n 0, 1, 0, 0, 0), (130, .getfield 46, 3, 0, 7, 9), (133, .iload_n 1, 1, 0, 1, 0), (134, .aload_n 0, 1, 0, 0, 0), (135, .getfield 31, 3, 0, 7, 4), (138, .iload_n 3, 1, 0, 3, 0), (139, .bipush 6, 2, 6, 0, 0), (141, .imul, 1, 0, 0, 0), (142, .iload 4, 2, 0, 4, 0), (144, .iadd, 1, 0, 0, 0), (145, .iaload, 1, 0, 0, 0), (146, .iastore, 1, 0, 0, 0), (147, .aload_n 0, 1, 0, 0, 0), (148, .getfield 49, 3, 0, 7, 10), (151, .iload_n 1, 1, 0, 1, 0), (152, .iconst 0, 1, 0, 0, 0), (153, .iastore, 1, 0, 0, 0), (154, .iinc 2 1, 3, 1, 2, 0), (157, .goto (-123), 3, 0, 34, 0), (160, .aload_n 0, 1, 0, 0, 0), (161, .iconst 1, 1, 1, 0, 0), (162, .putfield 61, 3, 0, 7, 14), (165, .return_, 1, 0, 0, 0)]
def kX7_noteWalked : List En := [(0, .aload_n 0, 1, 0, 0, 0), (1, .getfield 65, 3, 0, 7, 15), (4, .sipush 648, 3, 648, 0, 0), (7, .if_icmp .ge 33, 3, 0, 40, 0), (10, .aload_n 0, 1, 0, 0, 0), (11, .getfield 55, 3, 0, 7, 12), (14, .aload_n 0, 1, 0, 0, 0), (15, .getfield 65, 3, 0, 7, 15), (18, .iload_n 1, 1, 0, 1, 0), (19, .iastore, 1, 0, 0, 0), (20, .aload_n 0, 1, 0, 0, 0), (21, .getfield 58, 3, 0, 7, 13), (24, .aload_n 0, 1, 0, 0, 0), (25, .getfield 65, 3, 0, 7, 15), (28, .iload_n 2, 1, 0, 2, 0), (29, .iastore, 1, 0, 0, 0), (30, .aload_n 0, 1, 0, 0, 0), (31, .dup, 1, 0, 0, 0), (32, .getfield 65, 3, 0, 7, 15), (35, .iconst 1, 1, 1, 0, 0), (36, .iadd, 1, 0, 0, 0), (37, .putfield 65, 3, 0, 7, 15), (40, .return_, 1, 0, 0, 0)]
def kX7_faults : List En := [(0, .aload_n 0, 1, 0, 0, 0), (1, .invokevirtual 82, 3, 0, 81, 0), (4, .aload_n 0, 1, 0, 0, 0), (5, .getfield 65, 3, 0, 7, 15), (8, .aload_n 0, 1, 0, 0, 0), (9, .invokevirtual 142, 3, 0, 60, 0), (12, .if_icmp .ne 7, 3, 0, 19, 0), (15, .iconst 0, 1, 0, 0, 0), (16, .goto 4, 3, 0, 20, 0), (19, .iconst 1, 1, 1, 0, 0), (20, .istore_n 1, 1, 0, 1, 0), (21, .iconst 1, 1, 1, 0, 0), (22, .istore_n 2, 1, 0, 2, 0), (23, .iload_n 2, 1, 0, 2, 0), (24, .aload_n 0, 1, 0, 0, 0), (25, .getfield 65, 3, 0, 7, 15), (28, .if_icmp .ge 40, 3, 0, 68, 0), (31, .aload_n 0, 1, 0, 0, 0), (32, .getfield 16, 3, 0, 7, 0), (35, .aload_n 0, 1, 0, 0, 0), (36, .getfield 55, 3, 0, 7, 12), (39, .iload_n 2, 1, 0, 2, 0), (40, .iconst 1, 1, 1, 0, 0), (41, .isub, 1, 0, 0, 0), (42, .iaload, 1, 0, 0, 0), (43, .aload_n 0, 1, 0, 0, 0), (44, .getfield 16, 3, 0, 7, 0), (47, .aload_n 0, 1, 0, 0, 0), (48, .getfield 55, 3, 0, 7, 12), (51, .iload_n 2, 1, 0, 2, 0), (52, .iaload, 1, 0, 0, 0), (53, .invokevirtual 114, 3, 0, 4, 0), (56, .ifCond .lt 6, 3, 0, 62, 0), (59, .iinc 1 1, 3, 1, 1, 0), (62, .iinc 2 1, 3, 1, 2, 0), (65, .goto (-42), 3, 0, 23, 0), (68, .iload_n 1, 1, 0, 1, 0), (69, .aload_n 0, 1, 0, 0, 0), (70, .invokevirtual 145, 3, 0, 84, 0), (73, .iadd, 1, 0, 0, 0), (74, .ireturn, 1, 0, 0, 0)]
def kX7_nodeFaults : List En := [(0, .iconst 0, 1, 0, 0, 0), (1, .istore_n 1, 1, 0, 1, 0), (2, .iconst 1, 1, 1, 0, 0), (3, .istore_n 2, 1, 0, 2, 0), (4, .iconst 1, 1, 1, 0, 0), (5, .istore_n 3, 1, 0, 3, 0), (6, .aload_n 0, 1, 0, 0, 0), (7, .aload_n 0, 1, 0, 0, 0), (8, .getfield 43, 3, 0, 7, 8), (11, .invokevirtual 78, 3, 0, 68, 0), (14, .istore 4, 2, 0, 4, 0), (16, .aload_n 0, 1, 0, 0, 0), (17, .getfield 68, 3, 0, 7, 16), (20, .iconst 0, 1, 0, 0, 0), (21, .aload_n 0, 1, 0, 0, 0), (22, .getfield 43, 3, 0, 7, 8), (25, .iastore, 1, 0, 0, 0), (26, .iconst 0, 1, 0, 0, 0), (27, .istore 5, 2, 0, 5, 0), (29, .iload 5, 2, 0, 5, 0), (31, .iload_n 2, 1, 0, 2, 0), (32, .if_icmp .ge 141, 3, 0, 173, 0), (35, .aload_n 0, 1, 0, 0, 0), (36, .getfield 68, 3, 0, 7, 16), (39, .iload 5, 2, 0, 5, 0), (41, .iaload, 1, 0, 0, 0), (42, .istore 6, 2, 0, 6, 0), (44, .iload 5, 2, 0, 5, 0), (46, .iload_n 3, 1, 0, 3, 0), (47, .if_icmp .ne 13, 3, 0, 60, 0), (50, .iload_n 2, 1, 0, 2, 0), (51, .istore_n 3, 1, 0, 3, 0), (52, .aload_n 0, 1, 0, 0, 0), (53, .iload 6, 2, 0, 6, 0), (55, .invokevirtual 78, 3, 0, 68, 0), (58, .istore 4, 2, 0, 4, 0), (60, .aload_n 0, 1, 0, 0, 0), (61, .getfield 34, 3, 0, 7, 5), (64, .iload 6, 2, 0, 6, 0), (66, .iaload, 1, 0, 0, 0), (67, .iconst 4, 1, 4, 0, 0), (68, .if_icmp .gt 23, 3, 0, 91, 0), (71, .aload_n 0, 1, 0, 0, 0), (72, .getfield 34, 3, 0, 7, 5), (75, .iload 6, 2, 0, 6, 0), (77, .iaload, 1, 0, 0, 0), (78, .iconst 2, 1, 2, 0, 0), (79, .if_icmp .ge 15, 3, 0, 94, 0), (82, .iload 6, 2, 0, 6, 0), (84, .aload_n 0, 1, 0, 0, 0), (85, .getfield 43, 3, 0, 7, 8), (88, .if_icmp .eq 6, 3, 0, 94, 0), (91, .iinc 1 1, 3, 1, 1, 0), (94, .aload_n 0, 1, 0, 0, 0), (95, .iload 6, 2, 0, 6, 0), (97, .invokevirtual 78, 3, 0, 68, 0), (100, .iload 4, 2, 0, 4, 0), (102, .if_icmp .eq 6, 3, 0, 108, 0), (105, .iinc 1 1, 3, 1, 1, 0), (108, .iconst 0, 1, 0, 0, 0), (109, .istore 7, 2, 0, 7, 0), (111, .iload 7, 2, 0, 7, 0), (113, .aload_n 0, 1, 0, 0, 0), (114, .getfield 34, 3, 0, 7, 5), (117, .iload 6, 2, 0, 6, 0), (119, .iaload, 1, 0, 0, 0), (120, .if_icmp .gt 47, 3, 0, 167, 0), (123, .aload_n 0, 1, 0, 0, 0), (124, .iload 6, 2, 0, 6, 0), (126, .invokevirtual 78, 3, 0, 68, 0), (129, .ifCond .ne 38, 3, 0, 167, 0), (132, .iload_n 2, 1, 0, 2, 0), (133, .sipush 348, 3, 348, 0, 0), (136, .if_icmp .ge 31, 3, 0, 167, 0), (139, .aload_n 0, 1, 0, 0, 0), (140, .getfield 68, 3, 0, 7, 16), (143, .iload_n 2, 1, 0, 2, 0), (144, .aload_n 0, 1, 0, 0, 0), (145, .getfield 31, 3, 0, 7, 4), (148, .iload 6, 2, 0, 6, 0), (150, .bipush 6, 2, 6, 0, 0), (152, .imul, 1, 0, 0, 0), (153, .iload 7, 2, 0, 7, 0), (155, .iadd, 1, 0, 0, 0), (156, .iaload, 1, 0, 0, 0), (157, .iastore, 1, 0, 0, 0), (158, .iinc 2 1, 3, 1, 2, 0), (161, .iinc 7 1, 3, 1, 7, 0), (164, .goto (-53), 3, 0, 111, 0), (167, .iinc 5 1, 3, 1, 5, 0), (170, .goto (-141), 3, 0, 29, 0), (173, .iload_n 2, 1, 0, 2, 0), (174, .aload_n 0, 1, 0, 0, 0), (175, .invokevirtual 148, 3, 0, 61, 0), (178, .if_icmp .ne 7, 3, 0, 185, 0), (181, .iload_n 1, 1, 0, 1, 0), (182, .goto 6, 3, 0, 188, 0), (185, .iload_n 1, 1, 0, 1, 0), (186, .iconst 1, 1, 1, 0, 0), (187, .iadd, 1, 0, 0, 0), (188, .ireturn, 1, 0, 0, 0)]
def kX8_init : List En := [(0, .aload_n 0, 1, 0, 0, 0), (1, .invokespecial 3, 3, 0, 902, 0), (4, .aload_n 0, 1, 0, 0, 0), (5, .new 9, 3, 0, 5, 0), (8, .dup, 1, 0, 0, 0), (9, .invokespecial 11, 3, 0, 49, 0), (12, .putfield 12, 3, 0, 8, 0), (15, .aload_n 0, 1, 0, 0, 0), (16, .new 9, 3, 0, 5, 0), (19, .dup, 1, 0, 0, 0), (20, .invokespecial 11, 3, 0, 49, 0), (23, .putfield 16, 3, 0, 8, 1), (26, .aload_n 0, 1, 0, 0, 0), (27, .bipush 8, 2, 8, 0, 0), (29, .anewarray 19, 3, 0, 12, 0), (32, .putfield 21, 3, 0, 8, 2), (35, .aload_n 0, 1, 0, 0, 0), (36, .bipush 6, 2, 6, 0, 0), (38, .anewarray 25, 3, 0, 13, 0), (41, .putfield 27, 3, 0, 8, 3), (44, .aload_n 0, 1, 0, 0, 0), (45, .new 31, 3, 0, 1, 0), (48, .dup, 1, 0, 0, 0), (49, .iconst 1, 1, 1, 0, 0), (50, .invokespecial 33, 3, 0, 5, 0), (53, .putfield 36, 3, 0, 8, 4), (56, .aload_n 0, 1, 0, 0, 0), (57, .new 31, 3, 0, 1, 0), (60, .dup, 1, 0, 0, 0), (61, .iconst 1, 1, 1, 0, 0), (62, .invokespecial 33, 3, 0, 5, 0), (65, .putfield 40, 3, 0, 8, 5), (68, .aload_n 0, 1, 0, 0, 0), (69, .iconst 4, 1, 4, 0, 0), (70, .newarray .int, 2, 0, 10, 0), (72, .putfield 43, 3, 0, 8, 6), (75, .aload_n 0, 1, 0, 0, 0), (76, .iconst 4, 1, 4, 0, 0), (77, .newarray .int, 2, 0, 10, 0), (79, .putfield 47, 3, 0, 8, 7), (82, .aload_n 0, 1, 0, 0, 0), (83, .sipush 320, 3, 320, 0, 0), (86, .newarray .int, 2, 0, 10, 0), (88, .putfield 50, 3, 0, 8, 8), (91, .aload_n 0, 1, 0, 0, 0), (92, .iconst 0, 1, 0, 0, 0), (93, .putfield 53, 3, 0, 8, 9), (96, .aload_n 0, 1, 0, 0, 0), (97, .iconst (-1), 1, (-1), 0, 0), (98, .putfield 57, 3, 0, 8, 10), (101, .aload_n 0, 1, 0, 0, 0), (102, .iconst 0, 1, 0, 0, 0), (103, .putfield 60, 3, 0, 8, 11), (106, .iconst 0, 1, 0, 0, 0), (107, .istore_n 1, 1, 0, 1, 0), (108, .iload_n 1, 1, 0, 1, 0), (109, .bipush 8, 2, 8, 0, 0), (111, .if_icmp .ge 22, 3, 0, 133, 0), (114, .aload_n 0, 1, 0, 0, 0), (115, .getfield 21, 3, 0, 8, 2), (118, .iload_n 1, 1, 0, 1, 0), (119, .new 19, 3, 0, 6, 0), (122, .dup, 1, 0, 0, 0), (123, .invokespecial 63, 3, 0, 54, 0), (126, .aastore, 1, 0, 0, 0), (127, .iinc 1 1, 3, 1, 1, 0), (130, .goto (-22), 3, 0, 108, 0), (133, .iconst 0, 1, 0, 0, 0), (134, .istore_n 1, 1, 0, 1, 0), (135, .iload_n 1, 1, 0, 1, 0), (136, .bipush 6, 2, 6, 0, 0), (138, .if_icmp .ge 22, 3, 0, 160, 0), (141, .aload_n 0, 1, 0, 0, 0), (142, .getfield 27, 3, 0, 8, 3), (145, .iload_n 1, 1, 0, 1, 0), (146, .new 25, 3, 0, 2, 0), (149, .dup, 1, 0, 0, 0), (150, .invokespecial 64, 3, 0, 13, 0), (153, .aastore, 1, 0, 0, 0), (154, .iinc 1 1, 3, 1, 1, 0), (157, .goto (-22), 3, 0, 135, 0), (160, .aload_n 0, 1, 0, 0, 0), (161, .getfield 43, 3, 0, 8, 6), (164, .ldc 65, 2, (-2147483648), 0, 0), (166, .invokestatic 66, 3, 0, 212, 0), (169, .aload_n 0, 1, 0, 0, 0), (170, .getfield 47, 3, 0, 8, 7), (173, .ldc 72, 2, 2147483647, 0, 0), (175, .invokestatic 66, 3, 0, 212, 0), (178, .return_, 1, 0, 0, 0)]
def kX8_begin : List En := [(0, .iconst 0, 1, 0, 0, 0), (1, .istore_n 1, 1, 0, 1, 0), (2, .iload_n 1, 1, 0, 1, 0), (3, .bipush 8, 2, 8, 0, 0), (5, .if_icmp .ge 43, 3, 0, 48, 0), (8, .aload_n 0, 1, 0, 0, 0), (9, .getfield 21, 3, 0, 8, 2), (12, .iload_n 1, 1, 0, 1, 0), (13, .aaload, 1, 0, 0, 0), (14, .getfield 73, 3, 0, 6, 0), (17, .ifCond .ne 25, 3, 0, 42, 0), (20, .aload_n 0, 1, 0, 0, 0), (21, .getfield 21, 3, 0, 8, 2), (24, .iload_n 1, 1, 0, 1, 0), (25, .aaload, 1, 0, 0, 0), (26, .iconst 1, 1, 1, 0, 0), (27, .putfield 73, 3, 0, 6, 0), (30, .aload_n 0, 1, 0, 0, 0), (31, .getfield 21, 3, 0, 8, 2), (34, .iload_n 1, 1, 0, 1, 0), (35, .aaload, 1, 0, 0, 0), (36, .iconst 0, 1, 0, 0, 0), (37, .putfield 77, 3, 0, 6, 1), (40, .iload_n 1, 1, 0, 1, 0), (41, .ireturn, 1, 0, 0, 0), (42, .iinc 1 1, 3, 1, 1, 0), (45, .goto (-43), 3, 0, 2, 0), (48, .bipush (-104), 2, (-104), 0, 0), (50, .ireturn, 1, 0, 0, 0)]
def kX8_insert : List En := [(0, .aload_n 0, 1, 0, 0, 0), (1, .iload_n 1, 1, 0, 1, 0), (2, .invokevirtual 80, 3, 0, 94, 0), (5, .ifCond .ne 6, 3, 0, 11, 0), (8, .bipush (-101), 2, (-101), 0, 0), (10, .ireturn, 1, 0, 0, 0), (11, .aload_n 0, 1, 0, 0, 0), (12, .invokevirtual 84, 3, 0, 99, 0), (15, .istore 6, 2, 0, 6, 0), (17, .iload 6, 2, 0, 6, 0), (19, .iconst (-1), 1, (-1), 0, 0), (20, .if_icmp .eq 15, 3, 0, 35, 0), (23, .aload_n 0, 1, 0, 0, 0), (24, .getfield 21, 3, 0, 8, 2), (27, .iload_n 1, 1, 0, 1, 0), (28, .aaload, 1, 0, 0, 0), (29, .invokevirtual 88, 3, 0, 55, 0), (32, .ifCond .eq 6, 3, 0, 38, 0), (35, .bipush (-104), 2, (-104), 0, 0), (37, .ireturn, 1, 0, 0, 0), (38, .aload_n 0, 1, 0, 0, 0), (39, .getfield 36, 3, 0, 8, 4), (42, .iconst 0, 1, 0, 0, 0), (43, .iload_n 2, 1, 0, 2, 0), (44, .iload_n 3, 1, 0, 3, 0), (45, .iload 4, 2, 0, 4, 0), (47, .iload 5, 2, 0, 5, 0), (49, .invokevirtual 92, 3, 0, 9, 0), (52, .aload_n 0, 1, 0, 0, 0), (53, .iload_n 1, 1, 0, 1, 0), (54, .iload 6, 2, 0, 6, 0), (56, .invokevirtual 96, 3, 0, 103, 0), (59, .ifCond .eq 6, 3, 0, 65, 0), (62, .bipush (-105), 2, (-105), 0, 0), (64, .ireturn, 1, 0, 0, 0), (65, .aload_n 0, 1, 0, 0, 0), (66, .iload_n 1, 1, 0, 1, 0), (67, .iload 6, 2, 0, 6, 0), (69, .invokevirtual 100, 3, 0, 100, 0), (72, .iload 6, 2, 0, 6, 0), (74, .ireturn, 1, 0, 0, 0)]
def kX8_update : List En := [(0, .aload_n 0, 1, 0, 0, 0), (1, .iload_n 1, 1, 0, 1, 0), (2, .invokevirtual 80, 3, 0, 94, 0), (5, .ifCond .ne 6, 3, 0, 11, 0), (8, .bipush (-101), 2, (-101), 0, 0), (10, .ireturn, 1, 0, 0, 0), (11, .iload_n 3, 1, 0, 3, 0), (12, .invokestatic 104, 3, 0, 96, 0), (15, .ifCond .ne 6, 3, 0, 21, 0), (18, .bipush (-102), 2, (-102), 0, 0), (20, .ireturn, 1, 0, 0, 0), (21, .aload_n 0, 1, 0, 0, 0), (22, .iload_n 1, 1, 0, 1, 0), (23, .iload_n 2, 1, 0, 2, 0), (24, .invokevirtual 107, 3, 0, 97, 0), (27, .ifCond .eq 6, 3, 0, 33, 0), (30, .bipush (-103), 2, (-103), 0, 0), (32, .ireturn, 1, 0, 0, 0), (33, .aload_n 0, 1, 0, 0, 0), (34, .iload_n 2, 1, 0, 2, 0), (35, .invokevirtual 110, 3, 0, 98, 0), (38, .ifCond .ne 6, 3, 0, 44, 0), (41, .bipush (-101), 2, (-101), 0, 0), (43, .ireturn, 1, 0, 0, 0), (44, .aload_n 0, 1, 0, 0, 0), (45, .getfield 12, 3, 0, 8, 0), (48, .getfield 113, 3, 0, 5, 1), (51, .iload_n 2, 1, 0, 2, 0), (52, .iload_n 3, 1, 0, 3, 0), (53, .invokevirtual 116, 3, 0, 7, 0), (56, .iload 4, 2, 0, 4, 0), (58, .if_icmp .ne 5, 3, 0, 63, 0), (61, .iconst 0, 1, 0, 0, 0), (62, .ireturn, 1, 0, 0, 0), (63, .aload_n 0, 1, 0, 0, 0), (64, .getfield 21, 3, 0, 8, 2), (67, .iload_n 1, 1, 0, 1, 0), (68, .aaload, 1, 0, 0, 0), (69, .invokevirtual 88, 3, 0, 55, 0), (72, .ifCond .eq 6, 3, 0, 78, 0), (75, .bipush (-104), 2, (-104), 0, 0), (77, .ireturn, 1, 0, 0, 0), (78, .aload_n 0, 1, 0, 0, 0), (79, .getfield 36, 3, 0, 8, 4), (82, .iconst 0, 1, 0, 0, 0), (83, .aload_n 0, 1, 0, 0, 0), (84, .getfield 12, 3, 0, 8, 0), (87, .getfield 113, 3, 0, 5, 1), (90, .iload_n 2, 1, 0, 2, 0), (91, .invokevirtual 120, 3, 0, 11, 0), (94, .aload_n 0, 1, 0, 0, 0), (95, .getfield 36, 3, 0, 8, 4), (98, .iconst 0, 1, 0, 0, 0), (99, .iload_n 3, 1, 0, 3, 0), (100, .iload 4, 2, 0, 4, 0), (102, .invokevirtual 124, 3, 0, 8, 0), (105, .aload_n 0, 1, 0, 0, 0), (106, .iload_n 1, 1, 0, 1, 0), (107, .iload_n 2, 1, 0, 2, 0), (108, .invokevirtual 96, 3, 0, 103, 0), (111, .ifCond .eq 6, 3, 0, 117, 0), (114, .bipush (-105), 2, (-105), 0, 0), (116, .ireturn, 1, 0, 0, 0), (117, .aload_n 0, 1, 0, 0, 0), (118, .iload_n 1, 1, 0, 1, 0), (119, .iload_n 2, 1, 0, 2, 0), (120, .invokevirtual 100, 3, 0, 100, 0), (123, .iconst 1, 1, 1, 0, 0), (124, .ireturn, 1, 0, 0, 0)]
def kX8_remove : List En := [(0, .aload_n 0, 1, 0, 0, 0), (1, .iload_n 1, 1, 0, 1, 0), (2, .invokevirtual 80, 3, 0, 94, 0), (5, .ifCond .ne 6, 3, 0, 11, 0), (8, .bipush (-101), 2, (-101), 0, 0), (10, .ireturn, 1, 0, 0, 0), (11, .aload_n 0, 1, 0, 0, 0), (12, .iload_n 1, 1, 0, 1, 0), (13, .iload_n 2, 1, 0, 2, 0), (14, .invokevirtual 107, 3, 0, 97, 0), (17, .ifCond .eq 6, 3, 0, 23, 0), (20, .bipush (-103), 2, (-103), 0, 0), (22, .ireturn, 1, 0, 0, 0), (23, .aload_n 0, 1, 0, 0, 0), (24, .iload_n 2, 1, 0, 2, 0), (25, .invokevirtual 110, 3, 0, 98, 0), (28, .ifCond .ne 6, 3, 0, 34, 0), (31, .bipush (-101), 2, (-101), 0, 0), (33, .ireturn, 1, 0, 0, 0), (34, .aload_n 0, 1, 0, 0, 0), (35, .getfield 21, 3, 0, 8, 2), (38, .iload_n 1, 1, 0, 1, 0), (39, .aaload, 1, 0, 0, 0), (40, .invokevirtual 88, 3, 0, 55, 0), (43, .ifCond .eq 6, 3, 0, 49, 0), (46, .bipush (-104), 2, (-104), 0, 0), (48, .ireturn, 1, 0, 0, 0), (49, .aload_n 0, 1, 0, 0, 0), (50, .getfield 36, 3, 0, 8, 4), (53, .iconst 0, 1, 0, 0, 0), (54, .invokevirtual 128, 3, 0, 10, 0), (57, .aload_n 0, 1, 0, 0, 0), (58, .iload_n 1, 1, 0, 1, 0), (59, .iload_n 2, 1, 0, 2, 0), (60, .invokevirtual 100, 3, 0, 100, 0), (63, .iconst 1, 1, 1, 0, 0), (64, .ireturn, 1, 0, 0, 0)]
def kX8_records : List En := [(0, .aload_n 0, 1, 0, 0, 0), (1, .iload_n 1, 1, 0, 1, 0), (2, .invokevirtual 80, 3, 0, 94, 0), (5, .ifCond .eq 15, 3, 0, 20, 0), (8, .aload_n 0, 1, 0, 0, 0), (9, .getfield 21, 3, 0, 8, 2), (12, .iload_n 1, 1, 0, 1, 0), (13, .aaload, 1, 0, 0, 0), (14, .getfield 77, 3, 0, 6, 1), (17, .goto 5, 3, 0, 22, 0), (20, .bipush (-101), 2, (-101), 0, 0), (22, .ireturn, 1, 0, 0, 0)]
def kX8_undo : List En := [(0, .aload_n 0, 1, 0, 0, 0), (1, .iload_n 1, 1, 0, 1, 0), (2, .invokevirtual 80, 3, 0, 94, 0), (5, .ifCond .ne 6, 3, 0, 11, 0), (8, .bipush (-101), 2, (-101), 0, 0), (10, .ireturn, 1, 0, 0, 0), (11, .iload_n 2, 1, 0, 2, 0), (12, .ifCond .lt 16, 3, 0, 28, 0), (15, .iload_n 2, 1, 0, 2, 0), (16, .aload_n 0, 1, 0, 0, 0), (17, .getfield 21, 3, 0, 8, 2), (20, .iload_n 1, 1, 0, 1, 0), (21, .aaload, 1, 0, 0, 0), (22, .getfield 77, 3, 0, 6, 1), (25, .if_icmp .le 6, 3, 0, 31, 0), (28, .bipush (-102), 2, (-102), 0, 0), (30, .ireturn, 1, 0, 0, 0), (31, .aload_n 0, 1, 0, 0, 0), (32, .iload_n 1, 1, 0, 1, 0), (33, .iload_n 2, 1, 0, 2, 0), (34, .invokevirtual 131, 3, 0, 104, 0), (37, .ifCond .eq 6, 3, 0, 43, 0), (40, .bipush (-105), 2, (-105), 0, 0), (42, .ireturn, 1, 0, 0, 0), (43, .aload_n 0, 1, 0, 0, 0), (44, .iload_n 1, 1, 0, 1, 0), (45, .iload_n 2, 1, 0, 2, 0), (46, .invokevirtual 134, 3, 0, 101, 0), (49, .ireturn, 1, 0, 0, 0)]
def kX8_commit : List En := [(0, .aload_n 0, 1, 0, 0, 0), (1, .iload_n 1, 1, 0, 1, 0), (2, .invokevirtual 80, 3, 0, 94, 0), (5, .ifCond .ne 6, 3, 0, 11, 0), (8, .bipush (-101), 2, (-101), 0, 0), (10, .ireturn, 1, 0, 0, 0), (11, .iconst 0, 1, 0, 0, 0), (12, .istore_n 2, 1, 0, 2, 0), (13, .iconst 0, 1, 0, 0, 0), (14, .istore_n 3, 1, 0, 3, 0), (15, .iload_n 3, 1, 0, 3, 0), (16, .sipush 320, 3, 320, 0, 0), (19, .if_icmp .ge 75, 3, 0, 94, 0), (22, .aload_n 0, 1, 0, 0, 0), (23, .getfield 12, 3, 0, 8, 0), (26, .getfield 137, 3, 0, 5, 2), (29, .iload_n 3, 1, 0, 3, 0), (30, .iaload, 1, 0, 0, 0), (31, .iload_n 1, 1, 0, 1, 0), (32, .if_icmp .ne 56, 3, 0, 88, 0), (35, .aload_n 0, 1, 0, 0, 0), (36, .getfield 40, 3, 0, 8, 5), (39, .iconst 0, 1, 0, 0, 0), (40, .aload_n 0, 1, 0, 0, 0), (41, .getfield 12, 3, 0, 8, 0), (44, .getfield 140, 3, 0, 5, 0), (47, .iload_n 3, 1, 0, 3, 0), (48, .invokevirtual 120, 3, 0, 11, 0), (51, .aload_n 0, 1, 0, 0, 0), (52, .getfield 12, 3, 0, 8, 0), (55, .getfield 140, 3, 0, 5, 0), (58, .iload_n 3, 1, 0, 3, 0), (59, .aload_n 0, 1, 0, 0, 0), (60, .getfield 12, 3, 0, 8, 0), (63, .getfield 113, 3, 0, 5, 1), (66, .iload_n 3, 1, 0, 3, 0), (67, .invokevirtual 120, 3, 0, 11, 0), (70, .aload_n 0, 1, 0, 0, 0), (71, .getfield 12, 3, 0, 8, 0), (74, .getfield 137, 3, 0, 5, 2), (77, .iload_n 3, 1, 0, 3, 0), (78, .iconst (-1), 1, (-1), 0, 0), (79, .iastore, 1, 0, 0, 0), (80, .aload_n 0, 1, 0, 0, 0), (81, .iload_n 3, 1, 0, 3, 0), (82, .invokevirtual 143, 3, 0, 102, 0), (85, .iinc 2 1, 3, 1, 2, 0), (88, .iinc 3 1, 3, 1, 3, 0), (91, .goto (-76), 3, 0, 15, 0), (94, .aload_n 0, 1, 0, 0, 0), (95, .getfield 21, 3, 0, 8, 2), (98, .iload_n 1, 1, 0, 1, 0), (99, .aaload, 1, 0, 0, 0), (100, .iconst 0, 1, 0, 0, 0), (101, .putfield 73, 3, 0, 6, 0), (104, .iload_n 2, 1, 0, 2, 0), (105, .ireturn, 1, 0, 0, 0)]
def kX8_abort : List En := [(0, .aload_n 0, 1, 0, 0, 0), (1, .iload_n 1, 1, 0, 1, 0), (2, .invokevirtual 80, 3, 0, 94, 0), (5, .ifCond .ne 6, 3, 0, 11, 0), (8, .bipush (-101), 2, (-101), 0, 0), (10, .ireturn, 1, 0, 0, 0), (11, .aload_n 0, 1, 0, 0, 0), (12, .iload_n 1, 1, 0, 1, 0), (13, .iconst 0, 1, 0, 0, 0), (14, .invokevirtual 134, 3, 0, 101, 0), (17, .istore_n 2, 1, 0, 2, 0), (18, .aload_n 0, 1, 0, 0, 0), (19, .getfield 21, 3, 0, 8, 2), (22, .iload_n 1, 1, 0, 1, 0), (23, .aaload, 1, 0, 0, 0), (24, .iconst 0, 1, 0, 0, 0), (25, .putfield 73, 3, 0, 6, 0), (28, .iload_n 2, 1, 0, 2, 0), (29, .ireturn, 1, 0, 0, 0)]
def kX8_isActive : List En := [(0, .iload_n 1, 1, 0, 1, 0), (1, .ifCond .lt 25, 3, 0, 26, 0), (4, .iload_n 1, 1, 0, 1, 0), (5, .bipush 8, 2, 8, 0, 0), (7, .if_icmp .ge 19, 3, 0, 26, 0), (10, .aload_n 0, 1, 0, 0, 0), (11, .getfield 21, 3, 0, 8, 2), (14, .iload_n 1, 1, 0, 1, 0), (15, .aaload, 1, 0, 0, 0), (16, .getfield 73, 3, 0, 6, 0), (19, .ifCond .eq 7, 3, 0, 26, 0), (22, .iconst 1, 1, 1, 0, 0), (23, .goto 4, 3, 0, 27, 0), (26, .iconst 0, 1, 0, 0, 0), (27, .ireturn, 1, 0, 0, 0)]
def kX8_isPlace : List En := [(0, .iload_n 0, 1, 0, 0, 0), (1, .ifCond .lt 14, 3, 0, 15, 0), (4, .iload_n 0, 1, 0, 0, 0), (5, .sipush 320, 3, 320, 0, 0), (8, .if_icmp .ge 7, 3, 0, 15, 0), (11, .iconst 1, 1, 1, 0, 0), (12, .goto 4, 3, 0, 16, 0), (15, .iconst 0, 1, 0, 0, 0), (16, .ireturn, 1, 0, 0, 0)]
def kX8_isField : List En := [(0, .iload_n 0, 1, 0, 0, 0), (1, .ifCond .lt 12, 3, 0, 13, 0), (4, .iload_n 0, 1, 0, 0, 0), (5, .iconst 4, 1, 4, 0, 0), (6, .if_icmp .ge 7, 3, 0, 13, 0), (9, .iconst 1, 1, 1, 0, 0), (10, .goto 4, 3, 0, 14, 0), (13, .iconst 0, 1, 0, 0, 0), (14, .ireturn, 1, 0, 0, 0)]
def kX8_isLocked : List En := [(0, .iload_n 2, 1, 0, 2, 0), (1, .invokestatic 146, 3, 0, 95, 0), (4, .ifCond .eq 33, 3, 0, 37, 0), (7, .aload_n 0, 1, 0, 0, 0), (8, .getfield 12, 3, 0, 8, 0), (11, .getfield 137, 3, 0, 5, 2), (14, .iload_n 2, 1, 0, 2, 0), (15, .iaload, 1, 0, 0, 0), (16, .iconst (-1), 1, (-1), 0, 0), (17, .if_icmp .eq 20, 3, 0, 37, 0), (20, .aload_n 0, 1, 0, 0, 0), (21, .getfield 12, 3, 0, 8, 0), (24, .getfield 137, 3, 0, 5, 2), (27, .iload_n 2, 1, 0, 2, 0), (28, .iaload, 1, 0, 0, 0), (29, .iload_n 1, 1, 0, 1, 0), (30, .if_icmp .eq 7, 3, 0, 37, 0), (33, .iconst 1, 1, 1, 0, 0), (34, .goto 4, 3, 0, 38, 0), (37, .iconst 0, 1, 0, 0, 0), (38, .ireturn, 1, 0, 0, 0)]
def kX8_hasRow : List En := [(0, .iload_n 1, 1, 0, 1, 0), (1, .invokestatic 146, 3, 0, 95, 0), (4, .ifCond .eq 21, 3, 0, 25, 0), (7, .aload_n 0, 1, 0, 0, 0), (8, .getfield 12, 3, 0, 8, 0), (11, .getfield 113, 3, 0, 5, 1), (14, .iload_n 1, 1, 0, 1, 0), (15, .invokevirtual 149, 3, 0, 6, 0), (18, .ifCond .eq 7, 3, 0, 25, 0), (21, .iconst 1, 1, 1, 0, 0), (22, .goto 4, 3, 0, 26, 0), (25, .iconst 0, 1, 0, 0, 0), (26, .ireturn, 1, 0, 0, 0)]
def kX8_leastFreePlace : List En := [(0, .iconst 0, 1, 0, 0, 0), (1, .istore_n 1, 1, 0, 1, 0), (2, .iload_n 1, 1, 0, 1, 0), (3, .sipush 320, 3, 320, 0, 0), (6, .if_icmp .ge 22, 3, 0, 28, 0), (9, .aload_n 0, 1, 0, 0, 0), (10, .getfield 12, 3, 0, 8, 0), (13, .iload_n 1, 1, 0, 1, 0), (14, .invokevirtual 152, 3, 0, 51, 0), (17, .ifCond .eq 5, 3, 0, 22, 0), (20, .iload_n 1, 1, 0, 1, 0), (21, .ireturn, 1, 0, 0, 0), (22, .iinc 1 1, 3, 1, 1, 0), (25, .goto (-23), 3, 0, 2, 0), (28, .iconst (-1), 1, (-1), 0, 0), (29, .ireturn, 1, 0, 0, 0)]
def kX8_write : List En := [(0, .aload_n 0, 1, 0, 0, 0), (1, .getfield 21, 3, 0, 8, 2), (4, .iload_n 1, 1, 0, 1, 0), (5, .aaload, 1, 0, 0, 0), (6, .aload_n 0, 1, 0, 0, 0), (7, .getfield 12, 3, 0, 8, 0), (10, .iload_n 2, 1, 0, 2, 0), (11, .invokevirtual 155, 3, 0, 56, 0), (14, .aload_n 0, 1, 0, 0, 0), (15, .getfield 40, 3, 0, 8, 5), (18, .iconst 0, 1, 0, 0, 0), (19, .aload_n 0, 1, 0, 0, 0), (20, .getfield 12, 3, 0, 8, 0), (23, .getfield 113, 3, 0, 5, 1), (26, .iload_n 2, 1, 0, 2, 0), (27, .invokevirtual 120, 3, 0, 11, 0), (30, .aload_n 0, 1, 0, 0, 0), (31, .getfield 12, 3, 0, 8, 0), (34, .getfield 113, 3, 0, 5, 1), (37, .iload_n 2, 1, 0, 2, 0), (38, .aload_n 0, 1, 0, 0, 0), (39, .getfield 36, 3, 0, 8, 4), (42, .iconst 0, 1, 0, 0, 0), (43, .invokevirtual 120, 3, 0, 11, 0), (46, .aload_n 0, 1, 0, 0, 0), (47, .getfield 12, 3, 0, 8, 0), (50, .getfield 137, 3, 0, 5, 2), (53, .iload_n 2, 1, 0, 2, 0), (54, .iload_n 1, 1, 0, 1, 0), (55, .iastore, 1, 0, 0, 0), (56, .aload_n 0, 1, 0, 0, 0), (57, .iload_n 2, 1, 0, 2, 0), (58, .invokevirtual 143, 3, 0, 102, 0), (61, .return_, 1, 0, 0, 0)]
def kX8_undoTo : List En := [(0, .aload_n 0, 1, 0, 0, 0), (1, .getfield 21, 3, 0, 8, 2), (4, .iload_n 1, 1, 0, 1, 0), (5, .aaload, 1, 0, 0, 0), (6, .astore_n 3, 1, 0, 3, 0), (7, .aload_n 3, 1, 0, 3, 0), (8, .getfield 77, 3, 0, 6, 1), (11, .iload_n 2, 1, 0, 2, 0), (12, .isub, 1, 0, 0, 0), (13, .istore 4, 2, 0, 4, 0), (15, .aload_n 3, 1, 0, 3, 0), (16, .getfield 77, 3, 0, 6, 1), (19, .iconst 1, 1, 1, 0, 0), (20, .isub, 1, 0, 0, 0), (21, .istore 5, 2, 0, 5, 0), (23, .iload 5, 2, 0, 5, 0), (25, .iload_n 2, 1, 0, 2, 0), (26, .if_icmp .lt 51, 3, 0, 77, 0), (29, .aload_n 3, 1, 0, 3, 0), (30, .getfield 159, 3, 0, 6, 2), (33, .iload 5, 2, 0, 5, 0), (35, .iaload, 1, 0, 0, 0), (36, .istore 6, 2, 0, 6, 0), (38, .aload_n 0, 1, 0, 0, 0), (39, .getfield 40, 3, 0, 8, 5), (42, .iconst 0, 1, 0, 0, 0), (43, .aload_n 0, 1, 0, 0, 0), (44, .getfield 12, 3, 0, 8, 0), (47, .getfield 113, 3, 0, 5, 1), (50, .iload 6, 2, 0, 6, 0), (52, .invokevirtual 120, 3, 0, 11, 0), (55, .aload_n 3, 1, 0, 3, 0), (56, .aload_n 0, 1, 0, 0, 0), (57, .getfield 12, 3, 0, 8, 0), (60, .iload 5, 2, 0, 5, 0), (62, .invokevirtual 162, 3, 0, 57, 0), (65, .aload_n 0, 1, 0, 0, 0), (66, .iload 6, 2, 0, 6, 0), (68, .invokevirtual 143, 3, 0, 102, 0), (71, .iinc 5 (-1), 3, (-1), 5, 0), (74, .goto (-51), 3, 0, 23, 0), (77, .aload_n 3, 1, 0, 3, 0), (78, .iload_n 2, 1, 0, 2, 0), (79, .putfield 77, 3, 0, 6, 1), (82, .iload 4, 2, 0, 4, 0), (84, .ireturn, 1, 0, 0, 0)]
def kX8_tellIndexes : List En := [(0, .iconst 0, 1, 0, 0, 0), (1, .istore_n 2, 1, 0, 2, 0), (2, .iload_n 2, 1, 0, 2, 0), (3, .bipush 6, 2, 6, 0, 0), (5, .if_icmp .ge 86, 3, 0, 91, 0), (8, .aload_n 0, 1, 0, 0, 0), (9, .getfield 27, 3, 0, 8, 3), (12, .iload_n 2, 1, 0, 2, 0), (13, .aaload, 1, 0, 0, 0), (14, .getfield 165, 3, 0, 2, 0), (17, .ifCond .ne 6, 3, 0, 23, 0), (20, .goto 65, 3, 0, 85, 0), (23, .aload_n 0, 1, 0, 0, 0), (24, .getfield 27, 3, 0, 8, 3), (27, .iload_n 2, 1, 0, 2, 0), (28, .aaload, 1, 0, 0, 0), (29, .aload_n 0, 1, 0, 0, 0), (30, .getfield 12, 3, 0, 8, 0), (33, .iload_n 1, 1, 0, 1, 0), (34, .aload_n 0, 1, 0, 0, 0), (35, .getfield 40, 3, 0, 8, 5), (38, .invokevirtual 168, 3, 0, 21, 0), (41, .ifCond .eq 13, 3, 0, 54, 0), (44, .aload_n 0, 1, 0, 0, 0), (45, .getfield 27, 3, 0, 8, 3), (48, .iload_n 2, 1, 0, 2, 0), (49, .aaload, 1, 0, 0, 0), (50, .iconst 1, 1, 1, 0, 0), (51, .invokevirtual 172, 3, 0, 23, 0), (54, .aload_n 0, 1, 0, 0, 0), (55, .getfield 27, 3, 0, 8, 3), (58, .iload_n 2, 1, 0, 2, 0), (59, .aaload, 1, 0, 0, 0), (60, .aload_n 0, 1, 0, 0, 0), (61, .getfield 12, 3, 0, 8, 0), (64, .iload_n 1, 1, 0, 1, 0), (65, .aload_n 0, 1, 0, 0, 0), (66, .getfield 40, 3, 0, 8, 5), (69, .invokevirtual 176, 3, 0, 22, 0), (72, .ifCond .eq 13, 3, 0, 85, 0), (75, .aload_n 0, 1, 0, 0, 0), (76, .getfield 27, 3, 0, 8, 3), (79, .iload_n 2, 1, 0, 2, 0), (80, .aaload, 1, 0, 0, 0), (81, .iconst 0, 1, 0, 0, 0), (82, .invokevirtual 172, 3, 0, 23, 0), (85, .iinc 2 1, 3, 1, 2, 0), (88, .goto (-86), 3, 0, 2, 0), (91, .return_, 1, 0, 0, 0)]
def kX8_wouldClash : List En := [(0, .aload_n 0, 1, 0, 0, 0), (1, .invokevirtual 179, 3, 0, 105, 0), (4, .ifCond .ne 5, 3, 0, 9, 0), (7, .iconst 0, 1, 0, 0, 0), (8, .ireturn, 1, 0, 0, 0), (9, .aload_n 0, 1, 0, 0, 0), (10, .getfield 16, 3, 0, 8, 1), (13, .aload_n 0, 1, 0, 0, 0), (14, .getfield 12, 3, 0, 8, 0), (17, .invokevirtual 182, 3, 0, 50, 0), (20, .aload_n 0, 1, 0, 0, 0), (21, .getfield 16, 3, 0, 8, 1), (24, .getfield 113, 3, 0, 5, 1), (27, .iload_n 2, 1, 0, 2, 0), (28, .aload_n 0, 1, 0, 0, 0), (29, .getfield 36, 3, 0, 8, 4), (32, .iconst 0, 1, 0, 0, 0), (33, .invokevirtual 120, 3, 0, 11, 0), (36, .aload_n 0, 1, 0, 0, 0), (37, .getfield 16, 3, 0, 8, 1), (40, .getfield 137, 3, 0, 5, 2), (43, .iload_n 2, 1, 0, 2, 0), (44, .iload_n 1, 1, 0, 1, 0), (45, .iastore, 1, 0, 0, 0), (46, .aload_n 0, 1, 0, 0, 0), (47, .aload_n 0, 1, 0, 0, 0), (48, .getfield 16, 3, 0, 8, 1), (51, .iload_n 2, 1, 0, 2, 0), (52, .invokevirtual 186, 3, 0, 106, 0), (55, .ireturn, 1, 0, 0, 0)]
def kX8_undoWouldClash : List En := [(0, .aload_n 0, 1, 0, 0, 0), (1, .invokevirtual 179, 3, 0, 105, 0), (4, .ifCond .ne 5, 3, 0, 9, 0), (7, .iconst 0, 1, 0, 0, 0), (8, .ireturn, 1, 0, 0, 0), (9, .aload_n 0, 1, 0, 0, 0), (10, .getfield 16, 3, 0, 8, 1), (13, .aload_n 0, 1, 0, 0, 0), (14, .getfield 12, 3, 0, 8, 0), (17, .invokevirtual 182, 3, 0, 50, 0), (20, .aload_n 0, 1, 0, 0, 0), (21, .getfield 21, 3, 0, 8, 2), (24, .iload_n 1, 1, 0, 1, 0), (25, .aaload, 1, 0, 0, 0), (26, .getfield 77, 3, 0, 6, 1), (29, .iconst 1, 1, 1, 0, 0), (30, .isub, 1, 0, 0, 0), (31, .istore_n 3, 1, 0, 3, 0), (32, .iload_n 3, 1, 0, 3, 0), (33, .iload_n 2, 1, 0, 2, 0), (34, .if_icmp .lt 23, 3, 0, 57, 0), (37, .aload_n 0, 1, 0, 0, 0), (38, .getfield 21, 3, 0, 8, 2), (41, .iload_n 1, 1, 0, 1, 0), (42, .aaload, 1, 0, 0, 0), (43, .aload_n 0, 1, 0, 0, 0), (44, .getfield 16, 3, 0, 8, 1), (47, .iload_n 3, 1, 0, 3, 0), (48, .invokevirtual 162, 3, 0, 57, 0), (51, .iinc 3 (-1), 3, (-1), 3, 0), (54, .goto (-22), 3, 0, 32, 0), (57, .iconst 0, 1, 0, 0, 0), (58, .istore_n 3, 1, 0, 3, 0), (59, .iload_n 3, 1, 0, 3, 0), (60, .sipush 320, 3, 320, 0, 0), (63, .if_icmp .ge 36, 3, 0, 99, 0), (66, .aload_n 0, 1, 0, 0, 0), (67, .getfield 12, 3, 0, 8, 0), (70, .getfield 137, 3, 0, 5, 2), (73, .iload_n 3, 1, 0, 3, 0), (74, .iaload, 1, 0, 0, 0), (75, .iload_n 1, 1, 0, 1, 0), (76, .if_icmp .ne 17, 3, 0, 93, 0), (79, .aload_n 0, 1, 0, 0, 0), (80, .aload_n 0, 1, 0, 0, 0), (81, .getfield 16, 3, 0, 8, 1), (84, .iload_n 3, 1, 0, 3, 0), (85, .invokevirtual 186, 3, 0, 106, 0), (88, .ifCond .eq 5, 3, 0, 93, 0), (91, .iconst 1, 1, 1, 0, 0), (92, .ireturn, 1, 0, 0, 0), (93, .iinc 3 1, 3, 1, 3, 0), (96, .goto (-37), 3, 0, 59, 0), (99, .iconst 0, 1, 0, 0, 0), (100, .ireturn, 1, 0, 0, 0)]
def kX8_hasGuard : List En := [(0, .iconst 0, 1, 0, 0, 0), (1, .istore_n 1, 1, 0, 1, 0), (2, .iload_n 1, 1, 0, 1, 0), (3, .bipush 6, 2, 6, 0, 0), (5, .if_icmp .ge 23, 3, 0, 28, 0), (8, .aload_n 0, 1, 0, 0, 0), (9, .getfield 27, 3, 0, 8, 3), (12, .iload_n 1, 1, 0, 1, 0), (13, .aaload, 1, 0, 0, 0), (14, .invokevirtual 190, 3, 0, 17, 0), (17, .ifCond .eq 5, 3, 0, 22, 0), (20, .iconst 1, 1, 1, 0, 0), (21, .ireturn, 1, 0, 0, 0), (22, .iinc 1 1, 3, 1, 1, 0), (25, .goto (-23), 3, 0, 2, 0), (28, .iconst 0, 1, 0, 0, 0), (29, .ireturn, 1, 0, 0, 0)]
def kX8_clashesIn : List En := [(0, .iconst 0, 1, 0, 0, 0), (1, .istore_n 3, 1, 0, 3, 0), (2, .iload_n 3, 1, 0, 3, 0), (3, .bipush 6, 2, 6, 0, 0), (5, .if_icmp .ge 38, 3, 0, 43, 0), (8, .aload_n 0, 1, 0, 0, 0), (9, .getfield 27, 3, 0, 8, 3), (12, .iload_n 3, 1, 0, 3, 0), (13, .aaload, 1, 0, 0, 0), (14, .invokevirtual 190, 3, 0, 17, 0), (17, .ifCond .eq 20, 3, 0, 37, 0), (20, .aload_n 0, 1, 0, 0, 0), (21, .getfield 27, 3, 0, 8, 3), (24, .iload_n 3, 1, 0, 3, 0), (25, .aaload, 1, 0, 0, 0), (26, .aload_n 1, 1, 0, 1, 0), (27, .iload_n 2, 1, 0, 2, 0), (28, .invokevirtual 193, 3, 0, 31, 0), (31, .iconst (-1), 1, (-1), 0, 0), (32, .if_icmp .eq 5, 3, 0, 37, 0), (35, .iconst 1, 1, 1, 0, 0), (36, .ireturn, 1, 0, 0, 0), (37, .iinc 3 1, 3, 1, 3, 0), (40, .goto (-38), 3, 0, 2, 0), (43, .iconst 0, 1, 0, 0, 0), (44, .ireturn, 1, 0, 0, 0)]
def kX8_index : List En := [(0, .iload_n 1, 1, 0, 1, 0), (1, .iload_n 2, 1, 0, 2, 0), (2, .iload_n 3, 1, 0, 3, 0), (3, .invokestatic 197, 3, 0, 113, 0), (6, .ifCond .ne 6, 3, 0, 12, 0), (9, .bipush (-102), 2, (-102), 0, 0), (11, .ireturn, 1, 0, 0, 0), (12, .iconst 0, 1, 0, 0, 0), (13, .istore 5, 2, 0, 5, 0), (15, .iload 5, 2, 0, 5, 0), (17, .bipush 6, 2, 6, 0, 0), (19, .if_icmp .ge 40, 3, 0, 59, 0), (22, .aload_n 0, 1, 0, 0, 0), (23, .getfield 27, 3, 0, 8, 3), (26, .iload 5, 2, 0, 5, 0), (28, .aaload, 1, 0, 0, 0), (29, .getfield 165, 3, 0, 2, 0), (32, .ifCond .ne 21, 3, 0, 53, 0), (35, .aload_n 0, 1, 0, 0, 0), (36, .getfield 27, 3, 0, 8, 3), (39, .iload 5, 2, 0, 5, 0), (41, .aaload, 1, 0, 0, 0), (42, .iload_n 1, 1, 0, 1, 0), (43, .iload_n 2, 1, 0, 2, 0), (44, .iload_n 3, 1, 0, 3, 0), (45, .iload 4, 2, 0, 4, 0), (47, .invokevirtual 201, 3, 0, 14, 0), (50, .iload 5, 2, 0, 5, 0), (52, .ireturn, 1, 0, 0, 0), (53, .iinc 5 1, 3, 1, 5, 0), (56, .goto (-41), 3, 0, 15, 0), (59, .bipush (-104), 2, (-104), 0, 0), (61, .ireturn, 1, 0, 0, 0)]
def kX8_drop : List En := [(0, .aload_n 0, 1, 0, 0, 0), (1, .iload_n 1, 1, 0, 1, 0), (2, .invokevirtual 205, 3, 0, 112, 0), (5, .ifCond .ne 6, 3, 0, 11, 0), (8, .bipush (-101), 2, (-101), 0, 0), (10, .ireturn, 1, 0, 0, 0), (11, .aload_n 0, 1, 0, 0, 0), (12, .getfield 27, 3, 0, 8, 3), (15, .iload_n 1, 1, 0, 1, 0), (16, .aaload, 1, 0, 0, 0), (17, .iconst 0, 1, 0, 0, 0), (18, .putfield 165, 3, 0, 2, 0), (21, .iconst 1, 1, 1, 0, 0), (22, .ireturn, 1, 0, 0, 0)]
def kX8_step : List En := [(0, .aload_n 0, 1, 0, 0, 0), (1, .iload_n 1, 1, 0, 1, 0), (2, .invokevirtual 205, 3, 0, 112, 0), (5, .ifCond .ne 6, 3, 0, 11, 0), (8, .bipush (-101), 2, (-101), 0, 0), (10, .ireturn, 1, 0, 0, 0), (11, .iload_n 2, 1, 0, 2, 0), (12, .iconst 1, 1, 1, 0, 0), (13, .if_icmp .lt 10, 3, 0, 23, 0), (16, .iload_n 2, 1, 0, 2, 0), (17, .sipush 1000, 3, 1000, 0, 0), (20, .if_icmp .le 6, 3, 0, 26, 0), (23, .bipush (-102), 2, (-102), 0, 0), (25, .ireturn, 1, 0, 0, 0), (26, .iconst 0, 1, 0, 0, 0), (27, .istore_n 3, 1, 0, 3, 0), (28, .iload_n 3, 1, 0, 3, 0), (29, .iload_n 2, 1, 0, 2, 0), (30, .if_icmp .ge 34, 3, 0, 64, 0), (33, .aload_n 0, 1, 0, 0, 0), (34, .getfield 27, 3, 0, 8, 3), (37, .iload_n 1, 1, 0, 1, 0), (38, .aaload, 1, 0, 0, 0), (39, .invokevirtual 208, 3, 0, 16, 0), (42, .ifCond .eq 22, 3, 0, 64, 0), (45, .aload_n 0, 1, 0, 0, 0), (46, .getfield 27, 3, 0, 8, 3), (49, .iload_n 1, 1, 0, 1, 0), (50, .aaload, 1, 0, 0, 0), (51, .aload_n 0, 1, 0, 0, 0), (52, .getfield 12, 3, 0, 8, 0), (55, .invokevirtual 211, 3, 0, 25, 0), (58, .iinc 3 1, 3, 1, 3, 0), (61, .goto (-33), 3, 0, 28, 0), (64, .aload_n 0, 1, 0, 0, 0), (65, .getfield 27, 3, 0, 8, 3), (68, .iload_n 1, 1, 0, 1, 0), (69, .aaload, 1, 0, 0, 0), (70, .getfield 214, 3, 0, 2, 4), (73, .ireturn, 1, 0, 0, 0)]
def kX8_info : List En := [(0, .aload_n 0, 1, 0, 0, 0), (1, .iload_n 1, 1, 0, 1, 0), (2, .invokevirtual 205, 3, 0, 112, 0), (5, .ifCond .ne 6, 3, 0, 11, 0), (8, .bipush (-101), 2, (-101), 0, 0), (10, .ireturn, 1, 0, 0, 0), (11, .aload_n 0, 1, 0, 0, 0), (12, .getfield 27, 3, 0, 8, 3), (15, .iload_n 1, 1, 0, 1, 0), (16, .aaload, 1, 0, 0, 0), (17, .astore_n 3, 1, 0, 3, 0), (18, .iload_n 2, 1, 0, 2, 0), (19, .tableswitch 165 0 13 #[69, 74, 87, 92, 99, 106, 113, 121, 129, 137, 145, 150, 155, 160], 69, 0, 0, 0), (88, .aload_n 3, 1, 0, 3, 0), (89, .getfield 214, 3, 0, 2, 4), (92, .ireturn, 1, 0, 0, 0), (93, .aload_n 3, 1, 0, 3, 0), (94, .getfield 217, 3, 0, 2, 1), (97, .ifCond .eq 7, 3, 0, 104, 0), (100, .iconst 1, 1, 1, 0, 0), (101, .goto 4, 3, 0, 105, 0), (104, .iconst 0, 1, 0, 0, 0), (105, .ireturn, 1, 0, 0, 0), (106, .aload_n 3, 1, 0, 3, 0), (107, .getfield 220, 3, 0, 2, 2), (110, .ireturn, 1, 0, 0, 0), (111, .aload_n 3, 1, 0, 3, 0), (112, .getfield 223, 3, 0, 2, 3), (115, .iconst 0, 1, 0, 0, 0), (116, .iaload, 1, 0, 0, 0), (117, .ireturn, 1, 0, 0, 0), (118, .aload_n 3, 1, 0, 3, 0), (119, .getfield 223, 3, 0, 2, 3), (122, .iconst 1, 1, 1, 0, 0), (123, .iaload, 1, 0, 0, 0), (124, .ireturn, 1, 0, 0, 0), (125, .aload_n 3, 1, 0, 3, 0), (126, .getfield 223, 3, 0, 2, 3), (129, .iconst 2, 1, 2, 0, 0), (130, .iaload, 1, 0, 0, 0), (131, .ireturn, 1, 0, 0, 0), (132, .aload_n 3, 1, 0, 3, 0), (133, .getfield 226, 3, 0, 2, 9), (136, .invokevirtual 230, 3, 0, 60, 0), (139, .ireturn, 1, 0, 0, 0), (140, .aload_n 3, 1, 0, 3, 0), (141, .getfield 226, 3, 0, 2, 9), (144, .invokevirtual 234, 3, 0, 62, 0), (147, .ireturn, 1, 0, 0, 0), (148, .aload_n 3, 1, 0, 3, 0), (149, .getfield 226, 3, 0, 2, 9), (152, .invokevirtual 237, 3, 0, 61, 0), (155, .ireturn, 1, 0, 0, 0), (156, .aload_n 3, 1, 0, 3, 0), (157, .getfield 240, 3, 0, 2, 10), (160, .getfield 244, 3, 0, 3, 2), (163, .ireturn, 1, 0, 0, 0), (164, .aload_n 3, 1, 0, 3, 0), (165, .getfield 247, 3, 0, 2, 5), (168, .ireturn, 1, 0, 0, 0), (169, .aload_n 3, 1, 0, 3, 0), (170, .getfield 250, 3, 0, 2, 6), (173, .ireturn, 1, 0, 0, 0), (174, .aload_n 3, 1, 0, 3, 0), (175, .getfield 253, 3, 0, 2, 7), (178, .ireturn, 1, 0, 0, 0), (179, .aload_n 3, 1, 0, 3, 0), (180, .getfield 256, 3, 0, 2, 8), (183, .ireturn, 1, 0, 0, 0), (184, .bipush (-102), 2, (-102), 0, 0), (186, .ireturn, 1, 0, 0, 0)]
def kX8_entry : List En := [(0, .aload_n 0, 1, 0, 0, 0), (1, .iload_n 1, 1, 0, 1, 0), (2, .invokevirtual 205, 3, 0, 112, 0), (5, .ifCond .ne 6, 3, 0, 11, 0), (8, .bipush (-101), 2, (-101), 0, 0), (10, .ireturn, 1, 0, 0, 0), (11, .aload_n 0, 1, 0, 0, 0), (12, .getfield 27, 3, 0, 8, 3), (15, .iload_n 1, 1, 0, 1, 0), (16, .aaload, 1, 0, 0, 0), (17, .getfield 226, 3, 0, 2, 9), (20, .astore 4, 2, 0, 4, 0), (22, .iload_n 2, 1, 0, 2, 0), (23, .ifCond .lt 12, 3, 0, 35, 0), (26, .iload_n 2, 1, 0, 2, 0), (27, .aload 4, 2, 0, 4, 0), (29, .invokevirtual 230, 3, 0, 60, 0), (32, .if_icmp .lt 6, 3, 0, 38, 0), (35, .bipush (-101), 2, (-101), 0, 0), (37, .ireturn, 1, 0, 0, 0), (38, .iload_n 3, 1, 0, 3, 0), (39, .tableswitch 58 0 4 #[33, 41, 41, 41, 51], 33, 0, 0, 0), (72, .aload 4, 2, 0, 4, 0), (74, .iload_n 2, 1, 0, 2, 0), (75, .iconst 3, 1, 3, 0, 0), (76, .invokevirtual 261, 3, 0, 63, 0), (79, .ireturn, 1, 0, 0, 0), (80, .aload 4, 2, 0, 4, 0), (82, .iload_n 2, 1, 0, 2, 0), (83, .iload_n 3, 1, 0, 3, 0), (84, .iconst 1, 1, 1, 0, 0), (85, .isub, 1, 0, 0, 0), (86, .invokevirtual 261, 3, 0, 63, 0), (89, .ireturn, 1, 0, 0, 0), (90, .aload 4, 2, 0, 4, 0), (92, .iload_n 2, 1, 0, 2, 0), (93, .invokevirtual 264, 3, 0, 64, 0), (96, .ireturn, 1, 0, 0, 0), (97, .bipush (-102), 2, (-102), 0, 0), (99, .ireturn, 1, 0, 0, 0)]
def kX8_isIndex : List En := [(0, .iload_n 1, 1, 0, 1, 0), (1, .ifCond .lt 25, 3, 0, 26, 0), (4, .iload_n 1, 1, 0, 1, 0), (5, .bipush 6, 2, 6, 0, 0), (7, .if_icmp .ge 19, 3, 0, 26, 0), (10, .aload_n 0, 1, 0, 0, 0), (11, .getfield 27, 3, 0, 8, 3), (14, .iload_n 1, 1, 0, 1, 0), (15, .aaload, 1, 0, 0, 0), (16, .getfield 165, 3, 0, 2, 0), (19, .ifCond .eq 7, 3, 0, 26, 0), (22, .iconst 1, 1, 1, 0, 0), (23, .goto 4, 3, 0, 27, 0), (26, .iconst 0, 1, 0, 0, 0), (27, .ireturn, 1, 0, 0, 0)]
def kX8_isKey : List En := [(0, .iload_n 0, 1, 0, 0, 0), (1, .invokestatic 104, 3, 0, 96, 0), (4, .ifCond .ne 5, 3, 0, 9, 0), (7, .iconst 0, 1, 0, 0, 0), (8, .ireturn, 1, 0, 0, 0), (9, .iload_n 1, 1, 0, 1, 0), (10, .iconst (-1), 1, (-1), 0, 0), (11, .if_icmp .ne 14, 3, 0, 25, 0), (14, .iload_n 2, 1, 0, 2, 0), (15, .iconst (-1), 1, (-1), 0, 0), (16, .if_icmp .ne 7, 3, 0, 23, 0), (19, .iconst 1, 1, 1, 0, 0), (20, .goto 4, 3, 0, 24, 0), (23, .iconst 0, 1, 0, 0, 0), (24, .ireturn, 1, 0, 0, 0), (25, .iload_n 1, 1, 0, 1, 0), (26, .invokestatic 104, 3, 0, 96, 0), (29, .ifCond .eq 8, 3, 0, 37, 0), (32, .iload_n 1, 1, 0, 1, 0), (33, .iload_n 0, 1, 0, 0, 0), (34, .if_icmp .ne 5, 3, 0, 39, 0), (37, .iconst 0, 1, 0, 0, 0), (38, .ireturn, 1, 0, 0, 0), (39, .iload_n 2, 1, 0, 2, 0), (40, .iconst (-1), 1, (-1), 0, 0), (41, .if_icmp .eq 20, 3, 0, 61, 0), (44, .iload_n 2, 1, 0, 2, 0), (45, .invokestatic 104, 3, 0, 96, 0), (48, .ifCond .eq 17, 3, 0, 65, 0), (51, .iload_n 2, 1, 0, 2, 0), (52, .iload_n 0, 1, 0, 0, 0), (53, .if_icmp .eq 12, 3, 0, 65, 0), (56, .iload_n 2, 1, 0, 2, 0), (57, .iload_n 1, 1, 0, 1, 0), (58, .if_icmp .eq 7, 3, 0, 65, 0), (61, .iconst 1, 1, 1, 0, 0), (62, .goto 4, 3, 0, 66, 0), (65, .iconst 0, 1, 0, 0, 0), (66, .ireturn, 1, 0, 0, 0)]
def kX8_where : List En := [(0, .iload_n 1, 1, 0, 1, 0), (1, .invokestatic 104, 3, 0, 96, 0), (4, .ifCond .ne 6, 3, 0, 10, 0), (7, .bipush (-102), 2, (-102), 0, 0), (9, .ireturn, 1, 0, 0, 0), (10, .aload_n 0, 1, 0, 0, 0), (11, .getfield 43, 3, 0, 8, 6), (14, .iload_n 1, 1, 0, 1, 0), (15, .iload_n 2, 1, 0, 2, 0), (16, .iastore, 1, 0, 0, 0), (17, .aload_n 0, 1, 0, 0, 0), (18, .getfield 47, 3, 0, 8, 7), (21, .iload_n 1, 1, 0, 1, 0), (22, .iload_n 3, 1, 0, 3, 0), (23, .iastore, 1, 0, 0, 0), (24, .iconst 1, 1, 1, 0, 0), (25, .ireturn, 1, 0, 0, 0)]
def kX8_ask : List En := [(0, .iload_n 1, 1, 0, 1, 0), (1, .iconst (-1), 1, (-1), 0, 0), (2, .if_icmp .eq 14, 3, 0, 16, 0), (5, .aload_n 0, 1, 0, 0, 0), (6, .iload_n 1, 1, 0, 1, 0), (7, .invokevirtual 80, 3, 0, 94, 0), (10, .ifCond .ne 6, 3, 0, 16, 0), (13, .bipush (-101), 2, (-101), 0, 0), (15, .ireturn, 1, 0, 0, 0), (16, .iload_n 2, 1, 0, 2, 0), (17, .iconst (-1), 1, (-1), 0, 0), (18, .if_icmp .lt 9, 3, 0, 27, 0), (21, .iload_n 2, 1, 0, 2, 0), (22, .bipush 6, 2, 6, 0, 0), (24, .if_icmp .le 6, 3, 0, 30, 0), (27, .bipush (-102), 2, (-102), 0, 0), (29, .ireturn, 1, 0, 0, 0), (30, .iload_n 2, 1, 0, 2, 0), (31, .ifCond .le 16, 3, 0, 47, 0), (34, .aload_n 0, 1, 0, 0, 0), (35, .iload_n 2, 1, 0, 2, 0), (36, .iconst 1, 1, 1, 0, 0), (37, .isub, 1, 0, 0, 0), (38, .invokevirtual 268, 3, 0, 119, 0), (41, .ifCond .ne 6, 3, 0, 47, 0), (44, .bipush (-101), 2, (-101), 0, 0), (46, .ireturn, 1, 0, 0, 0), (47, .aload_n 0, 1, 0, 0, 0), (48, .iload_n 2, 1, 0, 2, 0), (49, .iconst (-1), 1, (-1), 0, 0), (50, .if_icmp .ne 10, 3, 0, 60, 0), (53, .aload_n 0, 1, 0, 0, 0), (54, .invokevirtual 271, 3, 0, 120, 0), (57, .goto 4, 3, 0, 61, 0), (60, .iload_n 2, 1, 0, 2, 0), (61, .putfield 57, 3, 0, 8, 10), (64, .aload_n 0, 1, 0, 0, 0), (65, .iconst 0, 1, 0, 0, 0), (66, .putfield 53, 3, 0, 8, 9), (69, .aload_n 0, 1, 0, 0, 0), (70, .iconst 0, 1, 0, 0, 0), (71, .putfield 60, 3, 0, 8, 11), (74, .aload_n 0, 1, 0, 0, 0), (75, .getfield 57, 3, 0, 8, 10), (78, .ifCond .ne 11, 3, 0, 89, 0), (81, .aload_n 0, 1, 0, 0, 0), (82, .iload_n 1, 1, 0, 1, 0), (83, .invokevirtual 274, 3, 0, 123, 0), (86, .goto 19, 3, 0, 105, 0), (89, .aload_n 0, 1, 0, 0, 0), (90, .iload_n 1, 1, 0, 1, 0), (91, .aload_n 0, 1, 0, 0, 0), (92, .getfield 27, 3, 0, 8, 3), (95, .aload_n 0, 1, 0, 0, 0), (96, .getfield 57, 3, 0, 8, 10), (99, .iconst 1, 1, 1, 0, 0), (100, .isub, 1, 0, 0, 0), (101, .aaload, 1, 0, 0, 0), (102, .invokevirtual 277, 3, 0, 124, 0), (105, .aload_n 0, 1, 0, 0, 0), (106, .getfield 53, 3, 0, 8, 9), (109, .ireturn, 1, 0, 0, 0)]
def kX8_answer : List En := [(0, .iload_n 1, 1, 0, 1, 0), (1, .ifCond .lt 20, 3, 0, 21, 0), (4, .iload_n 1, 1, 0, 1, 0), (5, .aload_n 0, 1, 0, 0, 0), (6, .getfield 53, 3, 0, 8, 9), (9, .if_icmp .ge 12, 3, 0, 21, 0), (12, .aload_n 0, 1, 0, 0, 0), (13, .getfield 50, 3, 0, 8, 8), (16, .iload_n 1, 1, 0, 1, 0), (17, .iaload, 1, 0, 0, 0), (18, .goto 4, 3, 0, 22, 0), (21, .iconst (-1), 1, (-1), 0, 0), (22, .ireturn, 1, 0, 0, 0)]
def kX8_asked : List En := [(0, .iload_n 1, 1, 0, 1, 0), (1, .lookupswitch 37 #[(0, 27), (1, 32)], 27, 0, 0, 0), (28, .aload_n 0, 1, 0, 0, 0), (29, .getfield 57, 3, 0, 8, 10), (32, .ireturn, 1, 0, 0, 0), (33, .aload_n 0, 1, 0, 0, 0), (34, .getfield 60, 3, 0, 8, 11), (37, .ireturn, 1, 0, 0, 0), (38, .bipush (-102), 2, (-102), 0, 0), (40, .ireturn, 1, 0, 0, 0)]
def kX8_cost : List En := [(0, .iload_n 1, 1, 0, 1, 0), (1, .ifCond .lt 9, 3, 0, 10, 0), (4, .iload_n 1, 1, 0, 1, 0), (5, .bipush 6, 2, 6, 0, 0), (7, .if_icmp .le 6, 3, 0, 13, 0), (10, .bipush (-102), 2, (-102), 0, 0), (12, .ireturn, 1, 0, 0, 0), (13, .iload_n 1, 1, 0, 1, 0), (14, .ifCond .le 16, 3, 0, 30, 0), (17, .aload_n 0, 1, 0, 0, 0), (18, .iload_n 1, 1, 0, 1, 0), (19, .iconst 1, 1, 1, 0, 0), (20, .isub, 1, 0, 0, 0), (21, .invokevirtual 268, 3, 0, 119, 0), (24, .ifCond .ne 6, 3, 0, 30, 0), (27, .bipush (-101), 2, (-101), 0, 0), (29, .ireturn, 1, 0, 0, 0), (30, .aload_n 0, 1, 0, 0, 0), (31, .iload_n 1, 1, 0, 1, 0), (32, .invokevirtual 281, 3, 0, 121, 0), (35, .ireturn, 1, 0, 0, 0)]
def kX8_isReady : List En := [(0, .aload_n 0, 1, 0, 0, 0), (1, .iload_n 1, 1, 0, 1, 0), (2, .invokevirtual 205, 3, 0, 112, 0), (5, .ifCond .eq 20, 3, 0, 25, 0), (8, .aload_n 0, 1, 0, 0, 0), (9, .getfield 27, 3, 0, 8, 3), (12, .iload_n 1, 1, 0, 1, 0), (13, .aaload, 1, 0, 0, 0), (14, .getfield 214, 3, 0, 2, 4), (17, .iconst 4, 1, 4, 0, 0), (18, .if_icmp .ne 7, 3, 0, 25, 0), (21, .iconst 1, 1, 1, 0, 0), (22, .goto 4, 3, 0, 26, 0), (25, .iconst 0, 1, 0, 0, 0), (26, .ireturn, 1, 0, 0, 0)]
def kX8_cheapestWay : List En := [(0, .iconst 0, 1, 0, 0, 0), (1, .istore_n 1, 1, 0, 1, 0), (2, .aload_n 0, 1, 0, 0, 0), (3, .iconst 0, 1, 0, 0, 0), (4, .invokevirtual 281, 3, 0, 121, 0), (7, .istore_n 2, 1, 0, 2, 0), (8, .iconst 0, 1, 0, 0, 0), (9, .istore_n 3, 1, 0, 3, 0), (10, .iload_n 3, 1, 0, 3, 0), (11, .bipush 6, 2, 6, 0, 0), (13, .if_icmp .ge 40, 3, 0, 53, 0), (16, .aload_n 0, 1, 0, 0, 0), (17, .iload_n 3, 1, 0, 3, 0), (18, .invokevirtual 268, 3, 0, 119, 0), (21, .ifCond .eq 26, 3, 0, 47, 0), (24, .aload_n 0, 1, 0, 0, 0), (25, .iconst 1, 1, 1, 0, 0), (26, .iload_n 3, 1, 0, 3, 0), (27, .iadd, 1, 0, 0, 0), (28, .invokevirtual 281, 3, 0, 121, 0), (31, .iload_n 2, 1, 0, 2, 0), (32, .if_icmp .ge 15, 3, 0, 47, 0), (35, .iconst 1, 1, 1, 0, 0), (36, .iload_n 3, 1, 0, 3, 0), (37, .iadd, 1, 0, 0, 0), (38, .istore_n 1, 1, 0, 1, 0), (39, .aload_n 0, 1, 0, 0, 0), (40, .iconst 1, 1, 1, 0, 0), (41, .iload_n 3, 1, 0, 3, 0), (42, .iadd, 1, 0, 0, 0), (43, .invokevirtual 281, 3, 0, 121, 0), (46, .istore_n 2, 1, 0, 2, 0), (47, .iinc 3 1, 3, 1, 3, 0), (50, .goto (-40), 3, 0, 10, 0), (53, .iload_n 1, 1, 0, 1, 0), (54, .ireturn, 1, 0, 0, 0)]
def kX8_costOf : List En := [(0, .iload_n 1, 1, 0, 1, 0), (1, .ifCond .ne 11, 3, 0, 12, 0), (4, .bipush 8, 2, 8, 0, 0), (6, .aload_n 0, 1, 0, 0, 0), (7, .invokevirtual 284, 3, 0, 122, 0), (10, .imul, 1, 0, 0, 0), (11, .ireturn, 1, 0, 0, 0), (12, .aload_n 0, 1, 0, 0, 0), (13, .getfield 27, 3, 0, 8, 3), (16, .iload_n 1, 1, 0, 1, 0), (17, .iconst 1, 1, 1, 0, 0), (18, .isub, 1, 0, 0, 0), (19, .aaload, 1, 0, 0, 0), (20, .astore_n 2, 1, 0, 2, 0), (21, .aload_n 2, 1, 0, 2, 0), (22, .getfield 226, 3, 0, 2, 9), (25, .invokevirtual 234, 3, 0, 62, 0), (28, .iconst 3, 1, 3, 0, 0), (29, .aload_n 2, 1, 0, 2, 0), (30, .aload_n 0, 1, 0, 0, 0), (31, .getfield 43, 3, 0, 8, 6), (34, .aload_n 0, 1, 0, 0, 0), (35, .getfield 47, 3, 0, 8, 7), (38, .invokevirtual 287, 3, 0, 33, 0), (41, .imul, 1, 0, 0, 0), (42, .iadd, 1, 0, 0, 0), (43, .ireturn, 1, 0, 0, 0)]
def kX8_pagesInUse : List En := [(0, .iconst 0, 1, 0, 0, 0), (1, .istore_n 1, 1, 0, 1, 0), (2, .iconst 0, 1, 0, 0, 0), (3, .istore_n 2, 1, 0, 2, 0), (4, .iload_n 2, 1, 0, 2, 0), (5, .bipush 40, 2, 40, 0, 0), (7, .if_icmp .ge 61, 3, 0, 68, 0), (10, .iconst 0, 1, 0, 0, 0), (11, .istore_n 3, 1, 0, 3, 0), (12, .iconst 0, 1, 0, 0, 0), (13, .istore 4, 2, 0, 4, 0), (15, .iload 4, 2, 0, 4, 0), (17, .bipush 8, 2, 8, 0, 0), (19, .if_icmp .ge 36, 3, 0, 55, 0), (22, .iload_n 3, 1, 0, 3, 0), (23, .ifCond .ne 32, 3, 0, 55, 0), (26, .aload_n 0, 1, 0, 0, 0), (27, .getfield 12, 3, 0, 8, 0), (30, .iload_n 2, 1, 0, 2, 0), (31, .bipush 8, 2, 8, 0, 0), (33, .imul, 1, 0, 0, 0), (34, .iload 4, 2, 0, 4, 0), (36, .iadd, 1, 0, 0, 0), (37, .invokevirtual 152, 3, 0, 51, 0), (40, .ifCond .ne 7, 3, 0, 47, 0), (43, .iconst 1, 1, 1, 0, 0), (44, .goto 4, 3, 0, 48, 0), (47, .iconst 0, 1, 0, 0, 0), (48, .istore_n 3, 1, 0, 3, 0), (49, .iinc 4 1, 3, 1, 4, 0), (52, .goto (-37), 3, 0, 15, 0), (55, .iload_n 3, 1, 0, 3, 0), (56, .ifCond .eq 6, 3, 0, 62, 0), (59, .iinc 1 1, 3, 1, 1, 0), (62, .iinc 2 1, 3, 1, 2, 0), (65, .goto (-61), 3, 0, 4, 0), (68, .iload_n 1, 1, 0, 1, 0), (69, .ireturn, 1, 0, 0, 0)]
def kX8_answerByScan : List En := [(0, .aload_n 0, 1, 0, 0, 0), (1, .sipush 320, 3, 320, 0, 0), (4, .putfield 60, 3, 0, 8, 11), (7, .iconst 0, 1, 0, 0, 0), (8, .istore_n 2, 1, 0, 2, 0), (9, .iload_n 2, 1, 0, 2, 0), (10, .sipush 320, 3, 320, 0, 0), (13, .if_icmp .ge 31, 3, 0, 44, 0), (16, .aload_n 0, 1, 0, 0, 0), (17, .aload_n 0, 1, 0, 0, 0), (18, .getfield 12, 3, 0, 8, 0), (21, .iload_n 1, 1, 0, 1, 0), (22, .iload_n 2, 1, 0, 2, 0), (23, .invokevirtual 291, 3, 0, 53, 0), (26, .iload_n 2, 1, 0, 2, 0), (27, .invokevirtual 295, 3, 0, 125, 0), (30, .ifCond .eq 8, 3, 0, 38, 0), (33, .aload_n 0, 1, 0, 0, 0), (34, .iload_n 2, 1, 0, 2, 0), (35, .invokevirtual 299, 3, 0, 126, 0), (38, .iinc 2 1, 3, 1, 2, 0), (41, .goto (-32), 3, 0, 9, 0), (44, .return_, 1, 0, 0, 0)]
def kX8_answerByIndex : List En := [(0, .iconst 0, 1, 0, 0, 0), (1, .istore_n 3, 1, 0, 3, 0), (2, .iload_n 3, 1, 0, 3, 0), (3, .aload_n 2, 1, 0, 2, 0), (4, .getfield 226, 3, 0, 2, 9), (7, .invokevirtual 230, 3, 0, 60, 0), (10, .if_icmp .ge 85, 3, 0, 95, 0), (13, .aload_n 2, 1, 0, 2, 0), (14, .iload_n 3, 1, 0, 3, 0), (15, .aload_n 0, 1, 0, 0, 0), (16, .getfield 43, 3, 0, 8, 6), (19, .aload_n 0, 1, 0, 0, 0), (20, .getfield 47, 3, 0, 8, 7), (23, .invokevirtual 302, 3, 0, 34, 0), (26, .ifCond .eq 63, 3, 0, 89, 0), (29, .aload_n 0, 1, 0, 0, 0), (30, .dup, 1, 0, 0, 0), (31, .getfield 60, 3, 0, 8, 11), (34, .iconst 1, 1, 1, 0, 0), (35, .iadd, 1, 0, 0, 0), (36, .putfield 60, 3, 0, 8, 11), (39, .aload_n 2, 1, 0, 2, 0), (40, .getfield 226, 3, 0, 2, 9), (43, .iload_n 3, 1, 0, 3, 0), (44, .iconst 3, 1, 3, 0, 0), (45, .invokevirtual 261, 3, 0, 63, 0), (48, .istore 4, 2, 0, 4, 0), (50, .aload_n 0, 1, 0, 0, 0), (51, .getfield 12, 3, 0, 8, 0), (54, .iload_n 1, 1, 0, 1, 0), (55, .iload 4, 2, 0, 4, 0), (57, .invokevirtual 291, 3, 0, 53, 0), (60, .astore 5, 2, 0, 5, 0), (62, .aload_n 2, 1, 0, 2, 0), (63, .iload_n 3, 1, 0, 3, 0), (64, .aload 5, 2, 0, 5, 0), (66, .invokevirtual 306, 3, 0, 20, 0), (69, .ifCond .eq 20, 3, 0, 89, 0), (72, .aload_n 0, 1, 0, 0, 0), (73, .aload 5, 2, 0, 5, 0), (75, .iload 4, 2, 0, 4, 0), (77, .invokevirtual 295, 3, 0, 125, 0), (80, .ifCond .eq 9, 3, 0, 89, 0), (83, .aload_n 0, 1, 0, 0, 0), (84, .iload 4, 2, 0, 4, 0), (86, .invokevirtual 299, 3, 0, 126, 0), (89, .iinc 3 1, 3, 1, 3, 0), (92, .goto (-90), 3, 0, 2, 0), (95, .return_, 1, 0, 0, 0)]
def kX8_fits : List En := [(0, .aload_n 1, 1, 0, 1, 0), (1, .iload_n 2, 1, 0, 2, 0), (2, .invokevirtual 149, 3, 0, 6, 0), (5, .ifCond .ne 5, 3, 0, 10, 0), (8, .iconst 0, 1, 0, 0, 0), (9, .ireturn, 1, 0, 0, 0), (10, .iconst 0, 1, 0, 0, 0), (11, .istore_n 3, 1, 0, 3, 0), (12, .iload_n 3, 1, 0, 3, 0), (13, .iconst 4, 1, 4, 0, 0), (14, .if_icmp .ge 41, 3, 0, 55, 0), (17, .aload_n 1, 1, 0, 1, 0), (18, .iload_n 2, 1, 0, 2, 0), (19, .iload_n 3, 1, 0, 3, 0), (20, .invokevirtual 116, 3, 0, 7, 0), (23, .istore 4, 2, 0, 4, 0), (25, .iload 4, 2, 0, 4, 0), (27, .aload_n 0, 1, 0, 0, 0), (28, .getfield 43, 3, 0, 8, 6), (31, .iload_n 3, 1, 0, 3, 0), (32, .iaload, 1, 0, 0, 0), (33, .if_icmp .lt 14, 3, 0, 47, 0), (36, .iload 4, 2, 0, 4, 0), (38, .aload_n 0, 1, 0, 0, 0), (39, .getfield 47, 3, 0, 8, 7), (42, .iload_n 3, 1, 0, 3, 0), (43, .iaload, 1, 0, 0, 0), (44, .if_icmp .le 5, 3, 0, 49, 0), (47, .iconst 0, 1, 0, 0, 0), (48, .ireturn, 1, 0, 0, 0), (49, .iinc 3 1, 3, 1, 3, 0), (52, .goto (-40), 3, 0, 12, 0), (55, .iconst 1, 1, 1, 0, 0), (56, .ireturn, 1, 0, 0, 0)]
def kX8_tell : List En := [(0, .aload_n 0, 1, 0, 0, 0), (1, .getfield 53, 3, 0, 8, 9), (4, .sipush 320, 3, 320, 0, 0), (7, .if_icmp .ge 23, 3, 0, 30, 0), (10, .aload_n 0, 1, 0, 0, 0), (11, .getfield 50, 3, 0, 8, 8), (14, .aload_n 0, 1, 0, 0, 0), (15, .getfield 53, 3, 0, 8, 9), (18, .iload_n 1, 1, 0, 1, 0), (19, .iastore, 1, 0, 0, 0), (20, .aload_n 0, 1, 0, 0, 0), (21, .dup, 1, 0, 0, 0), (22, .getfield 53, 3, 0, 8, 9), (25, .iconst 1, 1, 1, 0, 0), (26, .iadd, 1, 0, 0, 0), (27, .putfield 53, 3, 0, 8, 9), (30, .return_, 1, 0, 0, 0)]
def kX8_sees : List En := [(0, .iload_n 1, 1, 0, 1, 0), (1, .iconst (-1), 1, (-1), 0, 0), (2, .if_icmp .eq 11, 3, 0, 13, 0), (5, .aload_n 0, 1, 0, 0, 0), (6, .iload_n 1, 1, 0, 1, 0), (7, .invokevirtual 80, 3, 0, 94, 0), (10, .ifCond .eq 10, 3, 0, 20, 0), (13, .iload_n 2, 1, 0, 2, 0), (14, .invokestatic 146, 3, 0, 95, 0), (17, .ifCond .ne 6, 3, 0, 23, 0), (20, .bipush (-101), 2, (-101), 0, 0), (22, .ireturn, 1, 0, 0, 0), (23, .aload_n 0, 1, 0, 0, 0), (24, .getfield 12, 3, 0, 8, 0), (27, .iload_n 1, 1, 0, 1, 0), (28, .iload_n 2, 1, 0, 2, 0), (29, .invokevirtual 291, 3, 0, 53, 0), (32, .iload_n 2, 1, 0, 2, 0), (33, .invokevirtual 149, 3, 0, 6, 0), (36, .ifCond .eq 7, 3, 0, 43, 0), (39, .iconst 1, 1, 1, 0, 0), (40, .goto 4, 3, 0, 44, 0), (43, .iconst 0, 1, 0, 0, 0), (44, .ireturn, 1, 0, 0, 0)]
def kX8_field : List En := [(0, .iload_n 1, 1, 0, 1, 0), (1, .iconst (-1), 1, (-1), 0, 0), (2, .if_icmp .eq 11, 3, 0, 13, 0), (5, .aload_n 0, 1, 0, 0, 0), (6, .iload_n 1, 1, 0, 1, 0), (7, .invokevirtual 80, 3, 0, 94, 0), (10, .ifCond .eq 10, 3, 0, 20, 0), (13, .iload_n 2, 1, 0, 2, 0), (14, .invokestatic 146, 3, 0, 95, 0), (17, .ifCond .ne 6, 3, 0, 23, 0), (20, .bipush (-101), 2, (-101), 0, 0), (22, .ireturn, 1, 0, 0, 0), (23, .iload_n 3, 1, 0, 3, 0), (24, .invokestatic 104, 3, 0, 96, 0), (27, .ifCond .ne 6, 3, 0, 33, 0), (30, .bipush (-102), 2, (-102), 0, 0), (32, .ireturn, 1, 0, 0, 0), (33, .aload_n 0, 1, 0, 0, 0), (34, .getfield 12, 3, 0, 8, 0), (37, .iload_n 1, 1, 0, 1, 0), (38, .iload_n 2, 1, 0, 2, 0), (39, .invokevirtual 291, 3, 0, 53, 0), (42, .astore 4, 2, 0, 4, 0), (44, .aload 4, 2, 0, 4, 0), (46, .iload_n 2, 1, 0, 2, 0), (47, .invokevirtual 149, 3, 0, 6, 0), (50, .ifCond .eq 13, 3, 0, 63, 0), (53, .aload 4, 2, 0, 4, 0), (55, .iload_n 2, 1, 0, 2, 0), (56, .iload_n 3, 1, 0, 3, 0), (57, .invokevirtual 116, 3, 0, 7, 0), (60, .goto 4, 3, 0, 64, 0), (63, .iconst 0, 1, 0, 0, 0), (64, .ireturn, 1, 0, 0, 0)]
def kX8_writer : List En := [(0, .iload_n 1, 1, 0, 1, 0), (1, .invokestatic 146, 3, 0, 95, 0), (4, .ifCond .eq 15, 3, 0, 19, 0), (7, .aload_n 0, 1, 0, 0, 0), (8, .getfield 12, 3, 0, 8, 0), (11, .getfield 137, 3, 0, 5, 2), (14, .iload_n 1, 1, 0, 1, 0), (15, .iaload, 1, 0, 0, 0), (16, .goto 5, 3, 0, 21, 0), (19, .bipush (-101), 2, (-101), 0, 0), (21, .ireturn, 1, 0, 0, 0)]
def kX8_count : List En := [(0, .iload_n 1, 1, 0, 1, 0), (1, .tableswitch 62 0 3 #[31, 39, 44, 50], 31, 0, 0, 0), (32, .aload_n 0, 1, 0, 0, 0), (33, .getfield 12, 3, 0, 8, 0), (36, .invokevirtual 310, 3, 0, 52, 0), (39, .ireturn, 1, 0, 0, 0), (40, .aload_n 0, 1, 0, 0, 0), (41, .invokevirtual 313, 3, 0, 132, 0), (44, .ireturn, 1, 0, 0, 0), (45, .aload_n 0, 1, 0, 0, 0), (46, .iconst 1, 1, 1, 0, 0), (47, .invokevirtual 316, 3, 0, 133, 0), (50, .ireturn, 1, 0, 0, 0), (51, .aload_n 0, 1, 0, 0, 0), (52, .iconst 4, 1, 4, 0, 0), (53, .invokevirtual 316, 3, 0, 133, 0), (56, .aload_n 0, 1, 0, 0, 0), (57, .iconst 5, 1, 5, 0, 0), (58, .invokevirtual 316, 3, 0, 133, 0), (61, .isub, 1, 0, 0, 0), (62, .ireturn, 1, 0, 0, 0), (63, .bipush (-102), 2, (-102), 0, 0), (65, .ireturn, 1, 0, 0, 0)]
def kX8_audit : List En := [(0, .iconst 0, 1, 0, 0, 0), (1, .istore_n 1, 1, 0, 1, 0), (2, .iconst 0, 1, 0, 0, 0), (3, .istore_n 2, 1, 0, 2, 0), (4, .iload_n 2, 1, 0, 2, 0), (5, .bipush 6, 2, 6, 0, 0), (7, .if_icmp .ge 33, 3, 0, 40, 0), (10, .aload_n 0, 1, 0, 0, 0), (11, .iload_n 2, 1, 0, 2, 0), (12, .invokevirtual 268, 3, 0, 119, 0), (15, .ifCond .eq 19, 3, 0, 34, 0), (18, .iload_n 1, 1, 0, 1, 0), (19, .aload_n 0, 1, 0, 0, 0), (20, .getfield 27, 3, 0, 8, 3), (23, .iload_n 2, 1, 0, 2, 0), (24, .aaload, 1, 0, 0, 0), (25, .aload_n 0, 1, 0, 0, 0), (26, .getfield 12, 3, 0, 8, 0), (29, .invokevirtual 319, 3, 0, 35, 0), (32, .iadd, 1, 0, 0, 0), (33, .istore_n 1, 1, 0, 1, 0), (34, .iinc 2 1, 3, 1, 2, 0), (37, .goto (-33), 3, 0, 4, 0), (40, .iload_n 1, 1, 0, 1, 0), (41, .ireturn, 1, 0, 0, 0)]
def kX8_activeTransactions : List En := [(0, .iconst 0, 1, 0, 0, 0), (1, .istore_n 1, 1, 0, 1, 0), (2, .iconst 0, 1, 0, 0, 0), (3, .istore_n 2, 1, 0, 2, 0), (4, .iload_n 2, 1, 0, 2, 0), (5, .bipush 8, 2, 8, 0, 0), (7, .if_icmp .ge 24, 3, 0, 31, 0), (10, .aload_n 0, 1, 0, 0, 0), (11, .getfield 21, 3, 0, 8, 2), (14, .iload_n 2, 1, 0, 2, 0), (15, .aaload, 1, 0, 0, 0), (16, .getfield 73, 3, 0, 6, 0), (19, .ifCond .eq 6, 3, 0, 25, 0), (22, .iinc 1 1, 3, 1, 1, 0), (25, .iinc 2 1, 3, 1, 2, 0), (28, .goto (-24), 3, 0, 4, 0), (31, .iload_n 1, 1, 0, 1, 0), (32, .ireturn, 1, 0, 0, 0)]
def kX8_indexesFrom : List En := [(0, .iconst 0, 1, 0, 0, 0), (1, .istore_n 2, 1, 0, 2, 0), (2, .iconst 0, 1, 0, 0, 0), (3, .istore_n 3, 1, 0, 3, 0), (4, .iload_n 3, 1, 0, 3, 0), (5, .bipush 6, 2, 6, 0, 0), (7, .if_icmp .ge 37, 3, 0, 44, 0), (10, .aload_n 0, 1, 0, 0, 0), (11, .getfield 27, 3, 0, 8, 3), (14, .iload_n 3, 1, 0, 3, 0), (15, .aaload, 1, 0, 0, 0), (16, .getfield 165, 3, 0, 2, 0), (19, .ifCond .eq 19, 3, 0, 38, 0), (22, .aload_n 0, 1, 0, 0, 0), (23, .getfield 27, 3, 0, 8, 3), (26, .iload_n 3, 1, 0, 3, 0), (27, .aaload, 1, 0, 0, 0), (28, .getfield 214, 3, 0, 2, 4), (31, .iload_n 1, 1, 0, 1, 0), (32, .if_icmp .lt 6, 3, 0, 38, 0), (35, .iinc 2 1, 3, 1, 2, 0), (38, .iinc 3 1, 3, 1, 3, 0), (41, .goto (-37), 3, 0, 4, 0), (44, .iload_n 2, 1, 0, 2, 0), (45, .ireturn, 1, 0, 0, 0)]
def kX9_init : List En := [(0, .aload_n 0, 1, 0, 0, 0), (1, .invokespecial 1, 3, 0, 902, 0), (4, .aload_n 0, 1, 0, 0, 0), (5, .sipush 1280, 3, 1280, 0, 0), (8, .newarray .int, 2, 0, 10, 0), (10, .putfield 7, 3, 0, 9, 0), (13, .aload_n 0, 1, 0, 0, 0), (14, .sipush 1280, 3, 1280, 0, 0), (17, .newarray .int, 2, 0, 10, 0), (19, .putfield 13, 3, 0, 9, 1), (22, .aload_n 0, 1, 0, 0, 0), (23, .sipush 320, 3, 320, 0, 0), (26, .newarray .boolean, 2, 0, 11, 0), (28, .putfield 16, 3, 0, 9, 2), (31, .aload_n 0, 1, 0, 0, 0), (32, .sipush 320, 3, 320, 0, 0), (35, .newarray .boolean, 2, 0, 11, 0), (37, .putfield 20, 3, 0, 9, 3), (40, .aload_n 0, 1, 0, 0, 0), (41, .sipush 320, 3, 320, 0, 0), (44, .newarray .int, 2, 0, 10, 0), (46, .putfield 23, 3, 0, 9, 4), (49, .aload_n 0, 1, 0, 0, 0), (50, .bipush 8, 2, 8, 0, 0), (52, .newarray .boolean, 2, 0, 11, 0), (54, .putfield 26, 3, 0, 9, 5), (57, .aload_n 0, 1, 0, 0, 0), (58, .bipush 8, 2, 8, 0, 0), (60, .newarray .int, 2, 0, 10, 0), (62, .putfield 29, 3, 0, 9, 6), (65, .aload_n 0, 1, 0, 0, 0), (66, .sipush 1600, 3, 1600, 0, 0), (69, .newarray .int, 2, 0, 10, 0), (71, .putfield 32, 3, 0, 9, 7), (74, .aload_n 0, 1, 0, 0, 0), (75, .sipush 1600, 3, 1600, 0, 0), (78, .newarray .boolean, 2, 0, 11, 0), (80, .putfield 35, 3, 0, 9, 8), (83, .aload_n 0, 1, 0, 0, 0), (84, .sipush 6400, 3, 6400, 0, 0), (87, .newarray .int, 2, 0, 10, 0), (89, .putfield 38, 3, 0, 9, 9), (92, .aload_n 0, 1, 0, 0, 0), (93, .sipush 1600, 3, 1600, 0, 0), (96, .newarray .int, 2, 0, 10, 0), (98, .putfield 41, 3, 0, 9, 10), (101, .aload_n 0, 1, 0, 0, 0), (102, .bipush 6, 2, 6, 0, 0), (104, .newarray .boolean, 2, 0, 11, 0), (106, .putfield 44, 3, 0, 9, 11), (109, .aload_n 0, 1, 0, 0, 0), (110, .bipush 6, 2, 6, 0, 0), (112, .newarray .int, 2, 0, 10, 0), (114, .putfield 47, 3, 0, 9, 12), (117, .aload_n 0, 1, 0, 0, 0), (118, .bipush 18, 2, 18, 0, 0), (120, .newarray .int, 2, 0, 10, 0), (122, .putfield 50, 3, 0, 9, 13), (125, .aload_n 0, 1, 0, 0, 0), (126, .bipush 6, 2, 6, 0, 0), (128, .newarray .boolean, 2, 0, 11, 0), (130, .putfield 53, 3, 0, 9, 14), (133, .aload_n 0, 1, 0, 0, 0), (134, .bipush 6, 2, 6, 0, 0), (136, .newarray .int, 2, 0, 10, 0), (138, .putfield 56, 3, 0, 9, 15), (141, .aload_n 0, 1, 0, 0, 0), (142, .bipush 6, 2, 6, 0, 0), (144, .newarray .int, 2, 0, 10, 0), (146, .putfield 59, 3, 0, 9, 16), (149, .aload_n 0, 1, 0, 0, 0), (150, .bipush 6, 2, 6, 0, 0), (152, .newarray .int, 2, 0, 10, 0), (154, .putfield 62, 3, 0, 9, 17), (157, .aload_n 0, 1, 0, 0, 0), (158, .bipush 6, 2, 6, 0, 0), (160, .newarray .int, 2, 0, 10, 0), (162, .putfield 65, 3, 0, 9, 18), (165, .aload_n 0, 1, 0, 0, 0), (166, .bipush 6, 2, 6, 0, 0), (168, .newarray .int, 2, 0, 10, 0), (170, .putfield 68, 3, 0, 9, 19), (173, .aload_n 0, 1, 0, 0, 0), (174, .bipush 6, 2, 6, 0, 0), (176, .newarray .int, 2, 0, 10, 0), (178, .putfield 71, 3, 0, 9, 20), (181, .aload_n 0, 1, 0, 0, 0), (182, .sipush 1800, 3, 1800, 0, 0), (185, .newarray .boolean, 2, 0, 11, 0), (187, .putfield 74, 3, 0, 9, 21), (190, .aload_n 0, 1, 0, 0, 0), (191, .sipush 5400, 3, 5400, 0, 0), (194, .newarray .int, 2, 0, 10, 0), (196, .putfield 77, 3, 0, 9, 22), (199, .aload_n 0, 1, 0, 0, 0), (200, .sipush 1800, 3, 1800, 0, 0), (203, .newarray .int, 2, 0, 10, 0), (205, .putfield 80, 3, 0, 9, 23), (208, .aload_n 0, 1, 0, 0, 0), (209, .bipush 6, 2, 6, 0, 0), (211, .newarray .int, 2, 0, 10, 0), (213, .putfield 83, 3, 0, 9, 24), (216, .aload_n 0, 1, 0, 0, 0), (217, .bipush 6, 2, 6, 0, 0), (219, .newarray .int, 2, 0, 10, 0), (221, .putfield 86, 3, 0, 9, 25), (224, .aload_n 0, 1, 0, 0, 0), (225, .sipush 11520, 3, 11520, 0, 0), (228, .newarray .int, 2, 0, 10, 0), (230, .putfield 89, 3, 0, 9, 26), (233, .aload_n 0, 1, 0, 0, 0), (234, .sipush 3840, 3, 3840, 0, 0), (237, .newarray .int, 2, 0, 10, 0), (239, .putfield 92, 3, 0, 9, 27), (242, .aload_n 0, 1, 0, 0, 0), (243, .bipush 6, 2, 6, 0, 0), (245, .newarray .int, 2, 0, 10, 0), (247, .putfield 95, 3, 0, 9, 28), (250, .aload_n 0, 1, 0, 0, 0), (251, .sipush 2160, 3, 2160, 0, 0), (254, .newarray .boolean, 2, 0, 11, 0), (256, .putfield 98, 3, 0, 9, 29), (259, .aload_n 0, 1, 0, 0, 0), (260, .sipush 2160, 3, 2160, 0, 0), (263, .newarray .int, 2, 0, 10, 0), (265, .putfield 101, 3, 0, 9, 30), (268, .aload_n 0, 1, 0, 0, 0), (269, .sipush 32400, 3, 32400, 0, 0), (272, .newarray .int, 2, 0, 10, 0), (274, .putfield 104, 3, 0, 9, 31), (277, .aload_n 0, 1, 0, 0, 0), (278, .sipush 10800, 3, 10800, 0, 0), (281, .newarray .int, 2, 0, 10, 0), (283, .putfield 107, 3, 0, 9, 32), (286, .aload_n 0, 1, 0, 0, 0), (287, .sipush 12960, 3, 12960, 0, 0), (290, .newarray .int, 2, 0, 10, 0), (292, .putfield 110, 3, 0, 9, 33), (295, .aload_n 0, 1, 0, 0, 0), (296, .iconst 4, 1, 4, 0, 0), (297, .newarray .int, 2, 0, 10, 0), (299, .putfield 113, 3, 0, 9, 34), (302, .aload_n 0, 1, 0, 0, 0), (303, .iconst 4, 1, 4, 0, 0), (304, .newarray .int, 2, 0, 10, 0), (306, .putfield 116, 3, 0, 9, 35), (309, .aload_n 0, 1, 0, 0, 0), (310, .sipush 320, 3, 320, 0, 0), (313, .newarray .int, 2, 0, 10, 0), (315, .putfield 119, 3, 0, 9, 37), (318, .aload_n 0, 1, 0, 0, 0), (319, .iconst (-1), 1, (-1), 0, 0), (320, .putfield 122, 3, 0, 9, 38), (323, .aload_n 0, 1, 0, 0, 0), (324, .iconst 3, 1, 3, 0, 0), (325, .newarray .int, 2, 0, 10, 0), (327, .putfield 126, 3, 0, 9, 40), (330, .aload_n 0, 1, 0, 0, 0), (331, .bipush 16, 2, 16, 0, 0), (333, .newarray .int, 2, 0, 10, 0), (335, .putfield 129, 3, 0, 9, 43), (338, .aload_n 0, 1, 0, 0, 0), (339, .bipush 16, 2, 16, 0, 0), (341, .newarray .int, 2, 0, 10, 0), (343, .putfield 132, 3, 0, 9, 44), (346, .aload_n 0, 1, 0, 0, 0), (347, .sipush 1800, 3, 1800, 0, 0), (350, .newarray .int, 2, 0, 10, 0), (352, .putfield 135, 3, 0, 9, 46), (355, .aload_n 0, 1, 0, 0, 0), (356, .sipush 1800, 3, 1800, 0, 0), (359, .newarray .int, 2, 0, 10, 0), (361, .putfield 138, 3, 0, 9, 47), (364, .aload_n 0, 1, 0, 0, 0), (365, .bipush 8, 2, 8, 0, 0), (367, .newarray .int, 2, 0, 10, 0), (369, .putfield 141, 3, 0, 9, 48), (372, .aload_n 0, 1, 0, 0, 0), (373, .iconst 4, 1, 4, 0, 0), (374, .newarray .int, 2, 0, 10, 0), (376, .putfield 144, 3, 0, 9, 51), (379, .aload_n 0, 1, 0, 0, 0), (380, .sipush 1280, 3, 1280, 0, 0), (383, .newarray .int, 2, 0, 10, 0), (385, .putfield 147, 3, 0, 9, 52), (388, .aload_n 0, 1, 0, 0, 0), (389, .sipush 320, 3, 320, 0, 0), (392, .newarray .boolean, 2, 0, 11, 0), (394, .putfield 150, 3, 0, 9, 53), (397, .aload_n 0, 1, 0, 0, 0), (398, .sipush 320, 3, 320, 0, 0), (401, .newarray .int, 2, 0, 10, 0), (403, .putfield 153, 3, 0, 9, 54), (406, .iconst 0, 1, 0, 0, 0), (407, .istore_n 1, 1, 0, 1, 0), (408, .iload_n 1, 1, 0, 1, 0), (409, .sipush 320, 3, 320, 0, 0), (412, .if_icmp .ge 16, 3, 0, 428, 0), (415, .aload_n 0, 1, 0, 0, 0), (416, .getfield 23, 3, 0, 9, 4), (419, .iload_n 1, 1, 0, 1, 0), (420, .iconst (-1), 1, (-1), 0, 0), (421, .iastore, 1, 0, 0, 0), (422, .iinc 1 1, 3, 1, 1, 0), (425, .goto (-17), 3, 0, 408, 0), (428, .iconst 0, 1, 0, 0, 0), (429, .istore_n 1, 1, 0, 1, 0), (430, .iload_n 1, 1, 0, 1, 0), (431, .iconst 4, 1, 4, 0, 0), (432, .if_icmp .ge 31, 3, 0, 463, 0), (435, .aload_n 0, 1, 0, 0, 0), (436, .getfield 113, 3, 0, 9, 34), (439, .iload_n 1, 1, 0, 1, 0), (440, .ldc 156, 2, (-2147483648), 0, 0), (442, .iastore, 1, 0, 0, 0), (443, .aload_n 0, 1, 0, 0, 0), (444, .getfield 116, 3, 0, 9, 35), (447, .iload_n 1, 1, 0, 1, 0), (448, .aload_n 0, 1, 0, 0, 0), (449, .getfield 113, 3, 0, 9, 34), (452, .iload_n 1, 1, 0, 1, 0), (453, .iaload, 1, 0, 0, 0), (454, .iconst (-1), 1, (-1), 0, 0), (455, .ixor, 1, 0, 0, 0), (456, .iastore, 1, 0, 0, 0), (457, .iinc 1 1, 3, 1, 1, 0), (460, .goto (-30), 3, 0, 430, 0), (463, .return_, 1, 0, 0, 0)]
def kX9_in : List En := [(0, .iload_n 0, 1, 0, 0, 0), (1, .iload_n 1, 1, 0, 1, 0), (2, .if_icmp .lt 12, 3, 0, 14, 0), (5, .iload_n 0, 1, 0, 0, 0), (6, .iload_n 2, 1, 0, 2, 0), (7, .if_icmp .gt 7, 3, 0, 14, 0), (10, .iconst 1, 1, 1, 0, 0), (11, .goto 4, 3, 0, 15, 0), (14, .iconst 0, 1, 0, 0, 0), (15, .ireturn, 1, 0, 0, 0)]
def kX9_isActive : List En := [(0, .iload_n 1, 1, 0, 1, 0), (1, .iconst 0, 1, 0, 0, 0), (2, .bipush 7, 2, 7, 0, 0), (4, .invokestatic 157, 3, 0, 135, 0), (7, .ifCond .eq 16, 3, 0, 23, 0), (10, .aload_n 0, 1, 0, 0, 0), (11, .getfield 26, 3, 0, 9, 5), (14, .iload_n 1, 1, 0, 1, 0), (15, .baload, 1, 0, 0, 0), (16, .ifCond .eq 7, 3, 0, 23, 0), (19, .iconst 1, 1, 1, 0, 0), (20, .goto 4, 3, 0, 24, 0), (23, .iconst 0, 1, 0, 0, 0), (24, .ireturn, 1, 0, 0, 0)]
def kX9_isIndex : List En := [(0, .iload_n 1, 1, 0, 1, 0), (1, .iconst 0, 1, 0, 0, 0), (2, .iconst 5, 1, 5, 0, 0), (3, .invokestatic 157, 3, 0, 135, 0), (6, .ifCond .eq 16, 3, 0, 22, 0), (9, .aload_n 0, 1, 0, 0, 0), (10, .getfield 44, 3, 0, 9, 11), (13, .iload_n 1, 1, 0, 1, 0), (14, .baload, 1, 0, 0, 0), (15, .ifCond .eq 7, 3, 0, 22, 0), (18, .iconst 1, 1, 1, 0, 0), (19, .goto 4, 3, 0, 23, 0), (22, .iconst 0, 1, 0, 0, 0), (23, .ireturn, 1, 0, 0, 0)]
def kX9_isReady : List En := [(0, .aload_n 0, 1, 0, 0, 0), (1, .iload_n 1, 1, 0, 1, 0), (2, .invokevirtual 161, 3, 0, 137, 0), (5, .ifCond .eq 17, 3, 0, 22, 0), (8, .aload_n 0, 1, 0, 0, 0), (9, .getfield 56, 3, 0, 9, 15), (12, .iload_n 1, 1, 0, 1, 0), (13, .iaload, 1, 0, 0, 0), (14, .iconst 4, 1, 4, 0, 0), (15, .if_icmp .ne 7, 3, 0, 22, 0), (18, .iconst 1, 1, 1, 0, 0), (19, .goto 4, 3, 0, 23, 0), (22, .iconst 0, 1, 0, 0, 0), (23, .ireturn, 1, 0, 0, 0)]
def kX9_isPlace : List En := [(0, .iload_n 0, 1, 0, 0, 0), (1, .iconst 0, 1, 0, 0, 0), (2, .sipush 319, 3, 319, 0, 0), (5, .invokestatic 157, 3, 0, 135, 0), (8, .ireturn, 1, 0, 0, 0)]
def kX9_isFree : List En := [(0, .aload_n 0, 1, 0, 0, 0), (1, .getfield 23, 3, 0, 9, 4), (4, .iload_n 1, 1, 0, 1, 0), (5, .iaload, 1, 0, 0, 0), (6, .iconst (-1), 1, (-1), 0, 0), (7, .if_icmp .ne 16, 3, 0, 23, 0), (10, .aload_n 0, 1, 0, 0, 0), (11, .getfield 20, 3, 0, 9, 3), (14, .iload_n 1, 1, 0, 1, 0), (15, .baload, 1, 0, 0, 0), (16, .ifCond .ne 7, 3, 0, 23, 0), (19, .iconst 1, 1, 1, 0, 0), (20, .goto 4, 3, 0, 24, 0), (23, .iconst 0, 1, 0, 0, 0), (24, .ireturn, 1, 0, 0, 0)]
def kX9_entryOf : List En := [(0, .iconst 0, 1, 0, 0, 0), (1, .istore 5, 2, 0, 5, 0), (3, .iload 5, 2, 0, 5, 0), (5, .iconst 3, 1, 3, 0, 0), (6, .if_icmp .ge 46, 3, 0, 52, 0), (9, .aload_n 0, 1, 0, 0, 0), (10, .getfield 126, 3, 0, 9, 40), (13, .iload 5, 2, 0, 5, 0), (15, .iload 5, 2, 0, 5, 0), (17, .aload_n 0, 1, 0, 0, 0), (18, .getfield 47, 3, 0, 9, 12), (21, .iload_n 1, 1, 0, 1, 0), (22, .iaload, 1, 0, 0, 0), (23, .if_icmp .ge 21, 3, 0, 44, 0), (26, .aload_n 2, 1, 0, 2, 0), (27, .iload_n 3, 1, 0, 3, 0), (28, .aload_n 0, 1, 0, 0, 0), (29, .getfield 50, 3, 0, 9, 13), (32, .iconst 3, 1, 3, 0, 0), (33, .iload_n 1, 1, 0, 1, 0), (34, .imul, 1, 0, 0, 0), (35, .iload 5, 2, 0, 5, 0), (37, .iadd, 1, 0, 0, 0), (38, .iaload, 1, 0, 0, 0), (39, .iadd, 1, 0, 0, 0), (40, .iaload, 1, 0, 0, 0), (41, .goto 4, 3, 0, 45, 0), (44, .iconst 0, 1, 0, 0, 0), (45, .iastore, 1, 0, 0, 0), (46, .iinc 5 1, 3, 1, 5, 0), (49, .goto (-46), 3, 0, 3, 0), (52, .aload_n 0, 1, 0, 0, 0), (53, .iload 4, 2, 0, 4, 0), (55, .putfield 165, 3, 0, 9, 41), (58, .return_, 1, 0, 0, 0)]
def kX9_compare : List En := [(0, .iconst 0, 1, 0, 0, 0), (1, .istore_n 2, 1, 0, 2, 0), (2, .iload_n 2, 1, 0, 2, 0), (3, .iconst 3, 1, 3, 0, 0), (4, .if_icmp .ge 53, 3, 0, 57, 0), (7, .aload_n 0, 1, 0, 0, 0), (8, .getfield 126, 3, 0, 9, 40), (11, .iload_n 2, 1, 0, 2, 0), (12, .iaload, 1, 0, 0, 0), (13, .aload_n 0, 1, 0, 0, 0), (14, .getfield 104, 3, 0, 9, 31), (17, .iconst 3, 1, 3, 0, 0), (18, .iload_n 1, 1, 0, 1, 0), (19, .imul, 1, 0, 0, 0), (20, .iload_n 2, 1, 0, 2, 0), (21, .iadd, 1, 0, 0, 0), (22, .iaload, 1, 0, 0, 0), (23, .if_icmp .eq 28, 3, 0, 51, 0), (26, .aload_n 0, 1, 0, 0, 0), (27, .getfield 126, 3, 0, 9, 40), (30, .iload_n 2, 1, 0, 2, 0), (31, .iaload, 1, 0, 0, 0), (32, .aload_n 0, 1, 0, 0, 0), (33, .getfield 104, 3, 0, 9, 31), (36, .iconst 3, 1, 3, 0, 0), (37, .iload_n 1, 1, 0, 1, 0), (38, .imul, 1, 0, 0, 0), (39, .iload_n 2, 1, 0, 2, 0), (40, .iadd, 1, 0, 0, 0), (41, .iaload, 1, 0, 0, 0), (42, .if_icmp .ge 7, 3, 0, 49, 0), (45, .iconst (-1), 1, (-1), 0, 0), (46, .goto 4, 3, 0, 50, 0), (49, .iconst 1, 1, 1, 0, 0), (50, .ireturn, 1, 0, 0, 0), (51, .iinc 2 1, 3, 1, 2, 0), (54, .goto (-52), 3, 0, 2, 0), (57, .aload_n 0, 1, 0, 0, 0), (58, .getfield 165, 3, 0, 9, 41), (61, .aload_n 0, 1, 0, 0, 0), (62, .getfield 107, 3, 0, 9, 32), (65, .iload_n 1, 1, 0, 1, 0), (66, .iaload, 1, 0, 0, 0), (67, .if_icmp .ge 7, 3, 0, 74, 0), (70, .iconst (-1), 1, (-1), 0, 0), (71, .goto 21, 3, 0, 92, 0), (74, .aload_n 0, 1, 0, 0, 0), (75, .getfield 165, 3, 0, 9, 41), (78, .aload_n 0, 1, 0, 0, 0), (79, .getfield 107, 3, 0, 9, 32), (82, .iload_n 1, 1, 0, 1, 0), (83, .iaload, 1, 0, 0, 0), (84, .if_icmp .le 7, 3, 0, 91, 0), (87, .iconst 1, 1, 1, 0, 0), (88, .goto 4, 3, 0, 92, 0), (91, .iconst 0, 1, 0, 0, 0), (92, .ireturn, 1, 0, 0, 0)]
def kX9_copySlot : List En := [(0, .iconst 0, 1, 0, 0, 0), (1, .istore_n 3, 1, 0, 3, 0), (2, .iload_n 3, 1, 0, 3, 0), (3, .iconst 3, 1, 3, 0, 0), (4, .if_icmp .ge 29, 3, 0, 33, 0), (7, .aload_n 0, 1, 0, 0, 0), (8, .getfield 104, 3, 0, 9, 31), (11, .iconst 3, 1, 3, 0, 0), (12, .iload_n 2, 1, 0, 2, 0), (13, .imul, 1, 0, 0, 0), (14, .iload_n 3, 1, 0, 3, 0), (15, .iadd, 1, 0, 0, 0), (16, .aload_n 0, 1, 0, 0, 0), (17, .getfield 104, 3, 0, 9, 31), (20, .iconst 3, 1, 3, 0, 0), (21, .iload_n 1, 1, 0, 1, 0), (22, .imul, 1, 0, 0, 0), (23, .iload_n 3, 1, 0, 3, 0), (24, .iadd, 1, 0, 0, 0), (25, .iaload, 1, 0, 0, 0), (26, .iastore, 1, 0, 0, 0), (27, .iinc 3 1, 3, 1, 3, 0), (30, .goto (-28), 3, 0, 2, 0), (33, .aload_n 0, 1, 0, 0, 0), (34, .getfield 107, 3, 0, 9, 32), (37, .iload_n 2, 1, 0, 2, 0), (38, .aload_n 0, 1, 0, 0, 0), (39, .getfield 107, 3, 0, 9, 32), (42, .iload_n 1, 1, 0, 1, 0), (43, .iaload, 1, 0, 0, 0), (44, .iastore, 1, 0, 0, 0), (45, .return_, 1, 0, 0, 0)]
def kX9_fillSlot : List En := [(0, .iconst 0, 1, 0, 0, 0), (1, .istore_n 2, 1, 0, 2, 0), (2, .iload_n 2, 1, 0, 2, 0), (3, .iconst 3, 1, 3, 0, 0), (4, .if_icmp .ge 25, 3, 0, 29, 0), (7, .aload_n 0, 1, 0, 0, 0), (8, .getfield 104, 3, 0, 9, 31), (11, .iconst 3, 1, 3, 0, 0), (12, .iload_n 1, 1, 0, 1, 0), (13, .imul, 1, 0, 0, 0), (14, .iload_n 2, 1, 0, 2, 0), (15, .iadd, 1, 0, 0, 0), (16, .aload_n 0, 1, 0, 0, 0), (17, .getfield 126, 3, 0, 9, 40), (20, .iload_n 2, 1, 0, 2, 0), (21, .iaload, 1, 0, 0, 0), (22, .iastore, 1, 0, 0, 0), (23, .iinc 2 1, 3, 1, 2, 0), (26, .goto (-24), 3, 0, 2, 0), (29, .aload_n 0, 1, 0, 0, 0), (30, .getfield 107, 3, 0, 9, 32), (33, .iload_n 1, 1, 0, 1, 0), (34, .aload_n 0, 1, 0, 0, 0), (35, .getfield 165, 3, 0, 9, 41), (38, .iastore, 1, 0, 0, 0), (39, .return_, 1, 0, 0, 0)]
def kX9_node : List En := [(0, .sipush 360, 3, 360, 0, 0), (3, .iload_n 1, 1, 0, 1, 0), (4, .imul, 1, 0, 0, 0), (5, .istore_n 2, 1, 0, 2, 0), (6, .aload_n 0, 1, 0, 0, 0), (7, .getfield 98, 3, 0, 9, 29), (10, .iload_n 2, 1, 0, 2, 0), (11, .baload, 1, 0, 0, 0), (12, .ifCond .eq 9, 3, 0, 21, 0), (15, .iinc 2 1, 3, 1, 2, 0), (18, .goto (-12), 3, 0, 6, 0), (21, .aload_n 0, 1, 0, 0, 0), (22, .getfield 98, 3, 0, 9, 29), (25, .iload_n 2, 1, 0, 2, 0), (26, .iconst 1, 1, 1, 0, 0), (27, .bastore, 1, 0, 0, 0), (28, .aload_n 0, 1, 0, 0, 0), (29, .getfield 101, 3, 0, 9, 30), (32, .iload_n 2, 1, 0, 2, 0), (33, .iconst 0, 1, 0, 0, 0), (34, .iastore, 1, 0, 0, 0), (35, .iconst 0, 1, 0, 0, 0), (36, .istore_n 3, 1, 0, 3, 0), (37, .iload_n 3, 1, 0, 3, 0), (38, .bipush 6, 2, 6, 0, 0), (40, .if_icmp .ge 21, 3, 0, 61, 0), (43, .aload_n 0, 1, 0, 0, 0), (44, .getfield 110, 3, 0, 9, 33), (47, .bipush 6, 2, 6, 0, 0), (49, .iload_n 2, 1, 0, 2, 0), (50, .imul, 1, 0, 0, 0), (51, .iload_n 3, 1, 0, 3, 0), (52, .iadd, 1, 0, 0, 0), (53, .iconst (-1), 1, (-1), 0, 0), (54, .iastore, 1, 0, 0, 0), (55, .iinc 3 1, 3, 1, 3, 0), (58, .goto (-21), 3, 0, 37, 0), (61, .iload_n 2, 1, 0, 2, 0), (62, .ireturn, 1, 0, 0, 0)]
def kX9_emptyTree : List En := [(0, .sipush 360, 3, 360, 0, 0), (3, .iload_n 1, 1, 0, 1, 0), (4, .imul, 1, 0, 0, 0), (5, .istore_n 2, 1, 0, 2, 0), (6, .iload_n 2, 1, 0, 2, 0), (7, .sipush 360, 3, 360, 0, 0), (10, .iload_n 1, 1, 0, 1, 0), (11, .imul, 1, 0, 0, 0), (12, .sipush 360, 3, 360, 0, 0), (15, .iadd, 1, 0, 0, 0), (16, .if_icmp .ge 16, 3, 0, 32, 0), (19, .aload_n 0, 1, 0, 0, 0), (20, .getfield 98, 3, 0, 9, 29), (23, .iload_n 2, 1, 0, 2, 0), (24, .iconst 0, 1, 0, 0, 0), (25, .bastore, 1, 0, 0, 0), (26, .iinc 2 1, 3, 1, 2, 0), (29, .goto (-23), 3, 0, 6, 0), (32, .aload_n 0, 1, 0, 0, 0), (33, .getfield 95, 3, 0, 9, 28), (36, .iload_n 1, 1, 0, 1, 0), (37, .aload_n 0, 1, 0, 0, 0), (38, .iload_n 1, 1, 0, 1, 0), (39, .invokevirtual 168, 3, 0, 145, 0), (42, .iastore, 1, 0, 0, 0), (43, .return_, 1, 0, 0, 0)]
def kX9_isLowest : List En := [(0, .aload_n 0, 1, 0, 0, 0), (1, .getfield 110, 3, 0, 9, 33), (4, .bipush 6, 2, 6, 0, 0), (6, .iload_n 1, 1, 0, 1, 0), (7, .imul, 1, 0, 0, 0), (8, .iaload, 1, 0, 0, 0), (9, .iconst (-1), 1, (-1), 0, 0), (10, .if_icmp .ne 7, 3, 0, 17, 0), (13, .iconst 1, 1, 1, 0, 0), (14, .goto 4, 3, 0, 18, 0), (17, .iconst 0, 1, 0, 0, 0), (18, .ireturn, 1, 0, 0, 0)]
def kX9_slotFor : List En := [(0, .iconst 0, 1, 0, 0, 0), (1, .istore_n 2, 1, 0, 2, 0), (2, .iload_n 2, 1, 0, 2, 0), (3, .aload_n 0, 1, 0, 0, 0), (4, .getfield 101, 3, 0, 9, 30), (7, .iload_n 1, 1, 0, 1, 0), (8, .iaload, 1, 0, 0, 0), (9, .if_icmp .ge 21, 3, 0, 30, 0), (12, .aload_n 0, 1, 0, 0, 0), (13, .iconst 5, 1, 5, 0, 0), (14, .iload_n 1, 1, 0, 1, 0), (15, .imul, 1, 0, 0, 0), (16, .iload_n 2, 1, 0, 2, 0), (17, .iadd, 1, 0, 0, 0), (18, .invokevirtual 172, 3, 0, 142, 0), (21, .ifCond .le 9, 3, 0, 30, 0), (24, .iinc 2 1, 3, 1, 2, 0), (27, .goto (-25), 3, 0, 2, 0), (30, .iload_n 2, 1, 0, 2, 0), (31, .ireturn, 1, 0, 0, 0)]
def kX9_find : List En := [(0, .aload_n 0, 1, 0, 0, 0), (1, .iconst 0, 1, 0, 0, 0), (2, .putfield 175, 3, 0, 9, 42), (5, .aload_n 0, 1, 0, 0, 0), (6, .getfield 95, 3, 0, 9, 28), (9, .iload_n 1, 1, 0, 1, 0), (10, .iaload, 1, 0, 0, 0), (11, .istore_n 2, 1, 0, 2, 0), (12, .aload_n 0, 1, 0, 0, 0), (13, .iload_n 2, 1, 0, 2, 0), (14, .invokevirtual 178, 3, 0, 148, 0), (17, .istore_n 3, 1, 0, 3, 0), (18, .aload_n 0, 1, 0, 0, 0), (19, .getfield 129, 3, 0, 9, 43), (22, .aload_n 0, 1, 0, 0, 0), (23, .getfield 175, 3, 0, 9, 42), (26, .iload_n 2, 1, 0, 2, 0), (27, .iastore, 1, 0, 0, 0), (28, .aload_n 0, 1, 0, 0, 0), (29, .getfield 132, 3, 0, 9, 44), (32, .aload_n 0, 1, 0, 0, 0), (33, .getfield 175, 3, 0, 9, 42), (36, .iload_n 3, 1, 0, 3, 0), (37, .iastore, 1, 0, 0, 0), (38, .iload_n 3, 1, 0, 3, 0), (39, .aload_n 0, 1, 0, 0, 0), (40, .getfield 101, 3, 0, 9, 30), (43, .iload_n 2, 1, 0, 2, 0), (44, .iaload, 1, 0, 0, 0), (45, .if_icmp .ge 17, 3, 0, 62, 0), (48, .aload_n 0, 1, 0, 0, 0), (49, .iconst 5, 1, 5, 0, 0), (50, .iload_n 2, 1, 0, 2, 0), (51, .imul, 1, 0, 0, 0), (52, .iload_n 3, 1, 0, 3, 0), (53, .iadd, 1, 0, 0, 0), (54, .invokevirtual 172, 3, 0, 142, 0), (57, .ifCond .ne 5, 3, 0, 62, 0), (60, .iconst 1, 1, 1, 0, 0), (61, .ireturn, 1, 0, 0, 0), (62, .aload_n 0, 1, 0, 0, 0), (63, .iload_n 2, 1, 0, 2, 0), (64, .invokevirtual 181, 3, 0, 147, 0), (67, .ifCond .eq 5, 3, 0, 72, 0), (70, .iconst 0, 1, 0, 0, 0), (71, .ireturn, 1, 0, 0, 0), (72, .aload_n 0, 1, 0, 0, 0), (73, .dup, 1, 0, 0, 0), (74, .getfield 175, 3, 0, 9, 42), (77, .iconst 1, 1, 1, 0, 0), (78, .iadd, 1, 0, 0, 0), (79, .putfield 175, 3, 0, 9, 42), (82, .aload_n 0, 1, 0, 0, 0), (83, .getfield 110, 3, 0, 9, 33), (86, .bipush 6, 2, 6, 0, 0), (88, .iload_n 2, 1, 0, 2, 0), (89, .imul, 1, 0, 0, 0), (90, .iload_n 3, 1, 0, 3, 0), (91, .iadd, 1, 0, 0, 0), (92, .iaload, 1, 0, 0, 0), (93, .istore_n 2, 1, 0, 2, 0), (94, .goto (-82), 3, 0, 12, 0)]
def kX9_addAt : List En := [(0, .aload_n 0, 1, 0, 0, 0), (1, .getfield 101, 3, 0, 9, 30), (4, .iload_n 1, 1, 0, 1, 0), (5, .iaload, 1, 0, 0, 0), (6, .istore 4, 2, 0, 4, 0), (8, .iload 4, 2, 0, 4, 0), (10, .iload_n 2, 1, 0, 2, 0), (11, .if_icmp .le 27, 3, 0, 38, 0), (14, .aload_n 0, 1, 0, 0, 0), (15, .iconst 5, 1, 5, 0, 0), (16, .iload_n 1, 1, 0, 1, 0), (17, .imul, 1, 0, 0, 0), (18, .iload 4, 2, 0, 4, 0), (20, .iadd, 1, 0, 0, 0), (21, .iconst 1, 1, 1, 0, 0), (22, .isub, 1, 0, 0, 0), (23, .iconst 5, 1, 5, 0, 0), (24, .iload_n 1, 1, 0, 1, 0), (25, .imul, 1, 0, 0, 0), (26, .iload 4, 2, 0, 4, 0), (28, .iadd, 1, 0, 0, 0), (29, .invokevirtual 184, 3, 0, 143, 0), (32, .iinc 4 (-1), 3, (-1), 4, 0), (35, .goto (-27), 3, 0, 8, 0), (38, .aload_n 0, 1, 0, 0, 0), (39, .getfield 101, 3, 0, 9, 30), (42, .iload_n 1, 1, 0, 1, 0), (43, .iaload, 1, 0, 0, 0), (44, .iconst 1, 1, 1, 0, 0), (45, .iadd, 1, 0, 0, 0), (46, .istore 4, 2, 0, 4, 0), (48, .iload 4, 2, 0, 4, 0), (50, .iload_n 2, 1, 0, 2, 0), (51, .iconst 1, 1, 1, 0, 0), (52, .iadd, 1, 0, 0, 0), (53, .if_icmp .le 35, 3, 0, 88, 0), (56, .aload_n 0, 1, 0, 0, 0), (57, .getfield 110, 3, 0, 9, 33), (60, .bipush 6, 2, 6, 0, 0), (62, .iload_n 1, 1, 0, 1, 0), (63, .imul, 1, 0, 0, 0), (64, .iload 4, 2, 0, 4, 0), (66, .iadd, 1, 0, 0, 0), (67, .aload_n 0, 1, 0, 0, 0), (68, .getfield 110, 3, 0, 9, 33), (71, .bipush 6, 2, 6, 0, 0), (73, .iload_n 1, 1, 0, 1, 0), (74, .imul, 1, 0, 0, 0), (75, .iload 4, 2, 0, 4, 0), (77, .iadd, 1, 0, 0, 0), (78, .iconst 1, 1, 1, 0, 0), (79, .isub, 1, 0, 0, 0), (80, .iaload, 1, 0, 0, 0), (81, .iastore, 1, 0, 0, 0), (82, .iinc 4 (-1), 3, (-1), 4, 0), (85, .goto (-37), 3, 0, 48, 0), (88, .aload_n 0, 1, 0, 0, 0), (89, .iconst 5, 1, 5, 0, 0), (90, .iload_n 1, 1, 0, 1, 0), (91, .imul, 1, 0, 0, 0), (92, .iload_n 2, 1, 0, 2, 0), (93, .iadd, 1, 0, 0, 0), (94, .invokevirtual 188, 3, 0, 144, 0), (97, .aload_n 0, 1, 0, 0, 0), (98, .getfield 110, 3, 0, 9, 33), (101, .bipush 6, 2, 6, 0, 0), (103, .iload_n 1, 1, 0, 1, 0), (104, .imul, 1, 0, 0, 0), (105, .iload_n 2, 1, 0, 2, 0), (106, .iadd, 1, 0, 0, 0), (107, .iconst 1, 1, 1, 0, 0), (108, .iadd, 1, 0, 0, 0), (109, .iload_n 3, 1, 0, 3, 0), (110, .iastore, 1, 0, 0, 0), (111, .aload_n 0, 1, 0, 0, 0), (112, .getfield 101, 3, 0, 9, 30), (115, .iload_n 1, 1, 0, 1, 0), (116, .dup2, 1, 0, 0, 0), (117, .iaload, 1, 0, 0, 0), (118, .iconst 1, 1, 1, 0, 0), (119, .iadd, 1, 0, 0, 0), (120, .iastore, 1, 0, 0, 0), (121, .return_, 1, 0, 0, 0)]
def kX9_takeSlot : List En := [(0, .iconst 0, 1, 0, 0, 0), (1, .istore_n 2, 1, 0, 2, 0), (2, .iload_n 2, 1, 0, 2, 0), (3, .iconst 3, 1, 3, 0, 0), (4, .if_icmp .ge 25, 3, 0, 29, 0), (7, .aload_n 0, 1, 0, 0, 0), (8, .getfield 126, 3, 0, 9, 40), (11, .iload_n 2, 1, 0, 2, 0), (12, .aload_n 0, 1, 0, 0, 0), (13, .getfield 104, 3, 0, 9, 31), (16, .iconst 3, 1, 3, 0, 0), (17, .iload_n 1, 1, 0, 1, 0), (18, .imul, 1, 0, 0, 0), (19, .iload_n 2, 1, 0, 2, 0), (20, .iadd, 1, 0, 0, 0), (21, .iaload, 1, 0, 0, 0), (22, .iastore, 1, 0, 0, 0), (23, .iinc 2 1, 3, 1, 2, 0), (26, .goto (-24), 3, 0, 2, 0), (29, .aload_n 0, 1, 0, 0, 0), (30, .aload_n 0, 1, 0, 0, 0), (31, .getfield 107, 3, 0, 9, 32), (34, .iload_n 1, 1, 0, 1, 0), (35, .iaload, 1, 0, 0, 0), (36, .putfield 165, 3, 0, 9, 41), (39, .return_, 1, 0, 0, 0)]
def kX9_comesToTree : List En := [(0, .aload_n 0, 1, 0, 0, 0), (1, .iload_n 1, 1, 0, 1, 0), (2, .invokevirtual 192, 3, 0, 149, 0), (5, .ifCond .eq 4, 3, 0, 9, 0), (8, .return_, 1, 0, 0, 0), (9, .aload_n 0, 1, 0, 0, 0), (10, .getfield 129, 3, 0, 9, 43), (13, .aload_n 0, 1, 0, 0, 0), (14, .getfield 175, 3, 0, 9, 42), (17, .iaload, 1, 0, 0, 0), (18, .istore_n 2, 1, 0, 2, 0), (19, .aload_n 0, 1, 0, 0, 0), (20, .iload_n 2, 1, 0, 2, 0), (21, .aload_n 0, 1, 0, 0, 0), (22, .getfield 132, 3, 0, 9, 44), (25, .aload_n 0, 1, 0, 0, 0), (26, .getfield 175, 3, 0, 9, 42), (29, .iaload, 1, 0, 0, 0), (30, .iconst (-1), 1, (-1), 0, 0), (31, .invokevirtual 195, 3, 0, 150, 0), (34, .aload_n 0, 1, 0, 0, 0), (35, .getfield 101, 3, 0, 9, 30), (38, .iload_n 2, 1, 0, 2, 0), (39, .iaload, 1, 0, 0, 0), (40, .iconst 5, 1, 5, 0, 0), (41, .if_icmp .ne 202, 3, 0, 243, 0), (44, .aload_n 0, 1, 0, 0, 0), (45, .iload_n 1, 1, 0, 1, 0), (46, .invokevirtual 168, 3, 0, 145, 0), (49, .istore_n 3, 1, 0, 3, 0), (50, .aload_n 0, 1, 0, 0, 0), (51, .iconst 5, 1, 5, 0, 0), (52, .iload_n 2, 1, 0, 2, 0), (53, .imul, 1, 0, 0, 0), (54, .iconst 3, 1, 3, 0, 0), (55, .iadd, 1, 0, 0, 0), (56, .iconst 5, 1, 5, 0, 0), (57, .iload_n 3, 1, 0, 3, 0), (58, .imul, 1, 0, 0, 0), (59, .invokevirtual 184, 3, 0, 143, 0), (62, .aload_n 0, 1, 0, 0, 0), (63, .iconst 5, 1, 5, 0, 0), (64, .iload_n 2, 1, 0, 2, 0), (65, .imul, 1, 0, 0, 0), (66, .iconst 4, 1, 4, 0, 0), (67, .iadd, 1, 0, 0, 0), (68, .iconst 5, 1, 5, 0, 0), (69, .iload_n 3, 1, 0, 3, 0), (70, .imul, 1, 0, 0, 0), (71, .iconst 1, 1, 1, 0, 0), (72, .iadd, 1, 0, 0, 0), (73, .invokevirtual 184, 3, 0, 143, 0), (76, .iconst 0, 1, 0, 0, 0), (77, .istore 4, 2, 0, 4, 0), (79, .iload 4, 2, 0, 4, 0), (81, .iconst 3, 1, 3, 0, 0), (82, .if_icmp .ge 50, 3, 0, 132, 0), (85, .aload_n 0, 1, 0, 0, 0), (86, .getfield 110, 3, 0, 9, 33), (89, .bipush 6, 2, 6, 0, 0), (91, .iload_n 3, 1, 0, 3, 0), (92, .imul, 1, 0, 0, 0), (93, .iload 4, 2, 0, 4, 0), (95, .iadd, 1, 0, 0, 0), (96, .aload_n 0, 1, 0, 0, 0), (97, .getfield 110, 3, 0, 9, 33), (100, .bipush 6, 2, 6, 0, 0), (102, .iload_n 2, 1, 0, 2, 0), (103, .imul, 1, 0, 0, 0), (104, .iconst 3, 1, 3, 0, 0), (105, .iadd, 1, 0, 0, 0), (106, .iload 4, 2, 0, 4, 0), (108, .iadd, 1, 0, 0, 0), (109, .iaload, 1, 0, 0, 0), (110, .iastore, 1, 0, 0, 0), (111, .aload_n 0, 1, 0, 0, 0), (112, .getfield 110, 3, 0, 9, 33), (115, .bipush 6, 2, 6, 0, 0), (117, .iload_n 2, 1, 0, 2, 0), (118, .imul, 1, 0, 0, 0), (119, .iconst 3, 1, 3, 0, 0), (120, .iadd, 1, 0, 0, 0), (121, .iload 4, 2, 0, 4, 0), (123, .iadd, 1, 0, 0, 0), (124, .iconst (-1), 1, (-1), 0, 0), (125, .iastore, 1, 0, 0, 0), (126, .iinc 4 1, 3, 1, 4, 0), (129, .goto (-50), 3, 0, 79, 0), (132, .aload_n 0, 1, 0, 0, 0), (133, .getfield 101, 3, 0, 9, 30), (136, .iload_n 3, 1, 0, 3, 0), (137, .iconst 2, 1, 2, 0, 0), (138, .iastore, 1, 0, 0, 0), (139, .aload_n 0, 1, 0, 0, 0), (140, .getfield 101, 3, 0, 9, 30), (143, .iload_n 2, 1, 0, 2, 0), (144, .iconst 2, 1, 2, 0, 0), (145, .iastore, 1, 0, 0, 0), (146, .aload_n 0, 1, 0, 0, 0), (147, .iconst 5, 1, 5, 0, 0), (148, .iload_n 2, 1, 0, 2, 0), (149, .imul, 1, 0, 0, 0), (150, .iconst 2, 1, 2, 0, 0), (151, .iadd, 1, 0, 0, 0), (152, .invokevirtual 199, 3, 0, 151, 0), (155, .aload_n 0, 1, 0, 0, 0), (156, .getfield 175, 3, 0, 9, 42), (159, .ifCond .ne 38, 3, 0, 197, 0), (162, .aload_n 0, 1, 0, 0, 0), (163, .iload_n 1, 1, 0, 1, 0), (164, .invokevirtual 168, 3, 0, 145, 0), (167, .istore 4, 2, 0, 4, 0), (169, .aload_n 0, 1, 0, 0, 0), (170, .getfield 110, 3, 0, 9, 33), (173, .bipush 6, 2, 6, 0, 0), (175, .iload 4, 2, 0, 4, 0), (177, .imul, 1, 0, 0, 0), (178, .iload_n 2, 1, 0, 2, 0), (179, .iastore, 1, 0, 0, 0), (180, .aload_n 0, 1, 0, 0, 0), (181, .iload 4, 2, 0, 4, 0), (183, .iconst 0, 1, 0, 0, 0), (184, .iload_n 3, 1, 0, 3, 0), (185, .invokevirtual 195, 3, 0, 150, 0), (188, .aload_n 0, 1, 0, 0, 0), (189, .getfield 95, 3, 0, 9, 28), (192, .iload_n 1, 1, 0, 1, 0), (193, .iload 4, 2, 0, 4, 0), (195, .iastore, 1, 0, 0, 0), (196, .return_, 1, 0, 0, 0), (197, .aload_n 0, 1, 0, 0, 0), (198, .dup, 1, 0, 0, 0), (199, .getfield 175, 3, 0, 9, 42), (202, .iconst 1, 1, 1, 0, 0), (203, .isub, 1, 0, 0, 0), (204, .putfield 175, 3, 0, 9, 42), (207, .aload_n 0, 1, 0, 0, 0), (208, .aload_n 0, 1, 0, 0, 0), (209, .getfield 129, 3, 0, 9, 43), (212, .aload_n 0, 1, 0, 0, 0), (213, .getfield 175, 3, 0, 9, 42), (216, .iaload, 1, 0, 0, 0), (217, .aload_n 0, 1, 0, 0, 0), (218, .getfield 132, 3, 0, 9, 44), (221, .aload_n 0, 1, 0, 0, 0), (222, .getfield 175, 3, 0, 9, 42), (225, .iaload, 1, 0, 0, 0), (226, .iload_n 3, 1, 0, 3, 0), (227, .invokevirtual 195, 3, 0, 150, 0), (230, .aload_n 0, 1, 0, 0, 0), (231, .getfield 129, 3, 0, 9, 43), (234, .aload_n 0, 1, 0, 0, 0), (235, .getfield 175, 3, 0, 9, 42), (238, .iaload, 1, 0, 0, 0), (239, .istore_n 2, 1, 0, 2, 0), (240, .goto (-206), 3, 0, 34, 0), (243, .return_, 1, 0, 0, 0)]
def kX9_takeOut : List En := [(0, .iload_n 2, 1, 0, 2, 0), (1, .istore 4, 2, 0, 4, 0), (3, .iload 4, 2, 0, 4, 0), (5, .iconst 1, 1, 1, 0, 0), (6, .iadd, 1, 0, 0, 0), (7, .aload_n 0, 1, 0, 0, 0), (8, .getfield 101, 3, 0, 9, 30), (11, .iload_n 1, 1, 0, 1, 0), (12, .iaload, 1, 0, 0, 0), (13, .if_icmp .ge 27, 3, 0, 40, 0), (16, .aload_n 0, 1, 0, 0, 0), (17, .iconst 5, 1, 5, 0, 0), (18, .iload_n 1, 1, 0, 1, 0), (19, .imul, 1, 0, 0, 0), (20, .iload 4, 2, 0, 4, 0), (22, .iadd, 1, 0, 0, 0), (23, .iconst 1, 1, 1, 0, 0), (24, .iadd, 1, 0, 0, 0), (25, .iconst 5, 1, 5, 0, 0), (26, .iload_n 1, 1, 0, 1, 0), (27, .imul, 1, 0, 0, 0), (28, .iload 4, 2, 0, 4, 0), (30, .iadd, 1, 0, 0, 0), (31, .invokevirtual 184, 3, 0, 143, 0), (34, .iinc 4 1, 3, 1, 4, 0), (37, .goto (-34), 3, 0, 3, 0), (40, .iload_n 3, 1, 0, 3, 0), (41, .istore 4, 2, 0, 4, 0), (43, .iload 4, 2, 0, 4, 0), (45, .aload_n 0, 1, 0, 0, 0), (46, .getfield 101, 3, 0, 9, 30), (49, .iload_n 1, 1, 0, 1, 0), (50, .iaload, 1, 0, 0, 0), (51, .if_icmp .ge 35, 3, 0, 86, 0), (54, .aload_n 0, 1, 0, 0, 0), (55, .getfield 110, 3, 0, 9, 33), (58, .bipush 6, 2, 6, 0, 0), (60, .iload_n 1, 1, 0, 1, 0), (61, .imul, 1, 0, 0, 0), (62, .iload 4, 2, 0, 4, 0), (64, .iadd, 1, 0, 0, 0), (65, .aload_n 0, 1, 0, 0, 0), (66, .getfield 110, 3, 0, 9, 33), (69, .bipush 6, 2, 6, 0, 0), (71, .iload_n 1, 1, 0, 1, 0), (72, .imul, 1, 0, 0, 0), (73, .iload 4, 2, 0, 4, 0), (75, .iadd, 1, 0, 0, 0), (76, .iconst 1, 1, 1, 0, 0), (77, .iadd, 1, 0, 0, 0), (78, .iaload, 1, 0, 0, 0), (79, .iastore, 1, 0, 0, 0), (80, .iinc 4 1, 3, 1, 4, 0), (83, .goto (-40), 3, 0, 43, 0), (86, .aload_n 0, 1, 0, 0, 0), (87, .getfield 110, 3, 0, 9, 33), (90, .bipush 6, 2, 6, 0, 0), (92, .iload_n 1, 1, 0, 1, 0), (93, .imul, 1, 0, 0, 0), (94, .aload_n 0, 1, 0, 0, 0), (95, .getfield 101, 3, 0, 9, 30), (98, .iload_n 1, 1, 0, 1, 0), (99, .iaload, 1, 0, 0, 0), (100, .iadd, 1, 0, 0, 0), (101, .iconst (-1), 1, (-1), 0, 0), (102, .iastore, 1, 0, 0, 0), (103, .aload_n 0, 1, 0, 0, 0), (104, .getfield 101, 3, 0, 9, 30), (107, .iload_n 1, 1, 0, 1, 0), (108, .dup2, 1, 0, 0, 0), (109, .iaload, 1, 0, 0, 0), (110, .iconst 1, 1, 1, 0, 0), (111, .isub, 1, 0, 0, 0), (112, .iastore, 1, 0, 0, 0), (113, .return_, 1, 0, 0, 0)]
def kX9_goesFromTree : List En := [(0, .aload_n 0, 1, 0, 0, 0), (1, .iload_n 1, 1, 0, 1, 0), (2, .invokevirtual 192, 3, 0, 149, 0), (5, .ifCond .ne 4, 3, 0, 9, 0), (8, .return_, 1, 0, 0, 0), (9, .aload_n 0, 1, 0, 0, 0), (10, .getfield 129, 3, 0, 9, 43), (13, .aload_n 0, 1, 0, 0, 0), (14, .getfield 175, 3, 0, 9, 42), (17, .iaload, 1, 0, 0, 0), (18, .istore_n 2, 1, 0, 2, 0), (19, .aload_n 0, 1, 0, 0, 0), (20, .getfield 132, 3, 0, 9, 44), (23, .aload_n 0, 1, 0, 0, 0), (24, .getfield 175, 3, 0, 9, 42), (27, .iaload, 1, 0, 0, 0), (28, .istore_n 3, 1, 0, 3, 0), (29, .aload_n 0, 1, 0, 0, 0), (30, .iload_n 2, 1, 0, 2, 0), (31, .invokevirtual 181, 3, 0, 147, 0), (34, .ifCond .ne 128, 3, 0, 162, 0), (37, .iconst 5, 1, 5, 0, 0), (38, .iload_n 2, 1, 0, 2, 0), (39, .imul, 1, 0, 0, 0), (40, .iload_n 3, 1, 0, 3, 0), (41, .iadd, 1, 0, 0, 0), (42, .istore 4, 2, 0, 4, 0), (44, .aload_n 0, 1, 0, 0, 0), (45, .getfield 110, 3, 0, 9, 33), (48, .bipush 6, 2, 6, 0, 0), (50, .iload_n 2, 1, 0, 2, 0), (51, .imul, 1, 0, 0, 0), (52, .iload_n 3, 1, 0, 3, 0), (53, .iadd, 1, 0, 0, 0), (54, .iaload, 1, 0, 0, 0), (55, .istore 5, 2, 0, 5, 0), (57, .aload_n 0, 1, 0, 0, 0), (58, .dup, 1, 0, 0, 0), (59, .getfield 175, 3, 0, 9, 42), (62, .iconst 1, 1, 1, 0, 0), (63, .iadd, 1, 0, 0, 0), (64, .putfield 175, 3, 0, 9, 42), (67, .aload_n 0, 1, 0, 0, 0), (68, .getfield 129, 3, 0, 9, 43), (71, .aload_n 0, 1, 0, 0, 0), (72, .getfield 175, 3, 0, 9, 42), (75, .iload 5, 2, 0, 5, 0), (77, .iastore, 1, 0, 0, 0), (78, .aload_n 0, 1, 0, 0, 0), (79, .getfield 132, 3, 0, 9, 44), (82, .aload_n 0, 1, 0, 0, 0), (83, .getfield 175, 3, 0, 9, 42), (86, .aload_n 0, 1, 0, 0, 0), (87, .getfield 101, 3, 0, 9, 30), (90, .iload 5, 2, 0, 5, 0), (92, .iaload, 1, 0, 0, 0), (93, .iastore, 1, 0, 0, 0), (94, .aload_n 0, 1, 0, 0, 0), (95, .iload 5, 2, 0, 5, 0), (97, .invokevirtual 181, 3, 0, 147, 0), (100, .ifCond .eq 6, 3, 0, 106, 0), (103, .goto 26, 3, 0, 129, 0), (106, .aload_n 0, 1, 0, 0, 0), (107, .getfield 110, 3, 0, 9, 33), (110, .bipush 6, 2, 6, 0, 0), (112, .iload 5, 2, 0, 5, 0), (114, .imul, 1, 0, 0, 0), (115, .aload_n 0, 1, 0, 0, 0), (116, .getfield 101, 3, 0, 9, 30), (119, .iload 5, 2, 0, 5, 0), (121, .iaload, 1, 0, 0, 0), (122, .iadd, 1, 0, 0, 0), (123, .iaload, 1, 0, 0, 0), (124, .istore 5, 2, 0, 5, 0), (126, .goto (-69), 3, 0, 57, 0), (129, .aload_n 0, 1, 0, 0, 0), (130, .iconst 5, 1, 5, 0, 0), (131, .iload 5, 2, 0, 5, 0), (133, .imul, 1, 0, 0, 0), (134, .aload_n 0, 1, 0, 0, 0), (135, .getfield 101, 3, 0, 9, 30), (138, .iload 5, 2, 0, 5, 0), (140, .iaload, 1, 0, 0, 0), (141, .iadd, 1, 0, 0, 0), (142, .iconst 1, 1, 1, 0, 0), (143, .isub, 1, 0, 0, 0), (144, .iload 4, 2, 0, 4, 0), (146, .invokevirtual 184, 3, 0, 143, 0), (149, .iload 5, 2, 0, 5, 0), (151, .istore_n 2, 1, 0, 2, 0), (152, .aload_n 0, 1, 0, 0, 0), (153, .getfield 101, 3, 0, 9, 30), (156, .iload 5, 2, 0, 5, 0), (158, .iaload, 1, 0, 0, 0), (159, .iconst 1, 1, 1, 0, 0), (160, .isub, 1, 0, 0, 0), (161, .istore_n 3, 1, 0, 3, 0), (162, .aload_n 0, 1, 0, 0, 0), (163, .iload_n 2, 1, 0, 2, 0), (164, .iload_n 3, 1, 0, 3, 0), (165, .iload_n 3, 1, 0, 3, 0), (166, .iconst 1, 1, 1, 0, 0), (167, .iadd, 1, 0, 0, 0), (168, .invokevirtual 202, 3, 0, 153, 0), (171, .aload_n 0, 1, 0, 0, 0), (172, .getfield 175, 3, 0, 9, 42), (175, .ifCond .le 38, 3, 0, 213, 0), (178, .aload_n 0, 1, 0, 0, 0), (179, .getfield 101, 3, 0, 9, 30), (182, .aload_n 0, 1, 0, 0, 0), (183, .getfield 129, 3, 0, 9, 43), (186, .aload_n 0, 1, 0, 0, 0), (187, .getfield 175, 3, 0, 9, 42), (190, .iaload, 1, 0, 0, 0), (191, .iaload, 1, 0, 0, 0), (192, .iconst 1, 1, 1, 0, 0), (193, .if_icmp .ne 20, 3, 0, 213, 0), (196, .aload_n 0, 1, 0, 0, 0), (197, .invokevirtual 205, 3, 0, 155, 0), (200, .aload_n 0, 1, 0, 0, 0), (201, .dup, 1, 0, 0, 0), (202, .getfield 175, 3, 0, 9, 42), (205, .iconst 1, 1, 1, 0, 0), (206, .isub, 1, 0, 0, 0), (207, .putfield 175, 3, 0, 9, 42), (210, .goto (-39), 3, 0, 171, 0), (213, .aload_n 0, 1, 0, 0, 0), (214, .getfield 95, 3, 0, 9, 28), (217, .iload_n 1, 1, 0, 1, 0), (218, .iaload, 1, 0, 0, 0), (219, .istore 4, 2, 0, 4, 0), (221, .aload_n 0, 1, 0, 0, 0), (222, .getfield 101, 3, 0, 9, 30), (225, .iload 4, 2, 0, 4, 0), (227, .iaload, 1, 0, 0, 0), (228, .ifCond .ne 36, 3, 0, 264, 0), (231, .aload_n 0, 1, 0, 0, 0), (232, .iload 4, 2, 0, 4, 0), (234, .invokevirtual 181, 3, 0, 147, 0), (237, .ifCond .ne 27, 3, 0, 264, 0), (240, .aload_n 0, 1, 0, 0, 0), (241, .getfield 95, 3, 0, 9, 28), (244, .iload_n 1, 1, 0, 1, 0), (245, .aload_n 0, 1, 0, 0, 0), (246, .getfield 110, 3, 0, 9, 33), (249, .bipush 6, 2, 6, 0, 0), (251, .iload 4, 2, 0, 4, 0), (253, .imul, 1, 0, 0, 0), (254, .iaload, 1, 0, 0, 0), (255, .iastore, 1, 0, 0, 0), (256, .aload_n 0, 1, 0, 0, 0), (257, .getfield 98, 3, 0, 9, 29), (260, .iload 4, 2, 0, 4, 0), (262, .iconst 0, 1, 0, 0, 0), (263, .bastore, 1, 0, 0, 0), (264, .return_, 1, 0, 0, 0)]
def kX9_settle : List En := [(0, .aload_n 0, 1, 0, 0, 0), (1, .getfield 129, 3, 0, 9, 43), (4, .aload_n 0, 1, 0, 0, 0), (5, .getfield 175, 3, 0, 9, 42), (8, .iaload, 1, 0, 0, 0), (9, .istore_n 1, 1, 0, 1, 0), (10, .aload_n 0, 1, 0, 0, 0), (11, .getfield 129, 3, 0, 9, 43), (14, .aload_n 0, 1, 0, 0, 0), (15, .getfield 175, 3, 0, 9, 42), (18, .iconst 1, 1, 1, 0, 0), (19, .isub, 1, 0, 0, 0), (20, .iaload, 1, 0, 0, 0), (21, .istore_n 2, 1, 0, 2, 0), (22, .aload_n 0, 1, 0, 0, 0), (23, .getfield 132, 3, 0, 9, 44), (26, .aload_n 0, 1, 0, 0, 0), (27, .getfield 175, 3, 0, 9, 42), (30, .iconst 1, 1, 1, 0, 0), (31, .isub, 1, 0, 0, 0), (32, .iaload, 1, 0, 0, 0), (33, .istore_n 3, 1, 0, 3, 0), (34, .iload_n 3, 1, 0, 3, 0), (35, .ifCond .le 19, 3, 0, 54, 0), (38, .aload_n 0, 1, 0, 0, 0), (39, .getfield 110, 3, 0, 9, 33), (42, .bipush 6, 2, 6, 0, 0), (44, .iload_n 2, 1, 0, 2, 0), (45, .imul, 1, 0, 0, 0), (46, .iload_n 3, 1, 0, 3, 0), (47, .iadd, 1, 0, 0, 0), (48, .iconst 1, 1, 1, 0, 0), (49, .isub, 1, 0, 0, 0), (50, .iaload, 1, 0, 0, 0), (51, .goto 4, 3, 0, 55, 0), (54, .iconst (-1), 1, (-1), 0, 0), (55, .istore 4, 2, 0, 4, 0), (57, .iload_n 3, 1, 0, 3, 0), (58, .aload_n 0, 1, 0, 0, 0), (59, .getfield 101, 3, 0, 9, 30), (62, .iload_n 2, 1, 0, 2, 0), (63, .iaload, 1, 0, 0, 0), (64, .if_icmp .ge 19, 3, 0, 83, 0), (67, .aload_n 0, 1, 0, 0, 0), (68, .getfield 110, 3, 0, 9, 33), (71, .bipush 6, 2, 6, 0, 0), (73, .iload_n 2, 1, 0, 2, 0), (74, .imul, 1, 0, 0, 0), (75, .iload_n 3, 1, 0, 3, 0), (76, .iadd, 1, 0, 0, 0), (77, .iconst 1, 1, 1, 0, 0), (78, .iadd, 1, 0, 0, 0), (79, .iaload, 1, 0, 0, 0), (80, .goto 4, 3, 0, 84, 0), (83, .iconst (-1), 1, (-1), 0, 0), (84, .istore 5, 2, 0, 5, 0), (86, .iload 4, 2, 0, 4, 0), (88, .iconst (-1), 1, (-1), 0, 0), (89, .if_icmp .eq 178, 3, 0, 267, 0), (92, .aload_n 0, 1, 0, 0, 0), (93, .getfield 101, 3, 0, 9, 30), (96, .iload 4, 2, 0, 4, 0), (98, .iaload, 1, 0, 0, 0), (99, .iconst 3, 1, 3, 0, 0), (100, .if_icmp .lt 167, 3, 0, 267, 0), (103, .aload_n 0, 1, 0, 0, 0), (104, .iconst 5, 1, 5, 0, 0), (105, .iload_n 2, 1, 0, 2, 0), (106, .imul, 1, 0, 0, 0), (107, .iload_n 3, 1, 0, 3, 0), (108, .iadd, 1, 0, 0, 0), (109, .iconst 1, 1, 1, 0, 0), (110, .isub, 1, 0, 0, 0), (111, .invokevirtual 199, 3, 0, 151, 0), (114, .aload_n 0, 1, 0, 0, 0), (115, .iconst 5, 1, 5, 0, 0), (116, .iload_n 1, 1, 0, 1, 0), (117, .imul, 1, 0, 0, 0), (118, .iconst 5, 1, 5, 0, 0), (119, .iload_n 1, 1, 0, 1, 0), (120, .imul, 1, 0, 0, 0), (121, .iconst 1, 1, 1, 0, 0), (122, .iadd, 1, 0, 0, 0), (123, .invokevirtual 184, 3, 0, 143, 0), (126, .aload_n 0, 1, 0, 0, 0), (127, .iconst 5, 1, 5, 0, 0), (128, .iload_n 1, 1, 0, 1, 0), (129, .imul, 1, 0, 0, 0), (130, .invokevirtual 188, 3, 0, 144, 0), (133, .aload_n 0, 1, 0, 0, 0), (134, .getfield 110, 3, 0, 9, 33), (137, .bipush 6, 2, 6, 0, 0), (139, .iload_n 1, 1, 0, 1, 0), (140, .imul, 1, 0, 0, 0), (141, .iconst 2, 1, 2, 0, 0), (142, .iadd, 1, 0, 0, 0), (143, .aload_n 0, 1, 0, 0, 0), (144, .getfield 110, 3, 0, 9, 33), (147, .bipush 6, 2, 6, 0, 0), (149, .iload_n 1, 1, 0, 1, 0), (150, .imul, 1, 0, 0, 0), (151, .iconst 1, 1, 1, 0, 0), (152, .iadd, 1, 0, 0, 0), (153, .iaload, 1, 0, 0, 0), (154, .iastore, 1, 0, 0, 0), (155, .aload_n 0, 1, 0, 0, 0), (156, .getfield 110, 3, 0, 9, 33), (159, .bipush 6, 2, 6, 0, 0), (161, .iload_n 1, 1, 0, 1, 0), (162, .imul, 1, 0, 0, 0), (163, .iconst 1, 1, 1, 0, 0), (164, .iadd, 1, 0, 0, 0), (165, .aload_n 0, 1, 0, 0, 0), (166, .getfield 110, 3, 0, 9, 33), (169, .bipush 6, 2, 6, 0, 0), (171, .iload_n 1, 1, 0, 1, 0), (172, .imul, 1, 0, 0, 0), (173, .iaload, 1, 0, 0, 0), (174, .iastore, 1, 0, 0, 0), (175, .aload_n 0, 1, 0, 0, 0), (176, .getfield 110, 3, 0, 9, 33), (179, .bipush 6, 2, 6, 0, 0), (181, .iload_n 1, 1, 0, 1, 0), (182, .imul, 1, 0, 0, 0), (183, .aload_n 0, 1, 0, 0, 0), (184, .getfield 110, 3, 0, 9, 33), (187, .bipush 6, 2, 6, 0, 0), (189, .iload 4, 2, 0, 4, 0), (191, .imul, 1, 0, 0, 0), (192, .aload_n 0, 1, 0, 0, 0), (193, .getfield 101, 3, 0, 9, 30), (196, .iload 4, 2, 0, 4, 0), (198, .iaload, 1, 0, 0, 0), (199, .iadd, 1, 0, 0, 0), (200, .iaload, 1, 0, 0, 0), (201, .iastore, 1, 0, 0, 0), (202, .aload_n 0, 1, 0, 0, 0), (203, .getfield 101, 3, 0, 9, 30), (206, .iload_n 1, 1, 0, 1, 0), (207, .iconst 2, 1, 2, 0, 0), (208, .iastore, 1, 0, 0, 0), (209, .aload_n 0, 1, 0, 0, 0), (210, .iconst 5, 1, 5, 0, 0), (211, .iload 4, 2, 0, 4, 0), (213, .imul, 1, 0, 0, 0), (214, .aload_n 0, 1, 0, 0, 0), (215, .getfield 101, 3, 0, 9, 30), (218, .iload 4, 2, 0, 4, 0), (220, .iaload, 1, 0, 0, 0), (221, .iadd, 1, 0, 0, 0), (222, .iconst 1, 1, 1, 0, 0), (223, .isub, 1, 0, 0, 0), (224, .iconst 5, 1, 5, 0, 0), (225, .iload_n 2, 1, 0, 2, 0), (226, .imul, 1, 0, 0, 0), (227, .iload_n 3, 1, 0, 3, 0), (228, .iadd, 1, 0, 0, 0), (229, .iconst 1, 1, 1, 0, 0), (230, .isub, 1, 0, 0, 0), (231, .invokevirtual 184, 3, 0, 143, 0), (234, .aload_n 0, 1, 0, 0, 0), (235, .getfield 110, 3, 0, 9, 33), (238, .bipush 6, 2, 6, 0, 0), (240, .iload 4, 2, 0, 4, 0), (242, .imul, 1, 0, 0, 0), (243, .aload_n 0, 1, 0, 0, 0), (244, .getfield 101, 3, 0, 9, 30), (247, .iload 4, 2, 0, 4, 0), (249, .iaload, 1, 0, 0, 0), (250, .iadd, 1, 0, 0, 0), (251, .iconst (-1), 1, (-1), 0, 0), (252, .iastore, 1, 0, 0, 0), (253, .aload_n 0, 1, 0, 0, 0), (254, .getfield 101, 3, 0, 9, 30), (257, .iload 4, 2, 0, 4, 0), (259, .dup2, 1, 0, 0, 0), (260, .iaload, 1, 0, 0, 0), (261, .iconst 1, 1, 1, 0, 0), (262, .isub, 1, 0, 0, 0), (263, .iastore, 1, 0, 0, 0), (264, .goto 115, 3, 0, 379, 0), (267, .iload 5, 2, 0, 5, 0), (269, .iconst (-1), 1, (-1), 0, 0), (270, .if_icmp .eq 80, 3, 0, 350, 0), (273, .aload_n 0, 1, 0, 0, 0), (274, .getfield 101, 3, 0, 9, 30), (277, .iload 5, 2, 0, 5, 0), (279, .iaload, 1, 0, 0, 0), (280, .iconst 3, 1, 3, 0, 0), (281, .if_icmp .lt 69, 3, 0, 350, 0), (284, .aload_n 0, 1, 0, 0, 0), (285, .iconst 5, 1, 5, 0, 0), (286, .iload_n 2, 1, 0, 2, 0), (287, .imul, 1, 0, 0, 0), (288, .iload_n 3, 1, 0, 3, 0), (289, .iadd, 1, 0, 0, 0), (290, .iconst 5, 1, 5, 0, 0), (291, .iload_n 1, 1, 0, 1, 0), (292, .imul, 1, 0, 0, 0), (293, .iconst 1, 1, 1, 0, 0), (294, .iadd, 1, 0, 0, 0), (295, .invokevirtual 184, 3, 0, 143, 0), (298, .aload_n 0, 1, 0, 0, 0), (299, .getfield 110, 3, 0, 9, 33), (302, .bipush 6, 2, 6, 0, 0), (304, .iload_n 1, 1, 0, 1, 0), (305, .imul, 1, 0, 0, 0), (306, .iconst 2, 1, 2, 0, 0), (307, .iadd, 1, 0, 0, 0), (308, .aload_n 0, 1, 0, 0, 0), (309, .getfield 110, 3, 0, 9, 33), (312, .bipush 6, 2, 6, 0, 0), (314, .iload 5, 2, 0, 5, 0), (316, .imul, 1, 0, 0, 0), (317, .iaload, 1, 0, 0, 0), (318, .iastore, 1, 0, 0, 0), (319, .aload_n 0, 1, 0, 0, 0), (320, .getfield 101, 3, 0, 9, 30), (323, .iload_n 1, 1, 0, 1, 0), (324, .iconst 2, 1, 2, 0, 0), (325, .iastore, 1, 0, 0, 0), (326, .aload_n 0, 1, 0, 0, 0), (327, .iconst 5, 1, 5, 0, 0), (328, .iload 5, 2, 0, 5, 0), (330, .imul, 1, 0, 0, 0), (331, .iconst 5, 1, 5, 0, 0), (332, .iload_n 2, 1, 0, 2, 0), (333, .imul, 1, 0, 0, 0), (334, .iload_n 3, 1, 0, 3, 0), (335, .iadd, 1, 0, 0, 0), (336, .invokevirtual 184, 3, 0, 143, 0), (339, .aload_n 0, 1, 0, 0, 0), (340, .iload 5, 2, 0, 5, 0), (342, .iconst 0, 1, 0, 0, 0), (343, .iconst 0, 1, 0, 0, 0), (344, .invokevirtual 202, 3, 0, 153, 0), (347, .goto 32, 3, 0, 379, 0), (350, .iload 4, 2, 0, 4, 0), (352, .iconst (-1), 1, (-1), 0, 0), (353, .if_icmp .eq 17, 3, 0, 370, 0), (356, .aload_n 0, 1, 0, 0, 0), (357, .iload_n 2, 1, 0, 2, 0), (358, .iload_n 3, 1, 0, 3, 0), (359, .iconst 1, 1, 1, 0, 0), (360, .isub, 1, 0, 0, 0), (361, .iload 4, 2, 0, 4, 0), (363, .iload_n 1, 1, 0, 1, 0), (364, .invokevirtual 208, 3, 0, 156, 0), (367, .goto 12, 3, 0, 379, 0), (370, .aload_n 0, 1, 0, 0, 0), (371, .iload_n 2, 1, 0, 2, 0), (372, .iload_n 3, 1, 0, 3, 0), (373, .iload_n 1, 1, 0, 1, 0), (374, .iload 5, 2, 0, 5, 0), (376, .invokevirtual 208, 3, 0, 156, 0), (379, .return_, 1, 0, 0, 0)]
def kX9_join : List En := [(0, .aload_n 0, 1, 0, 0, 0), (1, .iconst 5, 1, 5, 0, 0), (2, .iload_n 1, 1, 0, 1, 0), (3, .imul, 1, 0, 0, 0), (4, .iload_n 2, 1, 0, 2, 0), (5, .iadd, 1, 0, 0, 0), (6, .iconst 5, 1, 5, 0, 0), (7, .iload_n 3, 1, 0, 3, 0), (8, .imul, 1, 0, 0, 0), (9, .aload_n 0, 1, 0, 0, 0), (10, .getfield 101, 3, 0, 9, 30), (13, .iload_n 3, 1, 0, 3, 0), (14, .iaload, 1, 0, 0, 0), (15, .iadd, 1, 0, 0, 0), (16, .invokevirtual 184, 3, 0, 143, 0), (19, .aload_n 0, 1, 0, 0, 0), (20, .getfield 101, 3, 0, 9, 30), (23, .iload_n 3, 1, 0, 3, 0), (24, .iaload, 1, 0, 0, 0), (25, .iconst 1, 1, 1, 0, 0), (26, .iadd, 1, 0, 0, 0), (27, .istore 5, 2, 0, 5, 0), (29, .iconst 0, 1, 0, 0, 0), (30, .istore 6, 2, 0, 6, 0), (32, .iload 6, 2, 0, 6, 0), (34, .aload_n 0, 1, 0, 0, 0), (35, .getfield 101, 3, 0, 9, 30), (38, .iload 4, 2, 0, 4, 0), (40, .iaload, 1, 0, 0, 0), (41, .if_icmp .ge 29, 3, 0, 70, 0), (44, .aload_n 0, 1, 0, 0, 0), (45, .iconst 5, 1, 5, 0, 0), (46, .iload 4, 2, 0, 4, 0), (48, .imul, 1, 0, 0, 0), (49, .iload 6, 2, 0, 6, 0), (51, .iadd, 1, 0, 0, 0), (52, .iconst 5, 1, 5, 0, 0), (53, .iload_n 3, 1, 0, 3, 0), (54, .imul, 1, 0, 0, 0), (55, .iload 5, 2, 0, 5, 0), (57, .iadd, 1, 0, 0, 0), (58, .iload 6, 2, 0, 6, 0), (60, .iadd, 1, 0, 0, 0), (61, .invokevirtual 184, 3, 0, 143, 0), (64, .iinc 6 1, 3, 1, 6, 0), (67, .goto (-35), 3, 0, 32, 0), (70, .iconst 0, 1, 0, 0, 0), (71, .istore 6, 2, 0, 6, 0), (73, .iload 6, 2, 0, 6, 0), (75, .aload_n 0, 1, 0, 0, 0), (76, .getfield 101, 3, 0, 9, 30), (79, .iload 4, 2, 0, 4, 0), (81, .iaload, 1, 0, 0, 0), (82, .if_icmp .gt 37, 3, 0, 119, 0), (85, .aload_n 0, 1, 0, 0, 0), (86, .getfield 110, 3, 0, 9, 33), (89, .bipush 6, 2, 6, 0, 0), (91, .iload_n 3, 1, 0, 3, 0), (92, .imul, 1, 0, 0, 0), (93, .iload 5, 2, 0, 5, 0), (95, .iadd, 1, 0, 0, 0), (96, .iload 6, 2, 0, 6, 0), (98, .iadd, 1, 0, 0, 0), (99, .aload_n 0, 1, 0, 0, 0), (100, .getfield 110, 3, 0, 9, 33), (103, .bipush 6, 2, 6, 0, 0), (105, .iload 4, 2, 0, 4, 0), (107, .imul, 1, 0, 0, 0), (108, .iload 6, 2, 0, 6, 0), (110, .iadd, 1, 0, 0, 0), (111, .iaload, 1, 0, 0, 0), (112, .iastore, 1, 0, 0, 0), (113, .iinc 6 1, 3, 1, 6, 0), (116, .goto (-43), 3, 0, 73, 0), (119, .aload_n 0, 1, 0, 0, 0), (120, .getfield 101, 3, 0, 9, 30), (123, .iload_n 3, 1, 0, 3, 0), (124, .iload 5, 2, 0, 5, 0), (126, .aload_n 0, 1, 0, 0, 0), (127, .getfield 101, 3, 0, 9, 30), (130, .iload 4, 2, 0, 4, 0), (132, .iaload, 1, 0, 0, 0), (133, .iadd, 1, 0, 0, 0), (134, .iastore, 1, 0, 0, 0), (135, .aload_n 0, 1, 0, 0, 0), (136, .getfield 98, 3, 0, 9, 29), (139, .iload 4, 2, 0, 4, 0), (141, .iconst 0, 1, 0, 0, 0), (142, .bastore, 1, 0, 0, 0), (143, .aload_n 0, 1, 0, 0, 0), (144, .iload_n 1, 1, 0, 1, 0), (145, .iload_n 2, 1, 0, 2, 0), (146, .iload_n 2, 1, 0, 2, 0), (147, .iconst 1, 1, 1, 0, 0), (148, .iadd, 1, 0, 0, 0), (149, .invokevirtual 202, 3, 0, 153, 0), (152, .return_, 1, 0, 0, 0)]
def kX9_goThrough : List En := [(0, .aload_n 0, 1, 0, 0, 0), (1, .iconst 0, 1, 0, 0, 0), (2, .putfield 212, 3, 0, 9, 45), (5, .aload_n 0, 1, 0, 0, 0), (6, .iconst 0, 1, 0, 0, 0), (7, .putfield 175, 3, 0, 9, 42), (10, .aload_n 0, 1, 0, 0, 0), (11, .getfield 129, 3, 0, 9, 43), (14, .iconst 0, 1, 0, 0, 0), (15, .aload_n 0, 1, 0, 0, 0), (16, .getfield 95, 3, 0, 9, 28), (19, .iload_n 1, 1, 0, 1, 0), (20, .iaload, 1, 0, 0, 0), (21, .iastore, 1, 0, 0, 0), (22, .aload_n 0, 1, 0, 0, 0), (23, .getfield 132, 3, 0, 9, 44), (26, .iconst 0, 1, 0, 0, 0), (27, .iconst 0, 1, 0, 0, 0), (28, .iastore, 1, 0, 0, 0), (29, .aload_n 0, 1, 0, 0, 0), (30, .getfield 175, 3, 0, 9, 42), (33, .ifCond .lt 187, 3, 0, 220, 0), (36, .aload_n 0, 1, 0, 0, 0), (37, .getfield 129, 3, 0, 9, 43), (40, .aload_n 0, 1, 0, 0, 0), (41, .getfield 175, 3, 0, 9, 42), (44, .iaload, 1, 0, 0, 0), (45, .istore_n 2, 1, 0, 2, 0), (46, .aload_n 0, 1, 0, 0, 0), (47, .getfield 132, 3, 0, 9, 44), (50, .aload_n 0, 1, 0, 0, 0), (51, .getfield 175, 3, 0, 9, 42), (54, .iaload, 1, 0, 0, 0), (55, .istore_n 3, 1, 0, 3, 0), (56, .iload_n 3, 1, 0, 3, 0), (57, .aload_n 0, 1, 0, 0, 0), (58, .getfield 101, 3, 0, 9, 30), (61, .iload_n 2, 1, 0, 2, 0), (62, .iaload, 1, 0, 0, 0), (63, .if_icmp .gt 67, 3, 0, 130, 0), (66, .aload_n 0, 1, 0, 0, 0), (67, .iload_n 2, 1, 0, 2, 0), (68, .invokevirtual 181, 3, 0, 147, 0), (71, .ifCond .ne 59, 3, 0, 130, 0), (74, .aload_n 0, 1, 0, 0, 0), (75, .getfield 132, 3, 0, 9, 44), (78, .aload_n 0, 1, 0, 0, 0), (79, .getfield 175, 3, 0, 9, 42), (82, .iload_n 3, 1, 0, 3, 0), (83, .bipush 10, 2, 10, 0, 0), (85, .iadd, 1, 0, 0, 0), (86, .iastore, 1, 0, 0, 0), (87, .aload_n 0, 1, 0, 0, 0), (88, .dup, 1, 0, 0, 0), (89, .getfield 175, 3, 0, 9, 42), (92, .iconst 1, 1, 1, 0, 0), (93, .iadd, 1, 0, 0, 0), (94, .putfield 175, 3, 0, 9, 42), (97, .aload_n 0, 1, 0, 0, 0), (98, .getfield 129, 3, 0, 9, 43), (101, .aload_n 0, 1, 0, 0, 0), (102, .getfield 175, 3, 0, 9, 42), (105, .aload_n 0, 1, 0, 0, 0), (106, .getfield 110, 3, 0, 9, 33), (109, .bipush 6, 2, 6, 0, 0), (111, .iload_n 2, 1, 0, 2, 0), (112, .imul, 1, 0, 0, 0), (113, .iload_n 3, 1, 0, 3, 0), (114, .iadd, 1, 0, 0, 0), (115, .iaload, 1, 0, 0, 0), (116, .iastore, 1, 0, 0, 0), (117, .aload_n 0, 1, 0, 0, 0), (118, .getfield 132, 3, 0, 9, 44), (121, .aload_n 0, 1, 0, 0, 0), (122, .getfield 175, 3, 0, 9, 42), (125, .iconst 0, 1, 0, 0, 0), (126, .iastore, 1, 0, 0, 0), (127, .goto 90, 3, 0, 217, 0), (130, .iload_n 3, 1, 0, 3, 0), (131, .bipush 10, 2, 10, 0, 0), (133, .if_icmp .lt 10, 3, 0, 143, 0), (136, .iload_n 3, 1, 0, 3, 0), (137, .bipush 10, 2, 10, 0, 0), (139, .isub, 1, 0, 0, 0), (140, .goto 4, 3, 0, 144, 0), (143, .iload_n 3, 1, 0, 3, 0), (144, .istore_n 3, 1, 0, 3, 0), (145, .iload_n 3, 1, 0, 3, 0), (146, .aload_n 0, 1, 0, 0, 0), (147, .getfield 101, 3, 0, 9, 30), (150, .iload_n 2, 1, 0, 2, 0), (151, .iaload, 1, 0, 0, 0), (152, .if_icmp .ge 55, 3, 0, 207, 0), (155, .aload_n 0, 1, 0, 0, 0), (156, .getfield 135, 3, 0, 9, 46), (159, .aload_n 0, 1, 0, 0, 0), (160, .getfield 212, 3, 0, 9, 45), (163, .iconst 5, 1, 5, 0, 0), (164, .iload_n 2, 1, 0, 2, 0), (165, .imul, 1, 0, 0, 0), (166, .iload_n 3, 1, 0, 3, 0), (167, .iadd, 1, 0, 0, 0), (168, .iastore, 1, 0, 0, 0), (169, .aload_n 0, 1, 0, 0, 0), (170, .getfield 138, 3, 0, 9, 47), (173, .aload_n 0, 1, 0, 0, 0), (174, .getfield 212, 3, 0, 9, 45), (177, .aload_n 0, 1, 0, 0, 0), (178, .getfield 175, 3, 0, 9, 42), (181, .iastore, 1, 0, 0, 0), (182, .aload_n 0, 1, 0, 0, 0), (183, .dup, 1, 0, 0, 0), (184, .getfield 212, 3, 0, 9, 45), (187, .iconst 1, 1, 1, 0, 0), (188, .iadd, 1, 0, 0, 0), (189, .putfield 212, 3, 0, 9, 45), (192, .aload_n 0, 1, 0, 0, 0), (193, .getfield 132, 3, 0, 9, 44), (196, .aload_n 0, 1, 0, 0, 0), (197, .getfield 175, 3, 0, 9, 42), (200, .iload_n 3, 1, 0, 3, 0), (201, .iconst 1, 1, 1, 0, 0), (202, .iadd, 1, 0, 0, 0), (203, .iastore, 1, 0, 0, 0), (204, .goto 13, 3, 0, 217, 0), (207, .aload_n 0, 1, 0, 0, 0), (208, .dup, 1, 0, 0, 0), (209, .getfield 175, 3, 0, 9, 42), (212, .iconst 1, 1, 1, 0, 0), (213, .isub, 1, 0, 0, 0), (214, .putfield 175, 3, 0, 9, 42), (217, .goto (-188), 3, 0, 29, 0), (220, .return_, 1, 0, 0, 0)]
def kX9_heightOf : List En := [(0, .iconst 1, 1, 1, 0, 0), (1, .istore_n 2, 1, 0, 2, 0), (2, .aload_n 0, 1, 0, 0, 0), (3, .getfield 95, 3, 0, 9, 28), (6, .iload_n 1, 1, 0, 1, 0), (7, .iaload, 1, 0, 0, 0), (8, .istore_n 3, 1, 0, 3, 0), (9, .aload_n 0, 1, 0, 0, 0), (10, .iload_n 3, 1, 0, 3, 0), (11, .invokevirtual 181, 3, 0, 147, 0), (14, .ifCond .ne 19, 3, 0, 33, 0), (17, .aload_n 0, 1, 0, 0, 0), (18, .getfield 110, 3, 0, 9, 33), (21, .bipush 6, 2, 6, 0, 0), (23, .iload_n 3, 1, 0, 3, 0), (24, .imul, 1, 0, 0, 0), (25, .iaload, 1, 0, 0, 0), (26, .istore_n 3, 1, 0, 3, 0), (27, .iinc 2 1, 3, 1, 2, 0), (30, .goto (-21), 3, 0, 9, 0), (33, .iload_n 2, 1, 0, 2, 0), (34, .ireturn, 1, 0, 0, 0)]
def kX9_nodesOf : List En := [(0, .iconst 0, 1, 0, 0, 0), (1, .istore_n 2, 1, 0, 2, 0), (2, .sipush 360, 3, 360, 0, 0), (5, .iload_n 1, 1, 0, 1, 0), (6, .imul, 1, 0, 0, 0), (7, .istore_n 3, 1, 0, 3, 0), (8, .iload_n 3, 1, 0, 3, 0), (9, .sipush 360, 3, 360, 0, 0), (12, .iload_n 1, 1, 0, 1, 0), (13, .imul, 1, 0, 0, 0), (14, .sipush 360, 3, 360, 0, 0), (17, .iadd, 1, 0, 0, 0), (18, .if_icmp .ge 26, 3, 0, 44, 0), (21, .aload_n 0, 1, 0, 0, 0), (22, .getfield 98, 3, 0, 9, 29), (25, .iload_n 3, 1, 0, 3, 0), (26, .baload, 1, 0, 0, 0), (27, .ifCond .eq 9, 3, 0, 36, 0), (30, .iload_n 2, 1, 0, 2, 0), (31, .iconst 1, 1, 1, 0, 0), (32, .iadd, 1, 0, 0, 0), (33, .goto 4, 3, 0, 37, 0), (36, .iload_n 2, 1, 0, 2, 0), (37, .istore_n 2, 1, 0, 2, 0), (38, .iinc 3 1, 3, 1, 3, 0), (41, .goto (-33), 3, 0, 8, 0), (44, .iload_n 2, 1, 0, 2, 0), (45, .ireturn, 1, 0, 0, 0)]
def kX9_fail : List En := [(0, .aload_n 0, 1, 0, 0, 0), (1, .getfield 56, 3, 0, 9, 15), (4, .iload_n 1, 1, 0, 1, 0), (5, .iconst 5, 1, 5, 0, 0), (6, .iastore, 1, 0, 0, 0), (7, .aload_n 0, 1, 0, 0, 0), (8, .getfield 62, 3, 0, 9, 17), (11, .iload_n 1, 1, 0, 1, 0), (12, .iload_n 2, 1, 0, 2, 0), (13, .iastore, 1, 0, 0, 0), (14, .aload_n 0, 1, 0, 0, 0), (15, .getfield 71, 3, 0, 9, 20), (18, .iload_n 1, 1, 0, 1, 0), (19, .iconst 0, 1, 0, 0, 0), (20, .iastore, 1, 0, 0, 0), (21, .aload_n 0, 1, 0, 0, 0), (22, .getfield 83, 3, 0, 9, 24), (25, .iload_n 1, 1, 0, 1, 0), (26, .iconst 0, 1, 0, 0, 0), (27, .iastore, 1, 0, 0, 0), (28, .aload_n 0, 1, 0, 0, 0), (29, .iload_n 1, 1, 0, 1, 0), (30, .invokevirtual 215, 3, 0, 146, 0), (33, .return_, 1, 0, 0, 0)]
def kX9_note : List En := [(0, .aload_n 0, 1, 0, 0, 0), (1, .getfield 56, 3, 0, 9, 15), (4, .iload_n 1, 1, 0, 1, 0), (5, .iaload, 1, 0, 0, 0), (6, .iconst 4, 1, 4, 0, 0), (7, .if_icmp .ne 23, 3, 0, 30, 0), (10, .iload_n 2, 1, 0, 2, 0), (11, .ifCond .eq 11, 3, 0, 22, 0), (14, .aload_n 0, 1, 0, 0, 0), (15, .iload_n 1, 1, 0, 1, 0), (16, .invokevirtual 218, 3, 0, 152, 0), (19, .goto 129, 3, 0, 148, 0), (22, .aload_n 0, 1, 0, 0, 0), (23, .iload_n 1, 1, 0, 1, 0), (24, .invokevirtual 221, 3, 0, 154, 0), (27, .goto 121, 3, 0, 148, 0), (30, .aload_n 0, 1, 0, 0, 0), (31, .getfield 56, 3, 0, 9, 15), (34, .iload_n 1, 1, 0, 1, 0), (35, .iaload, 1, 0, 0, 0), (36, .iconst 4, 1, 4, 0, 0), (37, .if_icmp .ge 111, 3, 0, 148, 0), (40, .aload_n 0, 1, 0, 0, 0), (41, .getfield 165, 3, 0, 9, 41), (44, .bipush 8, 2, 8, 0, 0), (46, .idiv, 1, 0, 0, 0), (47, .aload_n 0, 1, 0, 0, 0), (48, .getfield 59, 3, 0, 9, 16), (51, .iload_n 1, 1, 0, 1, 0), (52, .iaload, 1, 0, 0, 0), (53, .if_icmp .ge 95, 3, 0, 148, 0), (56, .aload_n 0, 1, 0, 0, 0), (57, .getfield 71, 3, 0, 9, 20), (60, .iload_n 1, 1, 0, 1, 0), (61, .iaload, 1, 0, 0, 0), (62, .sipush 300, 3, 300, 0, 0), (65, .if_icmp .ne 10, 3, 0, 75, 0), (68, .aload_n 0, 1, 0, 0, 0), (69, .iload_n 1, 1, 0, 1, 0), (70, .iconst 2, 1, 2, 0, 0), (71, .invokevirtual 224, 3, 0, 160, 0), (74, .return_, 1, 0, 0, 0), (75, .sipush 300, 3, 300, 0, 0), (78, .iload_n 1, 1, 0, 1, 0), (79, .imul, 1, 0, 0, 0), (80, .aload_n 0, 1, 0, 0, 0), (81, .getfield 71, 3, 0, 9, 20), (84, .iload_n 1, 1, 0, 1, 0), (85, .iaload, 1, 0, 0, 0), (86, .iadd, 1, 0, 0, 0), (87, .istore_n 3, 1, 0, 3, 0), (88, .aload_n 0, 1, 0, 0, 0), (89, .getfield 71, 3, 0, 9, 20), (92, .iload_n 1, 1, 0, 1, 0), (93, .dup2, 1, 0, 0, 0), (94, .iaload, 1, 0, 0, 0), (95, .iconst 1, 1, 1, 0, 0), (96, .iadd, 1, 0, 0, 0), (97, .iastore, 1, 0, 0, 0), (98, .aload_n 0, 1, 0, 0, 0), (99, .getfield 74, 3, 0, 9, 21), (102, .iload_n 3, 1, 0, 3, 0), (103, .iload_n 2, 1, 0, 2, 0), (104, .bastore, 1, 0, 0, 0), (105, .aload_n 0, 1, 0, 0, 0), (106, .getfield 80, 3, 0, 9, 23), (109, .iload_n 3, 1, 0, 3, 0), (110, .aload_n 0, 1, 0, 0, 0), (111, .getfield 165, 3, 0, 9, 41), (114, .iastore, 1, 0, 0, 0), (115, .iconst 0, 1, 0, 0, 0), (116, .istore 4, 2, 0, 4, 0), (118, .iload 4, 2, 0, 4, 0), (120, .iconst 3, 1, 3, 0, 0), (121, .if_icmp .ge 27, 3, 0, 148, 0), (124, .aload_n 0, 1, 0, 0, 0), (125, .getfield 77, 3, 0, 9, 22), (128, .iconst 3, 1, 3, 0, 0), (129, .iload_n 3, 1, 0, 3, 0), (130, .imul, 1, 0, 0, 0), (131, .iload 4, 2, 0, 4, 0), (133, .iadd, 1, 0, 0, 0), (134, .aload_n 0, 1, 0, 0, 0), (135, .getfield 126, 3, 0, 9, 40), (138, .iload 4, 2, 0, 4, 0), (140, .iaload, 1, 0, 0, 0), (141, .iastore, 1, 0, 0, 0), (142, .iinc 4 1, 3, 1, 4, 0), (145, .goto (-27), 3, 0, 118, 0), (148, .return_, 1, 0, 0, 0)]
def kX9_keepBefore : List En := [(0, .aload_n 0, 1, 0, 0, 0), (1, .aload_n 0, 1, 0, 0, 0), (2, .getfield 16, 3, 0, 9, 2), (5, .iload_n 1, 1, 0, 1, 0), (6, .baload, 1, 0, 0, 0), (7, .putfield 227, 3, 0, 9, 49), (10, .aload_n 0, 1, 0, 0, 0), (11, .aload_n 0, 1, 0, 0, 0), (12, .getfield 20, 3, 0, 9, 3), (15, .iload_n 1, 1, 0, 1, 0), (16, .baload, 1, 0, 0, 0), (17, .putfield 231, 3, 0, 9, 50), (20, .iconst 0, 1, 0, 0, 0), (21, .istore_n 2, 1, 0, 2, 0), (22, .iload_n 2, 1, 0, 2, 0), (23, .iconst 4, 1, 4, 0, 0), (24, .if_icmp .ge 43, 3, 0, 67, 0), (27, .aload_n 0, 1, 0, 0, 0), (28, .getfield 141, 3, 0, 9, 48), (31, .iload_n 2, 1, 0, 2, 0), (32, .aload_n 0, 1, 0, 0, 0), (33, .getfield 7, 3, 0, 9, 0), (36, .iconst 4, 1, 4, 0, 0), (37, .iload_n 1, 1, 0, 1, 0), (38, .imul, 1, 0, 0, 0), (39, .iload_n 2, 1, 0, 2, 0), (40, .iadd, 1, 0, 0, 0), (41, .iaload, 1, 0, 0, 0), (42, .iastore, 1, 0, 0, 0), (43, .aload_n 0, 1, 0, 0, 0), (44, .getfield 141, 3, 0, 9, 48), (47, .iconst 4, 1, 4, 0, 0), (48, .iload_n 2, 1, 0, 2, 0), (49, .iadd, 1, 0, 0, 0), (50, .aload_n 0, 1, 0, 0, 0), (51, .getfield 13, 3, 0, 9, 1), (54, .iconst 4, 1, 4, 0, 0), (55, .iload_n 1, 1, 0, 1, 0), (56, .imul, 1, 0, 0, 0), (57, .iload_n 2, 1, 0, 2, 0), (58, .iadd, 1, 0, 0, 0), (59, .iaload, 1, 0, 0, 0), (60, .iastore, 1, 0, 0, 0), (61, .iinc 2 1, 3, 1, 2, 0), (64, .goto (-42), 3, 0, 22, 0), (67, .return_, 1, 0, 0, 0)]
def kX9_sameKey : List En := [(0, .iconst 1, 1, 1, 0, 0), (1, .istore 6, 2, 0, 6, 0), (3, .iconst 0, 1, 0, 0, 0), (4, .istore 7, 2, 0, 7, 0), (6, .iload 7, 2, 0, 7, 0), (8, .aload_n 0, 1, 0, 0, 0), (9, .getfield 47, 3, 0, 9, 12), (12, .iload_n 1, 1, 0, 1, 0), (13, .iaload, 1, 0, 0, 0), (14, .if_icmp .ge 51, 3, 0, 65, 0), (17, .aload_n 0, 1, 0, 0, 0), (18, .getfield 50, 3, 0, 9, 13), (21, .iconst 3, 1, 3, 0, 0), (22, .iload_n 1, 1, 0, 1, 0), (23, .imul, 1, 0, 0, 0), (24, .iload 7, 2, 0, 7, 0), (26, .iadd, 1, 0, 0, 0), (27, .iaload, 1, 0, 0, 0), (28, .istore 8, 2, 0, 8, 0), (30, .iload 6, 2, 0, 6, 0), (32, .ifCond .eq 24, 3, 0, 56, 0), (35, .aload_n 2, 1, 0, 2, 0), (36, .iload_n 3, 1, 0, 3, 0), (37, .iload 8, 2, 0, 8, 0), (39, .iadd, 1, 0, 0, 0), (40, .iaload, 1, 0, 0, 0), (41, .aload 4, 2, 0, 4, 0), (43, .iload 5, 2, 0, 5, 0), (45, .iload 8, 2, 0, 8, 0), (47, .iadd, 1, 0, 0, 0), (48, .iaload, 1, 0, 0, 0), (49, .if_icmp .ne 7, 3, 0, 56, 0), (52, .iconst 1, 1, 1, 0, 0), (53, .goto 4, 3, 0, 57, 0), (56, .iconst 0, 1, 0, 0, 0), (57, .istore 6, 2, 0, 6, 0), (59, .iinc 7 1, 3, 1, 7, 0), (62, .goto (-56), 3, 0, 6, 0), (65, .iload 6, 2, 0, 6, 0), (67, .ireturn, 1, 0, 0, 0)]
def kX9_hadKey : List En := [(0, .aload_n 0, 1, 0, 0, 0), (1, .getfield 227, 3, 0, 9, 49), (4, .ifCond .eq 18, 3, 0, 22, 0), (7, .aload_n 0, 1, 0, 0, 0), (8, .iload_n 1, 1, 0, 1, 0), (9, .aload_n 2, 1, 0, 2, 0), (10, .iload_n 3, 1, 0, 3, 0), (11, .aload_n 0, 1, 0, 0, 0), (12, .getfield 141, 3, 0, 9, 48), (15, .iconst 0, 1, 0, 0, 0), (16, .invokevirtual 234, 3, 0, 163, 0), (19, .ifCond .ne 25, 3, 0, 44, 0), (22, .aload_n 0, 1, 0, 0, 0), (23, .getfield 231, 3, 0, 9, 50), (26, .ifCond .eq 22, 3, 0, 48, 0), (29, .aload_n 0, 1, 0, 0, 0), (30, .iload_n 1, 1, 0, 1, 0), (31, .aload_n 2, 1, 0, 2, 0), (32, .iload_n 3, 1, 0, 3, 0), (33, .aload_n 0, 1, 0, 0, 0), (34, .getfield 141, 3, 0, 9, 48), (37, .iconst 4, 1, 4, 0, 0), (38, .invokevirtual 234, 3, 0, 163, 0), (41, .ifCond .eq 7, 3, 0, 48, 0), (44, .iconst 1, 1, 1, 0, 0), (45, .goto 4, 3, 0, 49, 0), (48, .iconst 0, 1, 0, 0, 0), (49, .ireturn, 1, 0, 0, 0)]
def kX9_hasKey : List En := [(0, .aload_n 0, 1, 0, 0, 0), (1, .getfield 16, 3, 0, 9, 2), (4, .iload_n 2, 1, 0, 2, 0), (5, .baload, 1, 0, 0, 0), (6, .ifCond .eq 21, 3, 0, 27, 0), (9, .aload_n 0, 1, 0, 0, 0), (10, .iload_n 1, 1, 0, 1, 0), (11, .aload_n 3, 1, 0, 3, 0), (12, .iload 4, 2, 0, 4, 0), (14, .aload_n 0, 1, 0, 0, 0), (15, .getfield 7, 3, 0, 9, 0), (18, .iconst 4, 1, 4, 0, 0), (19, .iload_n 2, 1, 0, 2, 0), (20, .imul, 1, 0, 0, 0), (21, .invokevirtual 234, 3, 0, 163, 0), (24, .ifCond .ne 30, 3, 0, 54, 0), (27, .aload_n 0, 1, 0, 0, 0), (28, .getfield 20, 3, 0, 9, 3), (31, .iload_n 2, 1, 0, 2, 0), (32, .baload, 1, 0, 0, 0), (33, .ifCond .eq 25, 3, 0, 58, 0), (36, .aload_n 0, 1, 0, 0, 0), (37, .iload_n 1, 1, 0, 1, 0), (38, .aload_n 3, 1, 0, 3, 0), (39, .iload 4, 2, 0, 4, 0), (41, .aload_n 0, 1, 0, 0, 0), (42, .getfield 13, 3, 0, 9, 1), (45, .iconst 4, 1, 4, 0, 0), (46, .iload_n 2, 1, 0, 2, 0), (47, .imul, 1, 0, 0, 0), (48, .invokevirtual 234, 3, 0, 163, 0), (51, .ifCond .eq 7, 3, 0, 58, 0), (54, .iconst 1, 1, 1, 0, 0), (55, .goto 4, 3, 0, 59, 0), (58, .iconst 0, 1, 0, 0, 0), (59, .ireturn, 1, 0, 0, 0)]
def kX9_changed : List En := [(0, .iconst 0, 1, 0, 0, 0), (1, .istore_n 2, 1, 0, 2, 0), (2, .iload_n 2, 1, 0, 2, 0), (3, .bipush 6, 2, 6, 0, 0), (5, .if_icmp .ge 196, 3, 0, 201, 0), (8, .aload_n 0, 1, 0, 0, 0), (9, .getfield 44, 3, 0, 9, 11), (12, .iload_n 2, 1, 0, 2, 0), (13, .baload, 1, 0, 0, 0), (14, .ifCond .eq 181, 3, 0, 195, 0), (17, .aload_n 0, 1, 0, 0, 0), (18, .getfield 56, 3, 0, 9, 15), (21, .iload_n 2, 1, 0, 2, 0), (22, .iaload, 1, 0, 0, 0), (23, .iconst 5, 1, 5, 0, 0), (24, .if_icmp .eq 171, 3, 0, 195, 0), (27, .aload_n 0, 1, 0, 0, 0), (28, .getfield 16, 3, 0, 9, 2), (31, .iload_n 1, 1, 0, 1, 0), (32, .baload, 1, 0, 0, 0), (33, .ifCond .eq 40, 3, 0, 73, 0), (36, .aload_n 0, 1, 0, 0, 0), (37, .iload_n 2, 1, 0, 2, 0), (38, .aload_n 0, 1, 0, 0, 0), (39, .getfield 7, 3, 0, 9, 0), (42, .iconst 4, 1, 4, 0, 0), (43, .iload_n 1, 1, 0, 1, 0), (44, .imul, 1, 0, 0, 0), (45, .invokevirtual 238, 3, 0, 164, 0), (48, .ifCond .ne 25, 3, 0, 73, 0), (51, .aload_n 0, 1, 0, 0, 0), (52, .iload_n 2, 1, 0, 2, 0), (53, .aload_n 0, 1, 0, 0, 0), (54, .getfield 7, 3, 0, 9, 0), (57, .iconst 4, 1, 4, 0, 0), (58, .iload_n 1, 1, 0, 1, 0), (59, .imul, 1, 0, 0, 0), (60, .iload_n 1, 1, 0, 1, 0), (61, .invokevirtual 242, 3, 0, 141, 0), (64, .aload_n 0, 1, 0, 0, 0), (65, .iload_n 2, 1, 0, 2, 0), (66, .iconst 1, 1, 1, 0, 0), (67, .invokevirtual 246, 3, 0, 161, 0), (70, .goto 46, 3, 0, 116, 0), (73, .aload_n 0, 1, 0, 0, 0), (74, .getfield 20, 3, 0, 9, 3), (77, .iload_n 1, 1, 0, 1, 0), (78, .baload, 1, 0, 0, 0), (79, .ifCond .eq 37, 3, 0, 116, 0), (82, .aload_n 0, 1, 0, 0, 0), (83, .iload_n 2, 1, 0, 2, 0), (84, .aload_n 0, 1, 0, 0, 0), (85, .getfield 13, 3, 0, 9, 1), (88, .iconst 4, 1, 4, 0, 0), (89, .iload_n 1, 1, 0, 1, 0), (90, .imul, 1, 0, 0, 0), (91, .invokevirtual 238, 3, 0, 164, 0), (94, .ifCond .ne 22, 3, 0, 116, 0), (97, .aload_n 0, 1, 0, 0, 0), (98, .iload_n 2, 1, 0, 2, 0), (99, .aload_n 0, 1, 0, 0, 0), (100, .getfield 13, 3, 0, 9, 1), (103, .iconst 4, 1, 4, 0, 0), (104, .iload_n 1, 1, 0, 1, 0), (105, .imul, 1, 0, 0, 0), (106, .iload_n 1, 1, 0, 1, 0), (107, .invokevirtual 242, 3, 0, 141, 0), (110, .aload_n 0, 1, 0, 0, 0), (111, .iload_n 2, 1, 0, 2, 0), (112, .iconst 1, 1, 1, 0, 0), (113, .invokevirtual 246, 3, 0, 161, 0), (116, .aload_n 0, 1, 0, 0, 0), (117, .getfield 227, 3, 0, 9, 49), (120, .ifCond .eq 37, 3, 0, 157, 0), (123, .aload_n 0, 1, 0, 0, 0), (124, .iload_n 2, 1, 0, 2, 0), (125, .iload_n 1, 1, 0, 1, 0), (126, .aload_n 0, 1, 0, 0, 0), (127, .getfield 141, 3, 0, 9, 48), (130, .iconst 0, 1, 0, 0, 0), (131, .invokevirtual 250, 3, 0, 165, 0), (134, .ifCond .ne 23, 3, 0, 157, 0), (137, .aload_n 0, 1, 0, 0, 0), (138, .iload_n 2, 1, 0, 2, 0), (139, .aload_n 0, 1, 0, 0, 0), (140, .getfield 141, 3, 0, 9, 48), (143, .iconst 0, 1, 0, 0, 0), (144, .iload_n 1, 1, 0, 1, 0), (145, .invokevirtual 242, 3, 0, 141, 0), (148, .aload_n 0, 1, 0, 0, 0), (149, .iload_n 2, 1, 0, 2, 0), (150, .iconst 0, 1, 0, 0, 0), (151, .invokevirtual 246, 3, 0, 161, 0), (154, .goto 41, 3, 0, 195, 0), (157, .aload_n 0, 1, 0, 0, 0), (158, .getfield 231, 3, 0, 9, 50), (161, .ifCond .eq 34, 3, 0, 195, 0), (164, .aload_n 0, 1, 0, 0, 0), (165, .iload_n 2, 1, 0, 2, 0), (166, .iload_n 1, 1, 0, 1, 0), (167, .aload_n 0, 1, 0, 0, 0), (168, .getfield 141, 3, 0, 9, 48), (171, .iconst 4, 1, 4, 0, 0), (172, .invokevirtual 250, 3, 0, 165, 0), (175, .ifCond .ne 20, 3, 0, 195, 0), (178, .aload_n 0, 1, 0, 0, 0), (179, .iload_n 2, 1, 0, 2, 0), (180, .aload_n 0, 1, 0, 0, 0), (181, .getfield 141, 3, 0, 9, 48), (184, .iconst 4, 1, 4, 0, 0), (185, .iload_n 1, 1, 0, 1, 0), (186, .invokevirtual 242, 3, 0, 141, 0), (189, .aload_n 0, 1, 0, 0, 0), (190, .iload_n 2, 1, 0, 2, 0), (191, .iconst 0, 1, 0, 0, 0), (192, .invokevirtual 246, 3, 0, 161, 0), (195, .iinc 2 1, 3, 1, 2, 0), (198, .goto (-196), 3, 0, 2, 0), (201, .return_, 1, 0, 0, 0)]
def kX9_sharesKey : List En := [(0, .iload 4, 2, 0, 4, 0), (2, .ifCond .eq 15, 3, 0, 17, 0), (5, .aload_n 0, 1, 0, 0, 0), (6, .getfield 16, 3, 0, 9, 2), (9, .iload_n 2, 1, 0, 2, 0), (10, .baload, 1, 0, 0, 0), (11, .ifCond .eq 45, 3, 0, 56, 0), (14, .goto 12, 3, 0, 26, 0), (17, .aload_n 0, 1, 0, 0, 0), (18, .getfield 20, 3, 0, 9, 3), (21, .iload_n 2, 1, 0, 2, 0), (22, .baload, 1, 0, 0, 0), (23, .ifCond .eq 33, 3, 0, 56, 0), (26, .iload 5, 2, 0, 5, 0), (28, .ifCond .eq 15, 3, 0, 43, 0), (31, .aload_n 0, 1, 0, 0, 0), (32, .getfield 16, 3, 0, 9, 2), (35, .iload_n 3, 1, 0, 3, 0), (36, .baload, 1, 0, 0, 0), (37, .ifCond .eq 19, 3, 0, 56, 0), (40, .goto 12, 3, 0, 52, 0), (43, .aload_n 0, 1, 0, 0, 0), (44, .getfield 20, 3, 0, 9, 3), (47, .iload_n 3, 1, 0, 3, 0), (48, .baload, 1, 0, 0, 0), (49, .ifCond .eq 7, 3, 0, 56, 0), (52, .iconst 1, 1, 1, 0, 0), (53, .goto 4, 3, 0, 57, 0), (56, .iconst 0, 1, 0, 0, 0), (57, .istore 6, 2, 0, 6, 0), (59, .iload 6, 2, 0, 6, 0), (61, .ifCond .eq 53, 3, 0, 114, 0), (64, .aload_n 0, 1, 0, 0, 0), (65, .iload_n 1, 1, 0, 1, 0), (66, .iload 4, 2, 0, 4, 0), (68, .ifCond .eq 10, 3, 0, 78, 0), (71, .aload_n 0, 1, 0, 0, 0), (72, .getfield 7, 3, 0, 9, 0), (75, .goto 7, 3, 0, 82, 0), (78, .aload_n 0, 1, 0, 0, 0), (79, .getfield 13, 3, 0, 9, 1), (82, .iconst 4, 1, 4, 0, 0), (83, .iload_n 2, 1, 0, 2, 0), (84, .imul, 1, 0, 0, 0), (85, .iload 5, 2, 0, 5, 0), (87, .ifCond .eq 10, 3, 0, 97, 0), (90, .aload_n 0, 1, 0, 0, 0), (91, .getfield 7, 3, 0, 9, 0), (94, .goto 7, 3, 0, 101, 0), (97, .aload_n 0, 1, 0, 0, 0), (98, .getfield 13, 3, 0, 9, 1), (101, .iconst 4, 1, 4, 0, 0), (102, .iload_n 3, 1, 0, 3, 0), (103, .imul, 1, 0, 0, 0), (104, .invokevirtual 234, 3, 0, 163, 0), (107, .ifCond .eq 7, 3, 0, 114, 0), (110, .iconst 1, 1, 1, 0, 0), (111, .goto 4, 3, 0, 115, 0), (114, .iconst 0, 1, 0, 0, 0), (115, .ireturn, 1, 0, 0, 0)]
def kX9_clash : List En := [(0, .iload_n 2, 1, 0, 2, 0), (1, .iload_n 3, 1, 0, 3, 0), (2, .if_icmp .ne 5, 3, 0, 7, 0), (5, .iconst 0, 1, 0, 0, 0), (6, .ireturn, 1, 0, 0, 0), (7, .aload_n 0, 1, 0, 0, 0), (8, .iload_n 1, 1, 0, 1, 0), (9, .iload_n 2, 1, 0, 2, 0), (10, .iload_n 3, 1, 0, 3, 0), (11, .iconst 0, 1, 0, 0, 0), (12, .iconst 0, 1, 0, 0, 0), (13, .invokevirtual 254, 3, 0, 167, 0), (16, .ifCond .ne 15, 3, 0, 31, 0), (19, .aload_n 0, 1, 0, 0, 0), (20, .iload_n 1, 1, 0, 1, 0), (21, .iload_n 2, 1, 0, 2, 0), (22, .iload_n 3, 1, 0, 3, 0), (23, .iconst 1, 1, 1, 0, 0), (24, .iconst 1, 1, 1, 0, 0), (25, .invokevirtual 254, 3, 0, 167, 0), (28, .ifCond .eq 5, 3, 0, 33, 0), (31, .iconst 1, 1, 1, 0, 0), (32, .ireturn, 1, 0, 0, 0), (33, .aload_n 0, 1, 0, 0, 0), (34, .getfield 23, 3, 0, 9, 4), (37, .iload_n 2, 1, 0, 2, 0), (38, .iaload, 1, 0, 0, 0), (39, .iconst (-1), 1, (-1), 0, 0), (40, .if_icmp .eq 22, 3, 0, 62, 0), (43, .aload_n 0, 1, 0, 0, 0), (44, .getfield 23, 3, 0, 9, 4), (47, .iload_n 2, 1, 0, 2, 0), (48, .iaload, 1, 0, 0, 0), (49, .aload_n 0, 1, 0, 0, 0), (50, .getfield 23, 3, 0, 9, 4), (53, .iload_n 3, 1, 0, 3, 0), (54, .iaload, 1, 0, 0, 0), (55, .if_icmp .ne 7, 3, 0, 62, 0), (58, .iconst 1, 1, 1, 0, 0), (59, .goto 4, 3, 0, 63, 0), (62, .iconst 0, 1, 0, 0, 0), (63, .istore 4, 2, 0, 4, 0), (65, .iload 4, 2, 0, 4, 0), (67, .ifCond .ne 31, 3, 0, 98, 0), (70, .aload_n 0, 1, 0, 0, 0), (71, .iload_n 1, 1, 0, 1, 0), (72, .iload_n 2, 1, 0, 2, 0), (73, .iload_n 3, 1, 0, 3, 0), (74, .iconst 1, 1, 1, 0, 0), (75, .iconst 0, 1, 0, 0, 0), (76, .invokevirtual 254, 3, 0, 167, 0), (79, .ifCond .ne 15, 3, 0, 94, 0), (82, .aload_n 0, 1, 0, 0, 0), (83, .iload_n 1, 1, 0, 1, 0), (84, .iload_n 2, 1, 0, 2, 0), (85, .iload_n 3, 1, 0, 3, 0), (86, .iconst 0, 1, 0, 0, 0), (87, .iconst 1, 1, 1, 0, 0), (88, .invokevirtual 254, 3, 0, 167, 0), (91, .ifCond .eq 7, 3, 0, 98, 0), (94, .iconst 1, 1, 1, 0, 0), (95, .goto 4, 3, 0, 99, 0), (98, .iconst 0, 1, 0, 0, 0), (99, .ireturn, 1, 0, 0, 0)]
def kX9_clashOf : List En := [(0, .iconst 0, 1, 0, 0, 0), (1, .istore_n 3, 1, 0, 3, 0), (2, .iload_n 3, 1, 0, 3, 0), (3, .sipush 320, 3, 320, 0, 0), (6, .if_icmp .ge 21, 3, 0, 27, 0), (9, .aload_n 0, 1, 0, 0, 0), (10, .iload_n 1, 1, 0, 1, 0), (11, .iload_n 2, 1, 0, 2, 0), (12, .iload_n 3, 1, 0, 3, 0), (13, .invokevirtual 258, 3, 0, 168, 0), (16, .ifCond .eq 5, 3, 0, 21, 0), (19, .iload_n 3, 1, 0, 3, 0), (20, .ireturn, 1, 0, 0, 0), (21, .iinc 3 1, 3, 1, 3, 0), (24, .goto (-22), 3, 0, 2, 0), (27, .iconst (-1), 1, (-1), 0, 0), (28, .ireturn, 1, 0, 0, 0)]
def kX9_begin : List En := [(0, .iconst 0, 1, 0, 0, 0), (1, .istore_n 1, 1, 0, 1, 0), (2, .iload_n 1, 1, 0, 1, 0), (3, .bipush 8, 2, 8, 0, 0), (5, .if_icmp .ge 34, 3, 0, 39, 0), (8, .aload_n 0, 1, 0, 0, 0), (9, .getfield 26, 3, 0, 9, 5), (12, .iload_n 1, 1, 0, 1, 0), (13, .baload, 1, 0, 0, 0), (14, .ifCond .ne 19, 3, 0, 33, 0), (17, .aload_n 0, 1, 0, 0, 0), (18, .getfield 26, 3, 0, 9, 5), (21, .iload_n 1, 1, 0, 1, 0), (22, .iconst 1, 1, 1, 0, 0), (23, .bastore, 1, 0, 0, 0), (24, .aload_n 0, 1, 0, 0, 0), (25, .getfield 29, 3, 0, 9, 6), (28, .iload_n 1, 1, 0, 1, 0), (29, .iconst 0, 1, 0, 0, 0), (30, .iastore, 1, 0, 0, 0), (31, .iload_n 1, 1, 0, 1, 0), (32, .ireturn, 1, 0, 0, 0), (33, .iinc 1 1, 3, 1, 1, 0), (36, .goto (-34), 3, 0, 2, 0), (39, .bipush (-104), 2, (-104), 0, 0), (41, .ireturn, 1, 0, 0, 0)]
def kX9_write : List En := [(0, .aload_n 0, 1, 0, 0, 0), (1, .getfield 29, 3, 0, 9, 6), (4, .iload_n 1, 1, 0, 1, 0), (5, .iaload, 1, 0, 0, 0), (6, .sipush 200, 3, 200, 0, 0), (9, .if_icmp .ne 6, 3, 0, 15, 0), (12, .bipush (-104), 2, (-104), 0, 0), (14, .ireturn, 1, 0, 0, 0), (15, .aload_n 0, 1, 0, 0, 0), (16, .iload_n 2, 1, 0, 2, 0), (17, .invokevirtual 261, 3, 0, 162, 0), (20, .aload_n 0, 1, 0, 0, 0), (21, .getfield 23, 3, 0, 9, 4), (24, .iload_n 2, 1, 0, 2, 0), (25, .iaload, 1, 0, 0, 0), (26, .istore 4, 2, 0, 4, 0), (28, .aload_n 0, 1, 0, 0, 0), (29, .getfield 23, 3, 0, 9, 4), (32, .iload_n 2, 1, 0, 2, 0), (33, .iload_n 1, 1, 0, 1, 0), (34, .iastore, 1, 0, 0, 0), (35, .aload_n 0, 1, 0, 0, 0), (36, .getfield 20, 3, 0, 9, 3), (39, .iload_n 2, 1, 0, 2, 0), (40, .iload_n 3, 1, 0, 3, 0), (41, .bastore, 1, 0, 0, 0), (42, .iconst 0, 1, 0, 0, 0), (43, .istore 5, 2, 0, 5, 0), (45, .iload 5, 2, 0, 5, 0), (47, .iconst 4, 1, 4, 0, 0), (48, .if_icmp .ge 35, 3, 0, 83, 0), (51, .aload_n 0, 1, 0, 0, 0), (52, .getfield 13, 3, 0, 9, 1), (55, .iconst 4, 1, 4, 0, 0), (56, .iload_n 2, 1, 0, 2, 0), (57, .imul, 1, 0, 0, 0), (58, .iload 5, 2, 0, 5, 0), (60, .iadd, 1, 0, 0, 0), (61, .iload_n 3, 1, 0, 3, 0), (62, .ifCond .eq 13, 3, 0, 75, 0), (65, .aload_n 0, 1, 0, 0, 0), (66, .getfield 144, 3, 0, 9, 51), (69, .iload 5, 2, 0, 5, 0), (71, .iaload, 1, 0, 0, 0), (72, .goto 4, 3, 0, 76, 0), (75, .iconst 0, 1, 0, 0, 0), (76, .iastore, 1, 0, 0, 0), (77, .iinc 5 1, 3, 1, 5, 0), (80, .goto (-35), 3, 0, 45, 0), (83, .iconst 0, 1, 0, 0, 0), (84, .istore 5, 2, 0, 5, 0), (86, .iconst 0, 1, 0, 0, 0), (87, .istore 6, 2, 0, 6, 0), (89, .iload 6, 2, 0, 6, 0), (91, .bipush 6, 2, 6, 0, 0), (93, .if_icmp .ge 55, 3, 0, 148, 0), (96, .iload_n 3, 1, 0, 3, 0), (97, .ifCond .eq 51, 3, 0, 148, 0), (100, .iload 5, 2, 0, 5, 0), (102, .ifCond .ne 33, 3, 0, 135, 0), (105, .aload_n 0, 1, 0, 0, 0), (106, .iload 6, 2, 0, 6, 0), (108, .invokevirtual 264, 3, 0, 138, 0), (111, .ifCond .eq 28, 3, 0, 139, 0), (114, .aload_n 0, 1, 0, 0, 0), (115, .getfield 53, 3, 0, 9, 14), (118, .iload 6, 2, 0, 6, 0), (120, .baload, 1, 0, 0, 0), (121, .ifCond .eq 18, 3, 0, 139, 0), (124, .aload_n 0, 1, 0, 0, 0), (125, .iload 6, 2, 0, 6, 0), (127, .iload_n 2, 1, 0, 2, 0), (128, .invokevirtual 267, 3, 0, 169, 0), (131, .iconst (-1), 1, (-1), 0, 0), (132, .if_icmp .eq 7, 3, 0, 139, 0), (135, .iconst 1, 1, 1, 0, 0), (136, .goto 4, 3, 0, 140, 0), (139, .iconst 0, 1, 0, 0, 0), (140, .istore 5, 2, 0, 5, 0), (142, .iinc 6 1, 3, 1, 6, 0), (145, .goto (-56), 3, 0, 89, 0), (148, .iload 5, 2, 0, 5, 0), (150, .ifCond .eq 59, 3, 0, 209, 0), (153, .aload_n 0, 1, 0, 0, 0), (154, .getfield 23, 3, 0, 9, 4), (157, .iload_n 2, 1, 0, 2, 0), (158, .iload 4, 2, 0, 4, 0), (160, .iastore, 1, 0, 0, 0), (161, .aload_n 0, 1, 0, 0, 0), (162, .getfield 20, 3, 0, 9, 3), (165, .iload_n 2, 1, 0, 2, 0), (166, .aload_n 0, 1, 0, 0, 0), (167, .getfield 231, 3, 0, 9, 50), (170, .bastore, 1, 0, 0, 0), (171, .iconst 0, 1, 0, 0, 0), (172, .istore 6, 2, 0, 6, 0), (174, .iload 6, 2, 0, 6, 0), (176, .iconst 4, 1, 4, 0, 0), (177, .if_icmp .ge 29, 3, 0, 206, 0), (180, .aload_n 0, 1, 0, 0, 0), (181, .getfield 13, 3, 0, 9, 1), (184, .iconst 4, 1, 4, 0, 0), (185, .iload_n 2, 1, 0, 2, 0), (186, .imul, 1, 0, 0, 0), (187, .iload 6, 2, 0, 6, 0), (189, .iadd, 1, 0, 0, 0), (190, .aload_n 0, 1, 0, 0, 0), (191, .getfield 141, 3, 0, 9, 48), (194, .iconst 4, 1, 4, 0, 0), (195, .iload 6, 2, 0, 6, 0), (197, .iadd, 1, 0, 0, 0), (198, .iaload, 1, 0, 0, 0), (199, .iastore, 1, 0, 0, 0), (200, .iinc 6 1, 3, 1, 6, 0), (203, .goto (-29), 3, 0, 174, 0), (206, .bipush (-105), 2, (-105), 0, 0), (208, .ireturn, 1, 0, 0, 0), (209, .sipush 200, 3, 200, 0, 0), (212, .iload_n 1, 1, 0, 1, 0), (213, .imul, 1, 0, 0, 0), (214, .aload_n 0, 1, 0, 0, 0), (215, .getfield 29, 3, 0, 9, 6), (218, .iload_n 1, 1, 0, 1, 0), (219, .iaload, 1, 0, 0, 0), (220, .iadd, 1, 0, 0, 0), (221, .istore 6, 2, 0, 6, 0), (223, .aload_n 0, 1, 0, 0, 0), (224, .getfield 29, 3, 0, 9, 6), (227, .iload_n 1, 1, 0, 1, 0), (228, .dup2, 1, 0, 0, 0), (229, .iaload, 1, 0, 0, 0), (230, .iconst 1, 1, 1, 0, 0), (231, .iadd, 1, 0, 0, 0), (232, .iastore, 1, 0, 0, 0), (233, .aload_n 0, 1, 0, 0, 0), (234, .getfield 32, 3, 0, 9, 7), (237, .iload 6, 2, 0, 6, 0), (239, .iload_n 2, 1, 0, 2, 0), (240, .iastore, 1, 0, 0, 0), (241, .aload_n 0, 1, 0, 0, 0), (242, .getfield 35, 3, 0, 9, 8), (245, .iload 6, 2, 0, 6, 0), (247, .aload_n 0, 1, 0, 0, 0), (248, .getfield 231, 3, 0, 9, 50), (251, .bastore, 1, 0, 0, 0), (252, .aload_n 0, 1, 0, 0, 0), (253, .getfield 41, 3, 0, 9, 10), (256, .iload 6, 2, 0, 6, 0), (258, .iload 4, 2, 0, 4, 0), (260, .iastore, 1, 0, 0, 0), (261, .iconst 0, 1, 0, 0, 0), (262, .istore 7, 2, 0, 7, 0), (264, .iload 7, 2, 0, 7, 0), (266, .iconst 4, 1, 4, 0, 0), (267, .if_icmp .ge 30, 3, 0, 297, 0), (270, .aload_n 0, 1, 0, 0, 0), (271, .getfield 38, 3, 0, 9, 9), (274, .iconst 4, 1, 4, 0, 0), (275, .iload 6, 2, 0, 6, 0), (277, .imul, 1, 0, 0, 0), (278, .iload 7, 2, 0, 7, 0), (280, .iadd, 1, 0, 0, 0), (281, .aload_n 0, 1, 0, 0, 0), (282, .getfield 141, 3, 0, 9, 48), (285, .iconst 4, 1, 4, 0, 0), (286, .iload 7, 2, 0, 7, 0), (288, .iadd, 1, 0, 0, 0), (289, .iaload, 1, 0, 0, 0), (290, .iastore, 1, 0, 0, 0), (291, .iinc 7 1, 3, 1, 7, 0), (294, .goto (-30), 3, 0, 264, 0), (297, .aload_n 0, 1, 0, 0, 0), (298, .iload_n 2, 1, 0, 2, 0), (299, .invokevirtual 271, 3, 0, 166, 0), (302, .iconst 1, 1, 1, 0, 0), (303, .ireturn, 1, 0, 0, 0)]
def kX9_insert : List En := [(0, .aload_n 0, 1, 0, 0, 0), (1, .iload_n 1, 1, 0, 1, 0), (2, .invokevirtual 274, 3, 0, 136, 0), (5, .ifCond .ne 6, 3, 0, 11, 0), (8, .bipush (-101), 2, (-101), 0, 0), (10, .ireturn, 1, 0, 0, 0), (11, .iconst 0, 1, 0, 0, 0), (12, .istore 6, 2, 0, 6, 0), (14, .iload 6, 2, 0, 6, 0), (16, .sipush 320, 3, 320, 0, 0), (19, .if_icmp .ge 18, 3, 0, 37, 0), (22, .aload_n 0, 1, 0, 0, 0), (23, .iload 6, 2, 0, 6, 0), (25, .invokevirtual 277, 3, 0, 140, 0), (28, .ifCond .ne 9, 3, 0, 37, 0), (31, .iinc 6 1, 3, 1, 6, 0), (34, .goto (-20), 3, 0, 14, 0), (37, .iload 6, 2, 0, 6, 0), (39, .sipush 320, 3, 320, 0, 0), (42, .if_icmp .ne 6, 3, 0, 48, 0), (45, .bipush (-104), 2, (-104), 0, 0), (47, .ireturn, 1, 0, 0, 0), (48, .aload_n 0, 1, 0, 0, 0), (49, .getfield 144, 3, 0, 9, 51), (52, .iconst 0, 1, 0, 0, 0), (53, .iload_n 2, 1, 0, 2, 0), (54, .iastore, 1, 0, 0, 0), (55, .aload_n 0, 1, 0, 0, 0), (56, .getfield 144, 3, 0, 9, 51), (59, .iconst 1, 1, 1, 0, 0), (60, .iload_n 3, 1, 0, 3, 0), (61, .iastore, 1, 0, 0, 0), (62, .aload_n 0, 1, 0, 0, 0), (63, .getfield 144, 3, 0, 9, 51), (66, .iconst 2, 1, 2, 0, 0), (67, .iload 4, 2, 0, 4, 0), (69, .iastore, 1, 0, 0, 0), (70, .aload_n 0, 1, 0, 0, 0), (71, .getfield 144, 3, 0, 9, 51), (74, .iconst 3, 1, 3, 0, 0), (75, .iload 5, 2, 0, 5, 0), (77, .iastore, 1, 0, 0, 0), (78, .aload_n 0, 1, 0, 0, 0), (79, .iload_n 1, 1, 0, 1, 0), (80, .iload 6, 2, 0, 6, 0), (82, .iconst 1, 1, 1, 0, 0), (83, .invokevirtual 280, 3, 0, 171, 0), (86, .istore 7, 2, 0, 7, 0), (88, .iload 7, 2, 0, 7, 0), (90, .iconst 1, 1, 1, 0, 0), (91, .if_icmp .ne 8, 3, 0, 99, 0), (94, .iload 6, 2, 0, 6, 0), (96, .goto 5, 3, 0, 101, 0), (99, .iload 7, 2, 0, 7, 0), (101, .ireturn, 1, 0, 0, 0)]
def kX9_isLocked : List En := [(0, .iload_n 2, 1, 0, 2, 0), (1, .invokestatic 284, 3, 0, 139, 0), (4, .ifCond .eq 27, 3, 0, 31, 0), (7, .aload_n 0, 1, 0, 0, 0), (8, .getfield 23, 3, 0, 9, 4), (11, .iload_n 2, 1, 0, 2, 0), (12, .iaload, 1, 0, 0, 0), (13, .iconst (-1), 1, (-1), 0, 0), (14, .if_icmp .eq 17, 3, 0, 31, 0), (17, .aload_n 0, 1, 0, 0, 0), (18, .getfield 23, 3, 0, 9, 4), (21, .iload_n 2, 1, 0, 2, 0), (22, .iaload, 1, 0, 0, 0), (23, .iload_n 1, 1, 0, 1, 0), (24, .if_icmp .eq 7, 3, 0, 31, 0), (27, .iconst 1, 1, 1, 0, 0), (28, .goto 4, 3, 0, 32, 0), (31, .iconst 0, 1, 0, 0, 0), (32, .ireturn, 1, 0, 0, 0)]
def kX9_update : List En := [(0, .aload_n 0, 1, 0, 0, 0), (1, .iload_n 1, 1, 0, 1, 0), (2, .invokevirtual 274, 3, 0, 136, 0), (5, .ifCond .ne 6, 3, 0, 11, 0), (8, .bipush (-101), 2, (-101), 0, 0), (10, .ireturn, 1, 0, 0, 0), (11, .iload_n 3, 1, 0, 3, 0), (12, .iconst 0, 1, 0, 0, 0), (13, .iconst 3, 1, 3, 0, 0), (14, .invokestatic 157, 3, 0, 135, 0), (17, .ifCond .ne 6, 3, 0, 23, 0), (20, .bipush (-102), 2, (-102), 0, 0), (22, .ireturn, 1, 0, 0, 0), (23, .aload_n 0, 1, 0, 0, 0), (24, .iload_n 1, 1, 0, 1, 0), (25, .iload_n 2, 1, 0, 2, 0), (26, .invokevirtual 287, 3, 0, 173, 0), (29, .ifCond .eq 6, 3, 0, 35, 0), (32, .bipush (-103), 2, (-103), 0, 0), (34, .ireturn, 1, 0, 0, 0), (35, .iload_n 2, 1, 0, 2, 0), (36, .invokestatic 284, 3, 0, 139, 0), (39, .ifCond .eq 12, 3, 0, 51, 0), (42, .aload_n 0, 1, 0, 0, 0), (43, .getfield 20, 3, 0, 9, 3), (46, .iload_n 2, 1, 0, 2, 0), (47, .baload, 1, 0, 0, 0), (48, .ifCond .ne 6, 3, 0, 54, 0), (51, .bipush (-101), 2, (-101), 0, 0), (53, .ireturn, 1, 0, 0, 0), (54, .aload_n 0, 1, 0, 0, 0), (55, .getfield 13, 3, 0, 9, 1), (58, .iconst 4, 1, 4, 0, 0), (59, .iload_n 2, 1, 0, 2, 0), (60, .imul, 1, 0, 0, 0), (61, .iload_n 3, 1, 0, 3, 0), (62, .iadd, 1, 0, 0, 0), (63, .iaload, 1, 0, 0, 0), (64, .iload 4, 2, 0, 4, 0), (66, .if_icmp .ne 5, 3, 0, 71, 0), (69, .iconst 0, 1, 0, 0, 0), (70, .ireturn, 1, 0, 0, 0), (71, .iconst 0, 1, 0, 0, 0), (72, .istore 5, 2, 0, 5, 0), (74, .iload 5, 2, 0, 5, 0), (76, .iconst 4, 1, 4, 0, 0), (77, .if_icmp .ge 38, 3, 0, 115, 0), (80, .aload_n 0, 1, 0, 0, 0), (81, .getfield 144, 3, 0, 9, 51), (84, .iload 5, 2, 0, 5, 0), (86, .iload 5, 2, 0, 5, 0), (88, .iload_n 3, 1, 0, 3, 0), (89, .if_icmp .ne 8, 3, 0, 97, 0), (92, .iload 4, 2, 0, 4, 0), (94, .goto 14, 3, 0, 108, 0), (97, .aload_n 0, 1, 0, 0, 0), (98, .getfield 13, 3, 0, 9, 1), (101, .iconst 4, 1, 4, 0, 0), (102, .iload_n 2, 1, 0, 2, 0), (103, .imul, 1, 0, 0, 0), (104, .iload 5, 2, 0, 5, 0), (106, .iadd, 1, 0, 0, 0), (107, .iaload, 1, 0, 0, 0), (108, .iastore, 1, 0, 0, 0), (109, .iinc 5 1, 3, 1, 5, 0), (112, .goto (-38), 3, 0, 74, 0), (115, .aload_n 0, 1, 0, 0, 0), (116, .iload_n 1, 1, 0, 1, 0), (117, .iload_n 2, 1, 0, 2, 0), (118, .iconst 1, 1, 1, 0, 0), (119, .invokevirtual 280, 3, 0, 171, 0), (122, .ireturn, 1, 0, 0, 0)]
def kX9_remove : List En := [(0, .aload_n 0, 1, 0, 0, 0), (1, .iload_n 1, 1, 0, 1, 0), (2, .invokevirtual 274, 3, 0, 136, 0), (5, .ifCond .ne 6, 3, 0, 11, 0), (8, .bipush (-101), 2, (-101), 0, 0), (10, .ireturn, 1, 0, 0, 0), (11, .aload_n 0, 1, 0, 0, 0), (12, .iload_n 1, 1, 0, 1, 0), (13, .iload_n 2, 1, 0, 2, 0), (14, .invokevirtual 287, 3, 0, 173, 0), (17, .ifCond .eq 6, 3, 0, 23, 0), (20, .bipush (-103), 2, (-103), 0, 0), (22, .ireturn, 1, 0, 0, 0), (23, .iload_n 2, 1, 0, 2, 0), (24, .invokestatic 284, 3, 0, 139, 0), (27, .ifCond .eq 12, 3, 0, 39, 0), (30, .aload_n 0, 1, 0, 0, 0), (31, .getfield 20, 3, 0, 9, 3), (34, .iload_n 2, 1, 0, 2, 0), (35, .baload, 1, 0, 0, 0), (36, .ifCond .ne 6, 3, 0, 42, 0), (39, .bipush (-101), 2, (-101), 0, 0), (41, .ireturn, 1, 0, 0, 0), (42, .aload_n 0, 1, 0, 0, 0), (43, .iload_n 1, 1, 0, 1, 0), (44, .iload_n 2, 1, 0, 2, 0), (45, .iconst 0, 1, 0, 0, 0), (46, .invokevirtual 280, 3, 0, 171, 0), (49, .ireturn, 1, 0, 0, 0)]
def kX9_records : List En := [(0, .aload_n 0, 1, 0, 0, 0), (1, .iload_n 1, 1, 0, 1, 0), (2, .invokevirtual 274, 3, 0, 136, 0), (5, .ifCond .eq 12, 3, 0, 17, 0), (8, .aload_n 0, 1, 0, 0, 0), (9, .getfield 29, 3, 0, 9, 6), (12, .iload_n 1, 1, 0, 1, 0), (13, .iaload, 1, 0, 0, 0), (14, .goto 5, 3, 0, 19, 0), (17, .bipush (-101), 2, (-101), 0, 0), (19, .ireturn, 1, 0, 0, 0)]
def kX9_undoOne : List En := [(0, .aload_n 0, 1, 0, 0, 0), (1, .getfield 29, 3, 0, 9, 6), (4, .iload_n 1, 1, 0, 1, 0), (5, .dup2, 1, 0, 0, 0), (6, .iaload, 1, 0, 0, 0), (7, .iconst 1, 1, 1, 0, 0), (8, .isub, 1, 0, 0, 0), (9, .iastore, 1, 0, 0, 0), (10, .sipush 200, 3, 200, 0, 0), (13, .iload_n 1, 1, 0, 1, 0), (14, .imul, 1, 0, 0, 0), (15, .aload_n 0, 1, 0, 0, 0), (16, .getfield 29, 3, 0, 9, 6), (19, .iload_n 1, 1, 0, 1, 0), (20, .iaload, 1, 0, 0, 0), (21, .iadd, 1, 0, 0, 0), (22, .istore_n 2, 1, 0, 2, 0), (23, .aload_n 0, 1, 0, 0, 0), (24, .getfield 32, 3, 0, 9, 7), (27, .iload_n 2, 1, 0, 2, 0), (28, .iaload, 1, 0, 0, 0), (29, .istore_n 3, 1, 0, 3, 0), (30, .aload_n 0, 1, 0, 0, 0), (31, .iload_n 3, 1, 0, 3, 0), (32, .invokevirtual 261, 3, 0, 162, 0), (35, .aload_n 0, 1, 0, 0, 0), (36, .getfield 20, 3, 0, 9, 3), (39, .iload_n 3, 1, 0, 3, 0), (40, .aload_n 0, 1, 0, 0, 0), (41, .getfield 35, 3, 0, 9, 8), (44, .iload_n 2, 1, 0, 2, 0), (45, .baload, 1, 0, 0, 0), (46, .bastore, 1, 0, 0, 0), (47, .aload_n 0, 1, 0, 0, 0), (48, .getfield 23, 3, 0, 9, 4), (51, .iload_n 3, 1, 0, 3, 0), (52, .aload_n 0, 1, 0, 0, 0), (53, .getfield 41, 3, 0, 9, 10), (56, .iload_n 2, 1, 0, 2, 0), (57, .iaload, 1, 0, 0, 0), (58, .iastore, 1, 0, 0, 0), (59, .iconst 0, 1, 0, 0, 0), (60, .istore 4, 2, 0, 4, 0), (62, .iload 4, 2, 0, 4, 0), (64, .iconst 4, 1, 4, 0, 0), (65, .if_icmp .ge 31, 3, 0, 96, 0), (68, .aload_n 0, 1, 0, 0, 0), (69, .getfield 13, 3, 0, 9, 1), (72, .iconst 4, 1, 4, 0, 0), (73, .iload_n 3, 1, 0, 3, 0), (74, .imul, 1, 0, 0, 0), (75, .iload 4, 2, 0, 4, 0), (77, .iadd, 1, 0, 0, 0), (78, .aload_n 0, 1, 0, 0, 0), (79, .getfield 38, 3, 0, 9, 9), (82, .iconst 4, 1, 4, 0, 0), (83, .iload_n 2, 1, 0, 2, 0), (84, .imul, 1, 0, 0, 0), (85, .iload 4, 2, 0, 4, 0), (87, .iadd, 1, 0, 0, 0), (88, .iaload, 1, 0, 0, 0), (89, .iastore, 1, 0, 0, 0), (90, .iinc 4 1, 3, 1, 4, 0), (93, .goto (-31), 3, 0, 62, 0), (96, .aload_n 0, 1, 0, 0, 0), (97, .iload_n 3, 1, 0, 3, 0), (98, .invokevirtual 271, 3, 0, 166, 0), (101, .return_, 1, 0, 0, 0)]
def kX9_undo : List En := [(0, .aload_n 0, 1, 0, 0, 0), (1, .iload_n 1, 1, 0, 1, 0), (2, .invokevirtual 274, 3, 0, 136, 0), (5, .ifCond .ne 6, 3, 0, 11, 0), (8, .bipush (-101), 2, (-101), 0, 0), (10, .ireturn, 1, 0, 0, 0), (11, .iload_n 2, 1, 0, 2, 0), (12, .iconst 0, 1, 0, 0, 0), (13, .aload_n 0, 1, 0, 0, 0), (14, .getfield 29, 3, 0, 9, 6), (17, .iload_n 1, 1, 0, 1, 0), (18, .iaload, 1, 0, 0, 0), (19, .invokestatic 157, 3, 0, 135, 0), (22, .ifCond .ne 6, 3, 0, 28, 0), (25, .bipush (-102), 2, (-102), 0, 0), (27, .ireturn, 1, 0, 0, 0), (28, .aload_n 0, 1, 0, 0, 0), (29, .iload_n 1, 1, 0, 1, 0), (30, .iload_n 2, 1, 0, 2, 0), (31, .invokevirtual 291, 3, 0, 180, 0), (34, .ifCond .eq 6, 3, 0, 40, 0), (37, .bipush (-105), 2, (-105), 0, 0), (39, .ireturn, 1, 0, 0, 0), (40, .aload_n 0, 1, 0, 0, 0), (41, .iload_n 1, 1, 0, 1, 0), (42, .iload_n 2, 1, 0, 2, 0), (43, .invokevirtual 294, 3, 0, 179, 0), (46, .ireturn, 1, 0, 0, 0)]
def kX9_undoTo : List En := [(0, .aload_n 0, 1, 0, 0, 0), (1, .getfield 29, 3, 0, 9, 6), (4, .iload_n 1, 1, 0, 1, 0), (5, .iaload, 1, 0, 0, 0), (6, .iload_n 2, 1, 0, 2, 0), (7, .isub, 1, 0, 0, 0), (8, .istore_n 3, 1, 0, 3, 0), (9, .aload_n 0, 1, 0, 0, 0), (10, .getfield 29, 3, 0, 9, 6), (13, .iload_n 1, 1, 0, 1, 0), (14, .iaload, 1, 0, 0, 0), (15, .iload_n 2, 1, 0, 2, 0), (16, .if_icmp .le 11, 3, 0, 27, 0), (19, .aload_n 0, 1, 0, 0, 0), (20, .iload_n 1, 1, 0, 1, 0), (21, .invokevirtual 297, 3, 0, 177, 0), (24, .goto (-15), 3, 0, 9, 0), (27, .iload_n 3, 1, 0, 3, 0), (28, .ireturn, 1, 0, 0, 0)]
def kX9_wouldClash : List En := [(0, .iconst 0, 1, 0, 0, 0), (1, .istore_n 3, 1, 0, 3, 0), (2, .iload_n 3, 1, 0, 3, 0), (3, .sipush 320, 3, 320, 0, 0), (6, .if_icmp .ge 70, 3, 0, 76, 0), (9, .aload_n 0, 1, 0, 0, 0), (10, .getfield 150, 3, 0, 9, 53), (13, .iload_n 3, 1, 0, 3, 0), (14, .aload_n 0, 1, 0, 0, 0), (15, .getfield 20, 3, 0, 9, 3), (18, .iload_n 3, 1, 0, 3, 0), (19, .baload, 1, 0, 0, 0), (20, .bastore, 1, 0, 0, 0), (21, .aload_n 0, 1, 0, 0, 0), (22, .getfield 153, 3, 0, 9, 54), (25, .iload_n 3, 1, 0, 3, 0), (26, .aload_n 0, 1, 0, 0, 0), (27, .getfield 23, 3, 0, 9, 4), (30, .iload_n 3, 1, 0, 3, 0), (31, .iaload, 1, 0, 0, 0), (32, .iastore, 1, 0, 0, 0), (33, .iconst 0, 1, 0, 0, 0), (34, .istore 4, 2, 0, 4, 0), (36, .iload 4, 2, 0, 4, 0), (38, .iconst 4, 1, 4, 0, 0), (39, .if_icmp .ge 31, 3, 0, 70, 0), (42, .aload_n 0, 1, 0, 0, 0), (43, .getfield 147, 3, 0, 9, 52), (46, .iconst 4, 1, 4, 0, 0), (47, .iload_n 3, 1, 0, 3, 0), (48, .imul, 1, 0, 0, 0), (49, .iload 4, 2, 0, 4, 0), (51, .iadd, 1, 0, 0, 0), (52, .aload_n 0, 1, 0, 0, 0), (53, .getfield 13, 3, 0, 9, 1), (56, .iconst 4, 1, 4, 0, 0), (57, .iload_n 3, 1, 0, 3, 0), (58, .imul, 1, 0, 0, 0), (59, .iload 4, 2, 0, 4, 0), (61, .iadd, 1, 0, 0, 0), (62, .iaload, 1, 0, 0, 0), (63, .iastore, 1, 0, 0, 0), (64, .iinc 4 1, 3, 1, 4, 0), (67, .goto (-31), 3, 0, 36, 0), (70, .iinc 3 1, 3, 1, 3, 0), (73, .goto (-71), 3, 0, 2, 0), (76, .aload_n 0, 1, 0, 0, 0), (77, .getfield 29, 3, 0, 9, 6), (80, .iload_n 1, 1, 0, 1, 0), (81, .iaload, 1, 0, 0, 0), (82, .iconst 1, 1, 1, 0, 0), (83, .isub, 1, 0, 0, 0), (84, .istore_n 3, 1, 0, 3, 0), (85, .iload_n 3, 1, 0, 3, 0), (86, .iload_n 2, 1, 0, 2, 0), (87, .if_icmp .lt 94, 3, 0, 181, 0), (90, .sipush 200, 3, 200, 0, 0), (93, .iload_n 1, 1, 0, 1, 0), (94, .imul, 1, 0, 0, 0), (95, .iload_n 3, 1, 0, 3, 0), (96, .iadd, 1, 0, 0, 0), (97, .istore 4, 2, 0, 4, 0), (99, .aload_n 0, 1, 0, 0, 0), (100, .getfield 32, 3, 0, 9, 7), (103, .iload 4, 2, 0, 4, 0), (105, .iaload, 1, 0, 0, 0), (106, .istore 5, 2, 0, 5, 0), (108, .aload_n 0, 1, 0, 0, 0), (109, .getfield 20, 3, 0, 9, 3), (112, .iload 5, 2, 0, 5, 0), (114, .aload_n 0, 1, 0, 0, 0), (115, .getfield 35, 3, 0, 9, 8), (118, .iload 4, 2, 0, 4, 0), (120, .baload, 1, 0, 0, 0), (121, .bastore, 1, 0, 0, 0), (122, .aload_n 0, 1, 0, 0, 0), (123, .getfield 23, 3, 0, 9, 4), (126, .iload 5, 2, 0, 5, 0), (128, .aload_n 0, 1, 0, 0, 0), (129, .getfield 41, 3, 0, 9, 10), (132, .iload 4, 2, 0, 4, 0), (134, .iaload, 1, 0, 0, 0), (135, .iastore, 1, 0, 0, 0), (136, .iconst 0, 1, 0, 0, 0), (137, .istore 6, 2, 0, 6, 0), (139, .iload 6, 2, 0, 6, 0), (141, .iconst 4, 1, 4, 0, 0), (142, .if_icmp .ge 33, 3, 0, 175, 0), (145, .aload_n 0, 1, 0, 0, 0), (146, .getfield 13, 3, 0, 9, 1), (149, .iconst 4, 1, 4, 0, 0), (150, .iload 5, 2, 0, 5, 0), (152, .imul, 1, 0, 0, 0), (153, .iload 6, 2, 0, 6, 0), (155, .iadd, 1, 0, 0, 0), (156, .aload_n 0, 1, 0, 0, 0), (157, .getfield 38, 3, 0, 9, 9), (160, .iconst 4, 1, 4, 0, 0), (161, .iload 4, 2, 0, 4, 0), (163, .imul, 1, 0, 0, 0), (164, .iload 6, 2, 0, 6, 0), (166, .iadd, 1, 0, 0, 0), (167, .iaload, 1, 0, 0, 0), (168, .iastore, 1, 0, 0, 0), (169, .iinc 6 1, 3, 1, 6, 0), (172, .goto (-33), 3, 0, 139, 0), (175, .iinc 3 (-1), 3, (-1), 3, 0), (178, .goto (-93), 3, 0, 85, 0), (181, .iconst 0, 1, 0, 0, 0), (182, .istore_n 3, 1, 0, 3, 0), (183, .iconst 0, 1, 0, 0, 0), (184, .istore 4, 2, 0, 4, 0), (186, .iload 4, 2, 0, 4, 0), (188, .bipush 6, 2, 6, 0, 0), (190, .if_icmp .ge 81, 3, 0, 271, 0), (193, .iload_n 2, 1, 0, 2, 0), (194, .istore 5, 2, 0, 5, 0), (196, .iload 5, 2, 0, 5, 0), (198, .aload_n 0, 1, 0, 0, 0), (199, .getfield 29, 3, 0, 9, 6), (202, .iload_n 1, 1, 0, 1, 0), (203, .iaload, 1, 0, 0, 0), (204, .if_icmp .ge 61, 3, 0, 265, 0), (207, .aload_n 0, 1, 0, 0, 0), (208, .iload 4, 2, 0, 4, 0), (210, .invokevirtual 264, 3, 0, 138, 0), (213, .ifCond .eq 52, 3, 0, 265, 0), (216, .aload_n 0, 1, 0, 0, 0), (217, .getfield 53, 3, 0, 9, 14), (220, .iload 4, 2, 0, 4, 0), (222, .baload, 1, 0, 0, 0), (223, .ifCond .eq 42, 3, 0, 265, 0), (226, .iload_n 3, 1, 0, 3, 0), (227, .ifCond .ne 38, 3, 0, 265, 0), (230, .aload_n 0, 1, 0, 0, 0), (231, .iload 4, 2, 0, 4, 0), (233, .aload_n 0, 1, 0, 0, 0), (234, .getfield 32, 3, 0, 9, 7), (237, .sipush 200, 3, 200, 0, 0), (240, .iload_n 1, 1, 0, 1, 0), (241, .imul, 1, 0, 0, 0), (242, .iload 5, 2, 0, 5, 0), (244, .iadd, 1, 0, 0, 0), (245, .iaload, 1, 0, 0, 0), (246, .invokevirtual 267, 3, 0, 169, 0), (249, .iconst (-1), 1, (-1), 0, 0), (250, .if_icmp .eq 7, 3, 0, 257, 0), (253, .iconst 1, 1, 1, 0, 0), (254, .goto 4, 3, 0, 258, 0), (257, .iconst 0, 1, 0, 0, 0), (258, .istore_n 3, 1, 0, 3, 0), (259, .iinc 5 1, 3, 1, 5, 0), (262, .goto (-66), 3, 0, 196, 0), (265, .iinc 4 1, 3, 1, 4, 0), (268, .goto (-82), 3, 0, 186, 0), (271, .iconst 0, 1, 0, 0, 0), (272, .istore 4, 2, 0, 4, 0), (274, .iload 4, 2, 0, 4, 0), (276, .sipush 320, 3, 320, 0, 0), (279, .if_icmp .ge 76, 3, 0, 355, 0), (282, .aload_n 0, 1, 0, 0, 0), (283, .getfield 20, 3, 0, 9, 3), (286, .iload 4, 2, 0, 4, 0), (288, .aload_n 0, 1, 0, 0, 0), (289, .getfield 150, 3, 0, 9, 53), (292, .iload 4, 2, 0, 4, 0), (294, .baload, 1, 0, 0, 0), (295, .bastore, 1, 0, 0, 0), (296, .aload_n 0, 1, 0, 0, 0), (297, .getfield 23, 3, 0, 9, 4), (300, .iload 4, 2, 0, 4, 0), (302, .aload_n 0, 1, 0, 0, 0), (303, .getfield 153, 3, 0, 9, 54), (306, .iload 4, 2, 0, 4, 0), (308, .iaload, 1, 0, 0, 0), (309, .iastore, 1, 0, 0, 0), (310, .iconst 0, 1, 0, 0, 0), (311, .istore 5, 2, 0, 5, 0), (313, .iload 5, 2, 0, 5, 0), (315, .iconst 4, 1, 4, 0, 0), (316, .if_icmp .ge 33, 3, 0, 349, 0), (319, .aload_n 0, 1, 0, 0, 0), (320, .getfield 13, 3, 0, 9, 1), (323, .iconst 4, 1, 4, 0, 0), (324, .iload 4, 2, 0, 4, 0), (326, .imul, 1, 0, 0, 0), (327, .iload 5, 2, 0, 5, 0), (329, .iadd, 1, 0, 0, 0), (330, .aload_n 0, 1, 0, 0, 0), (331, .getfield 147, 3, 0, 9, 52), (334, .iconst 4, 1, 4, 0, 0), (335, .iload 4, 2, 0, 4, 0), (337, .imul, 1, 0, 0, 0), (338, .iload 5, 2, 0, 5, 0), (340, .iadd, 1, 0, 0, 0), (341, .iaload, 1, 0, 0, 0), (342, .iastore, 1, 0, 0, 0), (343, .iinc 5 1, 3, 1, 5, 0), (346, .goto (-33), 3, 0, 313, 0), (349, .iinc 4 1, 3, 1, 4, 0), (352, .goto (-78), 3, 0, 274, 0), (355, .iload_n 3, 1, 0, 3, 0), (356, .ireturn, 1, 0, 0, 0)]
def kX9_commit : List En := [(0, .aload_n 0, 1, 0, 0, 0), (1, .iload_n 1, 1, 0, 1, 0), (2, .invokevirtual 274, 3, 0, 136, 0), (5, .ifCond .ne 6, 3, 0, 11, 0), (8, .bipush (-101), 2, (-101), 0, 0), (10, .ireturn, 1, 0, 0, 0), (11, .iconst 0, 1, 0, 0, 0), (12, .istore_n 2, 1, 0, 2, 0), (13, .iconst 0, 1, 0, 0, 0), (14, .istore_n 3, 1, 0, 3, 0), (15, .iload_n 3, 1, 0, 3, 0), (16, .sipush 320, 3, 320, 0, 0), (19, .if_icmp .ge 88, 3, 0, 107, 0), (22, .aload_n 0, 1, 0, 0, 0), (23, .getfield 23, 3, 0, 9, 4), (26, .iload_n 3, 1, 0, 3, 0), (27, .iaload, 1, 0, 0, 0), (28, .iload_n 1, 1, 0, 1, 0), (29, .if_icmp .ne 72, 3, 0, 101, 0), (32, .aload_n 0, 1, 0, 0, 0), (33, .iload_n 3, 1, 0, 3, 0), (34, .invokevirtual 261, 3, 0, 162, 0), (37, .aload_n 0, 1, 0, 0, 0), (38, .getfield 16, 3, 0, 9, 2), (41, .iload_n 3, 1, 0, 3, 0), (42, .aload_n 0, 1, 0, 0, 0), (43, .getfield 20, 3, 0, 9, 3), (46, .iload_n 3, 1, 0, 3, 0), (47, .baload, 1, 0, 0, 0), (48, .bastore, 1, 0, 0, 0), (49, .iconst 0, 1, 0, 0, 0), (50, .istore 4, 2, 0, 4, 0), (52, .iload 4, 2, 0, 4, 0), (54, .iconst 4, 1, 4, 0, 0), (55, .if_icmp .ge 31, 3, 0, 86, 0), (58, .aload_n 0, 1, 0, 0, 0), (59, .getfield 7, 3, 0, 9, 0), (62, .iconst 4, 1, 4, 0, 0), (63, .iload_n 3, 1, 0, 3, 0), (64, .imul, 1, 0, 0, 0), (65, .iload 4, 2, 0, 4, 0), (67, .iadd, 1, 0, 0, 0), (68, .aload_n 0, 1, 0, 0, 0), (69, .getfield 13, 3, 0, 9, 1), (72, .iconst 4, 1, 4, 0, 0), (73, .iload_n 3, 1, 0, 3, 0), (74, .imul, 1, 0, 0, 0), (75, .iload 4, 2, 0, 4, 0), (77, .iadd, 1, 0, 0, 0), (78, .iaload, 1, 0, 0, 0), (79, .iastore, 1, 0, 0, 0), (80, .iinc 4 1, 3, 1, 4, 0), (83, .goto (-31), 3, 0, 52, 0), (86, .aload_n 0, 1, 0, 0, 0), (87, .getfield 23, 3, 0, 9, 4), (90, .iload_n 3, 1, 0, 3, 0), (91, .iconst (-1), 1, (-1), 0, 0), (92, .iastore, 1, 0, 0, 0), (93, .aload_n 0, 1, 0, 0, 0), (94, .iload_n 3, 1, 0, 3, 0), (95, .invokevirtual 271, 3, 0, 166, 0), (98, .iinc 2 1, 3, 1, 2, 0), (101, .iinc 3 1, 3, 1, 3, 0), (104, .goto (-89), 3, 0, 15, 0), (107, .aload_n 0, 1, 0, 0, 0), (108, .getfield 26, 3, 0, 9, 5), (111, .iload_n 1, 1, 0, 1, 0), (112, .iconst 0, 1, 0, 0, 0), (113, .bastore, 1, 0, 0, 0), (114, .iload_n 2, 1, 0, 2, 0), (115, .ireturn, 1, 0, 0, 0)]
def kX9_abort : List En := [(0, .aload_n 0, 1, 0, 0, 0), (1, .iload_n 1, 1, 0, 1, 0), (2, .invokevirtual 274, 3, 0, 136, 0), (5, .ifCond .ne 6, 3, 0, 11, 0), (8, .bipush (-101), 2, (-101), 0, 0), (10, .ireturn, 1, 0, 0, 0), (11, .aload_n 0, 1, 0, 0, 0), (12, .iload_n 1, 1, 0, 1, 0), (13, .iconst 0, 1, 0, 0, 0), (14, .invokevirtual 294, 3, 0, 179, 0), (17, .istore_n 2, 1, 0, 2, 0), (18, .aload_n 0, 1, 0, 0, 0), (19, .getfield 26, 3, 0, 9, 5), (22, .iload_n 1, 1, 0, 1, 0), (23, .iconst 0, 1, 0, 0, 0), (24, .bastore, 1, 0, 0, 0), (25, .iload_n 2, 1, 0, 2, 0), (26, .ireturn, 1, 0, 0, 0)]
def kX9_index : List En := [(0, .iload_n 1, 1, 0, 1, 0), (1, .iconst 0, 1, 0, 0, 0), (2, .iconst 3, 1, 3, 0, 0), (3, .invokestatic 157, 3, 0, 135, 0), (6, .ifCond .eq 35, 3, 0, 41, 0), (9, .iload_n 2, 1, 0, 2, 0), (10, .iconst (-1), 1, (-1), 0, 0), (11, .iconst 3, 1, 3, 0, 0), (12, .invokestatic 157, 3, 0, 135, 0), (15, .ifCond .eq 26, 3, 0, 41, 0), (18, .iload_n 3, 1, 0, 3, 0), (19, .iconst (-1), 1, (-1), 0, 0), (20, .iconst 3, 1, 3, 0, 0), (21, .invokestatic 157, 3, 0, 135, 0), (24, .ifCond .eq 17, 3, 0, 41, 0), (27, .iload_n 1, 1, 0, 1, 0), (28, .iload_n 2, 1, 0, 2, 0), (29, .if_icmp .eq 12, 3, 0, 41, 0), (32, .iload_n 1, 1, 0, 1, 0), (33, .iload_n 3, 1, 0, 3, 0), (34, .if_icmp .eq 7, 3, 0, 41, 0), (37, .iconst 1, 1, 1, 0, 0), (38, .goto 4, 3, 0, 42, 0), (41, .iconst 0, 1, 0, 0, 0), (42, .istore 5, 2, 0, 5, 0), (44, .iload 5, 2, 0, 5, 0), (46, .ifCond .eq 25, 3, 0, 71, 0), (49, .iload_n 2, 1, 0, 2, 0), (50, .iconst (-1), 1, (-1), 0, 0), (51, .if_icmp .ne 11, 3, 0, 62, 0), (54, .iload_n 3, 1, 0, 3, 0), (55, .iconst (-1), 1, (-1), 0, 0), (56, .if_icmp .ne 15, 3, 0, 71, 0), (59, .goto 8, 3, 0, 67, 0), (62, .iload_n 2, 1, 0, 2, 0), (63, .iload_n 3, 1, 0, 3, 0), (64, .if_icmp .eq 7, 3, 0, 71, 0), (67, .iconst 1, 1, 1, 0, 0), (68, .goto 4, 3, 0, 72, 0), (71, .iconst 0, 1, 0, 0, 0), (72, .istore 5, 2, 0, 5, 0), (74, .iload 5, 2, 0, 5, 0), (76, .ifCond .ne 6, 3, 0, 82, 0), (79, .bipush (-102), 2, (-102), 0, 0), (81, .ireturn, 1, 0, 0, 0), (82, .iconst 0, 1, 0, 0, 0), (83, .istore 6, 2, 0, 6, 0), (85, .iload 6, 2, 0, 6, 0), (87, .bipush 6, 2, 6, 0, 0), (89, .if_icmp .ge 19, 3, 0, 108, 0), (92, .aload_n 0, 1, 0, 0, 0), (93, .getfield 44, 3, 0, 9, 11), (96, .iload 6, 2, 0, 6, 0), (98, .baload, 1, 0, 0, 0), (99, .ifCond .eq 9, 3, 0, 108, 0), (102, .iinc 6 1, 3, 1, 6, 0), (105, .goto (-20), 3, 0, 85, 0), (108, .iload 6, 2, 0, 6, 0), (110, .bipush 6, 2, 6, 0, 0), (112, .if_icmp .ne 6, 3, 0, 118, 0), (115, .bipush (-104), 2, (-104), 0, 0), (117, .ireturn, 1, 0, 0, 0), (118, .aload_n 0, 1, 0, 0, 0), (119, .getfield 44, 3, 0, 9, 11), (122, .iload 6, 2, 0, 6, 0), (124, .iconst 1, 1, 1, 0, 0), (125, .bastore, 1, 0, 0, 0), (126, .aload_n 0, 1, 0, 0, 0), (127, .getfield 53, 3, 0, 9, 14), (130, .iload 6, 2, 0, 6, 0), (132, .iload 4, 2, 0, 4, 0), (134, .bastore, 1, 0, 0, 0), (135, .aload_n 0, 1, 0, 0, 0), (136, .getfield 47, 3, 0, 9, 12), (139, .iload 6, 2, 0, 6, 0), (141, .iload_n 2, 1, 0, 2, 0), (142, .iconst (-1), 1, (-1), 0, 0), (143, .if_icmp .ne 7, 3, 0, 150, 0), (146, .iconst 1, 1, 1, 0, 0), (147, .goto 13, 3, 0, 160, 0), (150, .iload_n 3, 1, 0, 3, 0), (151, .iconst (-1), 1, (-1), 0, 0), (152, .if_icmp .ne 7, 3, 0, 159, 0), (155, .iconst 2, 1, 2, 0, 0), (156, .goto 4, 3, 0, 160, 0), (159, .iconst 3, 1, 3, 0, 0), (160, .iastore, 1, 0, 0, 0), (161, .aload_n 0, 1, 0, 0, 0), (162, .getfield 50, 3, 0, 9, 13), (165, .iconst 3, 1, 3, 0, 0), (166, .iload 6, 2, 0, 6, 0), (168, .imul, 1, 0, 0, 0), (169, .iload_n 1, 1, 0, 1, 0), (170, .iastore, 1, 0, 0, 0), (171, .aload_n 0, 1, 0, 0, 0), (172, .getfield 50, 3, 0, 9, 13), (175, .iconst 3, 1, 3, 0, 0), (176, .iload 6, 2, 0, 6, 0), (178, .imul, 1, 0, 0, 0), (179, .iconst 1, 1, 1, 0, 0), (180, .iadd, 1, 0, 0, 0), (181, .iload_n 2, 1, 0, 2, 0), (182, .iastore, 1, 0, 0, 0), (183, .aload_n 0, 1, 0, 0, 0), (184, .getfield 50, 3, 0, 9, 13), (187, .iconst 3, 1, 3, 0, 0), (188, .iload 6, 2, 0, 6, 0), (190, .imul, 1, 0, 0, 0), (191, .iconst 2, 1, 2, 0, 0), (192, .iadd, 1, 0, 0, 0), (193, .iload_n 3, 1, 0, 3, 0), (194, .iastore, 1, 0, 0, 0), (195, .aload_n 0, 1, 0, 0, 0), (196, .getfield 56, 3, 0, 9, 15), (199, .iload 6, 2, 0, 6, 0), (201, .iconst 1, 1, 1, 0, 0), (202, .iastore, 1, 0, 0, 0), (203, .aload_n 0, 1, 0, 0, 0), (204, .getfield 59, 3, 0, 9, 16), (207, .iload 6, 2, 0, 6, 0), (209, .iconst 0, 1, 0, 0, 0), (210, .iastore, 1, 0, 0, 0), (211, .aload_n 0, 1, 0, 0, 0), (212, .getfield 62, 3, 0, 9, 17), (215, .iload 6, 2, 0, 6, 0), (217, .iconst 0, 1, 0, 0, 0), (218, .iastore, 1, 0, 0, 0), (219, .aload_n 0, 1, 0, 0, 0), (220, .getfield 65, 3, 0, 9, 18), (223, .iload 6, 2, 0, 6, 0), (225, .iconst (-1), 1, (-1), 0, 0), (226, .iastore, 1, 0, 0, 0), (227, .aload_n 0, 1, 0, 0, 0), (228, .getfield 68, 3, 0, 9, 19), (231, .iload 6, 2, 0, 6, 0), (233, .iconst (-1), 1, (-1), 0, 0), (234, .iastore, 1, 0, 0, 0), (235, .aload_n 0, 1, 0, 0, 0), (236, .getfield 71, 3, 0, 9, 20), (239, .iload 6, 2, 0, 6, 0), (241, .iconst 0, 1, 0, 0, 0), (242, .iastore, 1, 0, 0, 0), (243, .aload_n 0, 1, 0, 0, 0), (244, .getfield 83, 3, 0, 9, 24), (247, .iload 6, 2, 0, 6, 0), (249, .iconst 0, 1, 0, 0, 0), (250, .iastore, 1, 0, 0, 0), (251, .aload_n 0, 1, 0, 0, 0), (252, .getfield 86, 3, 0, 9, 25), (255, .iload 6, 2, 0, 6, 0), (257, .iconst 0, 1, 0, 0, 0), (258, .iastore, 1, 0, 0, 0), (259, .aload_n 0, 1, 0, 0, 0), (260, .iload 6, 2, 0, 6, 0), (262, .invokevirtual 215, 3, 0, 146, 0), (265, .iload 6, 2, 0, 6, 0), (267, .ireturn, 1, 0, 0, 0)]
def kX9_drop : List En := [(0, .aload_n 0, 1, 0, 0, 0), (1, .iload_n 1, 1, 0, 1, 0), (2, .invokevirtual 161, 3, 0, 137, 0), (5, .ifCond .ne 6, 3, 0, 11, 0), (8, .bipush (-101), 2, (-101), 0, 0), (10, .ireturn, 1, 0, 0, 0), (11, .aload_n 0, 1, 0, 0, 0), (12, .getfield 44, 3, 0, 9, 11), (15, .iload_n 1, 1, 0, 1, 0), (16, .iconst 0, 1, 0, 0, 0), (17, .bastore, 1, 0, 0, 0), (18, .iconst 1, 1, 1, 0, 0), (19, .ireturn, 1, 0, 0, 0)]
def kX9_pick : List En := [(0, .sipush 640, 3, 640, 0, 0), (3, .iload_n 1, 1, 0, 1, 0), (4, .imul, 1, 0, 0, 0), (5, .aload_n 0, 1, 0, 0, 0), (6, .getfield 83, 3, 0, 9, 24), (9, .iload_n 1, 1, 0, 1, 0), (10, .iaload, 1, 0, 0, 0), (11, .iadd, 1, 0, 0, 0), (12, .istore_n 2, 1, 0, 2, 0), (13, .aload_n 0, 1, 0, 0, 0), (14, .getfield 83, 3, 0, 9, 24), (17, .iload_n 1, 1, 0, 1, 0), (18, .dup2, 1, 0, 0, 0), (19, .iaload, 1, 0, 0, 0), (20, .iconst 1, 1, 1, 0, 0), (21, .iadd, 1, 0, 0, 0), (22, .iastore, 1, 0, 0, 0), (23, .iload_n 2, 1, 0, 2, 0), (24, .sipush 640, 3, 640, 0, 0), (27, .iload_n 1, 1, 0, 1, 0), (28, .imul, 1, 0, 0, 0), (29, .if_icmp .le 68, 3, 0, 97, 0), (32, .aload_n 0, 1, 0, 0, 0), (33, .iload_n 2, 1, 0, 2, 0), (34, .iconst 1, 1, 1, 0, 0), (35, .isub, 1, 0, 0, 0), (36, .invokevirtual 300, 3, 0, 186, 0), (39, .ifCond .eq 58, 3, 0, 97, 0), (42, .iconst 0, 1, 0, 0, 0), (43, .istore_n 3, 1, 0, 3, 0), (44, .iload_n 3, 1, 0, 3, 0), (45, .iconst 3, 1, 3, 0, 0), (46, .if_icmp .ge 31, 3, 0, 77, 0), (49, .aload_n 0, 1, 0, 0, 0), (50, .getfield 89, 3, 0, 9, 26), (53, .iconst 3, 1, 3, 0, 0), (54, .iload_n 2, 1, 0, 2, 0), (55, .imul, 1, 0, 0, 0), (56, .iload_n 3, 1, 0, 3, 0), (57, .iadd, 1, 0, 0, 0), (58, .aload_n 0, 1, 0, 0, 0), (59, .getfield 89, 3, 0, 9, 26), (62, .iconst 3, 1, 3, 0, 0), (63, .iload_n 2, 1, 0, 2, 0), (64, .imul, 1, 0, 0, 0), (65, .iconst 3, 1, 3, 0, 0), (66, .isub, 1, 0, 0, 0), (67, .iload_n 3, 1, 0, 3, 0), (68, .iadd, 1, 0, 0, 0), (69, .iaload, 1, 0, 0, 0), (70, .iastore, 1, 0, 0, 0), (71, .iinc 3 1, 3, 1, 3, 0), (74, .goto (-30), 3, 0, 44, 0), (77, .aload_n 0, 1, 0, 0, 0), (78, .getfield 92, 3, 0, 9, 27), (81, .iload_n 2, 1, 0, 2, 0), (82, .aload_n 0, 1, 0, 0, 0), (83, .getfield 92, 3, 0, 9, 27), (86, .iload_n 2, 1, 0, 2, 0), (87, .iconst 1, 1, 1, 0, 0), (88, .isub, 1, 0, 0, 0), (89, .iaload, 1, 0, 0, 0), (90, .iastore, 1, 0, 0, 0), (91, .iinc 2 (-1), 3, (-1), 2, 0), (94, .goto (-71), 3, 0, 23, 0), (97, .iconst 0, 1, 0, 0, 0), (98, .istore_n 3, 1, 0, 3, 0), (99, .iload_n 3, 1, 0, 3, 0), (100, .iconst 3, 1, 3, 0, 0), (101, .if_icmp .ge 25, 3, 0, 126, 0), (104, .aload_n 0, 1, 0, 0, 0), (105, .getfield 89, 3, 0, 9, 26), (108, .iconst 3, 1, 3, 0, 0), (109, .iload_n 2, 1, 0, 2, 0), (110, .imul, 1, 0, 0, 0), (111, .iload_n 3, 1, 0, 3, 0), (112, .iadd, 1, 0, 0, 0), (113, .aload_n 0, 1, 0, 0, 0), (114, .getfield 126, 3, 0, 9, 40), (117, .iload_n 3, 1, 0, 3, 0), (118, .iaload, 1, 0, 0, 0), (119, .iastore, 1, 0, 0, 0), (120, .iinc 3 1, 3, 1, 3, 0), (123, .goto (-24), 3, 0, 99, 0), (126, .aload_n 0, 1, 0, 0, 0), (127, .getfield 92, 3, 0, 9, 27), (130, .iload_n 2, 1, 0, 2, 0), (131, .aload_n 0, 1, 0, 0, 0), (132, .getfield 165, 3, 0, 9, 41), (135, .iastore, 1, 0, 0, 0), (136, .return_, 1, 0, 0, 0)]
def kX9_isBefore : List En := [(0, .iconst 0, 1, 0, 0, 0), (1, .istore_n 2, 1, 0, 2, 0), (2, .iload_n 2, 1, 0, 2, 0), (3, .iconst 3, 1, 3, 0, 0), (4, .if_icmp .ge 53, 3, 0, 57, 0), (7, .aload_n 0, 1, 0, 0, 0), (8, .getfield 126, 3, 0, 9, 40), (11, .iload_n 2, 1, 0, 2, 0), (12, .iaload, 1, 0, 0, 0), (13, .aload_n 0, 1, 0, 0, 0), (14, .getfield 89, 3, 0, 9, 26), (17, .iconst 3, 1, 3, 0, 0), (18, .iload_n 1, 1, 0, 1, 0), (19, .imul, 1, 0, 0, 0), (20, .iload_n 2, 1, 0, 2, 0), (21, .iadd, 1, 0, 0, 0), (22, .iaload, 1, 0, 0, 0), (23, .if_icmp .eq 28, 3, 0, 51, 0), (26, .aload_n 0, 1, 0, 0, 0), (27, .getfield 126, 3, 0, 9, 40), (30, .iload_n 2, 1, 0, 2, 0), (31, .iaload, 1, 0, 0, 0), (32, .aload_n 0, 1, 0, 0, 0), (33, .getfield 89, 3, 0, 9, 26), (36, .iconst 3, 1, 3, 0, 0), (37, .iload_n 1, 1, 0, 1, 0), (38, .imul, 1, 0, 0, 0), (39, .iload_n 2, 1, 0, 2, 0), (40, .iadd, 1, 0, 0, 0), (41, .iaload, 1, 0, 0, 0), (42, .if_icmp .ge 7, 3, 0, 49, 0), (45, .iconst 1, 1, 1, 0, 0), (46, .goto 4, 3, 0, 50, 0), (49, .iconst 0, 1, 0, 0, 0), (50, .ireturn, 1, 0, 0, 0), (51, .iinc 2 1, 3, 1, 2, 0), (54, .goto (-52), 3, 0, 2, 0), (57, .aload_n 0, 1, 0, 0, 0), (58, .getfield 165, 3, 0, 9, 41), (61, .aload_n 0, 1, 0, 0, 0), (62, .getfield 92, 3, 0, 9, 27), (65, .iload_n 1, 1, 0, 1, 0), (66, .iaload, 1, 0, 0, 0), (67, .if_icmp .ge 7, 3, 0, 74, 0), (70, .iconst 1, 1, 1, 0, 0), (71, .goto 4, 3, 0, 75, 0), (74, .iconst 0, 1, 0, 0, 0), (75, .ireturn, 1, 0, 0, 0)]
def kX9_scanStep : List En := [(0, .bipush 8, 2, 8, 0, 0), (2, .aload_n 0, 1, 0, 0, 0), (3, .getfield 59, 3, 0, 9, 16), (6, .iload_n 1, 1, 0, 1, 0), (7, .iaload, 1, 0, 0, 0), (8, .imul, 1, 0, 0, 0), (9, .istore_n 2, 1, 0, 2, 0), (10, .iload_n 2, 1, 0, 2, 0), (11, .bipush 8, 2, 8, 0, 0), (13, .aload_n 0, 1, 0, 0, 0), (14, .getfield 59, 3, 0, 9, 16), (17, .iload_n 1, 1, 0, 1, 0), (18, .iaload, 1, 0, 0, 0), (19, .imul, 1, 0, 0, 0), (20, .bipush 8, 2, 8, 0, 0), (22, .iadd, 1, 0, 0, 0), (23, .if_icmp .ge 94, 3, 0, 117, 0), (26, .aload_n 0, 1, 0, 0, 0), (27, .getfield 16, 3, 0, 9, 2), (30, .iload_n 2, 1, 0, 2, 0), (31, .baload, 1, 0, 0, 0), (32, .ifCond .eq 21, 3, 0, 53, 0), (35, .aload_n 0, 1, 0, 0, 0), (36, .iload_n 1, 1, 0, 1, 0), (37, .aload_n 0, 1, 0, 0, 0), (38, .getfield 7, 3, 0, 9, 0), (41, .iconst 4, 1, 4, 0, 0), (42, .iload_n 2, 1, 0, 2, 0), (43, .imul, 1, 0, 0, 0), (44, .iload_n 2, 1, 0, 2, 0), (45, .invokevirtual 242, 3, 0, 141, 0), (48, .aload_n 0, 1, 0, 0, 0), (49, .iload_n 1, 1, 0, 1, 0), (50, .invokevirtual 303, 3, 0, 185, 0), (53, .aload_n 0, 1, 0, 0, 0), (54, .getfield 20, 3, 0, 9, 3), (57, .iload_n 2, 1, 0, 2, 0), (58, .baload, 1, 0, 0, 0), (59, .ifCond .eq 52, 3, 0, 111, 0), (62, .aload_n 0, 1, 0, 0, 0), (63, .getfield 16, 3, 0, 9, 2), (66, .iload_n 2, 1, 0, 2, 0), (67, .baload, 1, 0, 0, 0), (68, .ifCond .eq 25, 3, 0, 93, 0), (71, .aload_n 0, 1, 0, 0, 0), (72, .iload_n 1, 1, 0, 1, 0), (73, .aload_n 0, 1, 0, 0, 0), (74, .getfield 7, 3, 0, 9, 0), (77, .iconst 4, 1, 4, 0, 0), (78, .iload_n 2, 1, 0, 2, 0), (79, .imul, 1, 0, 0, 0), (80, .aload_n 0, 1, 0, 0, 0), (81, .getfield 13, 3, 0, 9, 1), (84, .iconst 4, 1, 4, 0, 0), (85, .iload_n 2, 1, 0, 2, 0), (86, .imul, 1, 0, 0, 0), (87, .invokevirtual 234, 3, 0, 163, 0), (90, .ifCond .ne 21, 3, 0, 111, 0), (93, .aload_n 0, 1, 0, 0, 0), (94, .iload_n 1, 1, 0, 1, 0), (95, .aload_n 0, 1, 0, 0, 0), (96, .getfield 13, 3, 0, 9, 1), (99, .iconst 4, 1, 4, 0, 0), (100, .iload_n 2, 1, 0, 2, 0), (101, .imul, 1, 0, 0, 0), (102, .iload_n 2, 1, 0, 2, 0), (103, .invokevirtual 242, 3, 0, 141, 0), (106, .aload_n 0, 1, 0, 0, 0), (107, .iload_n 1, 1, 0, 1, 0), (108, .invokevirtual 303, 3, 0, 185, 0), (111, .iinc 2 1, 3, 1, 2, 0), (114, .goto (-104), 3, 0, 10, 0), (117, .aload_n 0, 1, 0, 0, 0), (118, .getfield 59, 3, 0, 9, 16), (121, .iload_n 1, 1, 0, 1, 0), (122, .dup2, 1, 0, 0, 0), (123, .iaload, 1, 0, 0, 0), (124, .iconst 1, 1, 1, 0, 0), (125, .iadd, 1, 0, 0, 0), (126, .iastore, 1, 0, 0, 0), (127, .aload_n 0, 1, 0, 0, 0), (128, .getfield 56, 3, 0, 9, 15), (131, .iload_n 1, 1, 0, 1, 0), (132, .aload_n 0, 1, 0, 0, 0), (133, .getfield 59, 3, 0, 9, 16), (136, .iload_n 1, 1, 0, 1, 0), (137, .iaload, 1, 0, 0, 0), (138, .bipush 40, 2, 40, 0, 0), (140, .if_icmp .ne 7, 3, 0, 147, 0), (143, .iconst 2, 1, 2, 0, 0), (144, .goto 4, 3, 0, 148, 0), (147, .iconst 1, 1, 1, 0, 0), (148, .iastore, 1, 0, 0, 0), (149, .return_, 1, 0, 0, 0)]
def kX9_loadStep : List En := [(0, .iconst 0, 1, 0, 0, 0), (1, .istore_n 2, 1, 0, 2, 0), (2, .iload_n 2, 1, 0, 2, 0), (3, .bipush 16, 2, 16, 0, 0), (5, .if_icmp .ge 95, 3, 0, 100, 0), (8, .aload_n 0, 1, 0, 0, 0), (9, .getfield 86, 3, 0, 9, 25), (12, .iload_n 1, 1, 0, 1, 0), (13, .iaload, 1, 0, 0, 0), (14, .aload_n 0, 1, 0, 0, 0), (15, .getfield 83, 3, 0, 9, 24), (18, .iload_n 1, 1, 0, 1, 0), (19, .iaload, 1, 0, 0, 0), (20, .if_icmp .ge 80, 3, 0, 100, 0), (23, .sipush 640, 3, 640, 0, 0), (26, .iload_n 1, 1, 0, 1, 0), (27, .imul, 1, 0, 0, 0), (28, .aload_n 0, 1, 0, 0, 0), (29, .getfield 86, 3, 0, 9, 25), (32, .iload_n 1, 1, 0, 1, 0), (33, .iaload, 1, 0, 0, 0), (34, .iadd, 1, 0, 0, 0), (35, .istore_n 3, 1, 0, 3, 0), (36, .iconst 0, 1, 0, 0, 0), (37, .istore 4, 2, 0, 4, 0), (39, .iload 4, 2, 0, 4, 0), (41, .iconst 3, 1, 3, 0, 0), (42, .if_icmp .ge 27, 3, 0, 69, 0), (45, .aload_n 0, 1, 0, 0, 0), (46, .getfield 126, 3, 0, 9, 40), (49, .iload 4, 2, 0, 4, 0), (51, .aload_n 0, 1, 0, 0, 0), (52, .getfield 89, 3, 0, 9, 26), (55, .iconst 3, 1, 3, 0, 0), (56, .iload_n 3, 1, 0, 3, 0), (57, .imul, 1, 0, 0, 0), (58, .iload 4, 2, 0, 4, 0), (60, .iadd, 1, 0, 0, 0), (61, .iaload, 1, 0, 0, 0), (62, .iastore, 1, 0, 0, 0), (63, .iinc 4 1, 3, 1, 4, 0), (66, .goto (-27), 3, 0, 39, 0), (69, .aload_n 0, 1, 0, 0, 0), (70, .aload_n 0, 1, 0, 0, 0), (71, .getfield 92, 3, 0, 9, 27), (74, .iload_n 3, 1, 0, 3, 0), (75, .iaload, 1, 0, 0, 0), (76, .putfield 165, 3, 0, 9, 41), (79, .aload_n 0, 1, 0, 0, 0), (80, .iload_n 1, 1, 0, 1, 0), (81, .invokevirtual 218, 3, 0, 152, 0), (84, .aload_n 0, 1, 0, 0, 0), (85, .getfield 86, 3, 0, 9, 25), (88, .iload_n 1, 1, 0, 1, 0), (89, .dup2, 1, 0, 0, 0), (90, .iaload, 1, 0, 0, 0), (91, .iconst 1, 1, 1, 0, 0), (92, .iadd, 1, 0, 0, 0), (93, .iastore, 1, 0, 0, 0), (94, .iinc 2 1, 3, 1, 2, 0), (97, .goto (-95), 3, 0, 2, 0), (100, .aload_n 0, 1, 0, 0, 0), (101, .getfield 56, 3, 0, 9, 15), (104, .iload_n 1, 1, 0, 1, 0), (105, .iload_n 2, 1, 0, 2, 0), (106, .bipush 16, 2, 16, 0, 0), (108, .if_icmp .ge 7, 3, 0, 115, 0), (111, .iconst 3, 1, 3, 0, 0), (112, .goto 4, 3, 0, 116, 0), (115, .iconst 2, 1, 2, 0, 0), (116, .iastore, 1, 0, 0, 0), (117, .return_, 1, 0, 0, 0)]
def kX9_catchStep : List En := [(0, .aload_n 0, 1, 0, 0, 0), (1, .getfield 71, 3, 0, 9, 20), (4, .iload_n 1, 1, 0, 1, 0), (5, .iaload, 1, 0, 0, 0), (6, .ifCond .le 182, 3, 0, 188, 0), (9, .sipush 300, 3, 300, 0, 0), (12, .iload_n 1, 1, 0, 1, 0), (13, .imul, 1, 0, 0, 0), (14, .istore_n 2, 1, 0, 2, 0), (15, .aload_n 0, 1, 0, 0, 0), (16, .getfield 74, 3, 0, 9, 21), (19, .iload_n 2, 1, 0, 2, 0), (20, .baload, 1, 0, 0, 0), (21, .istore_n 3, 1, 0, 3, 0), (22, .iconst 0, 1, 0, 0, 0), (23, .istore 4, 2, 0, 4, 0), (25, .iload 4, 2, 0, 4, 0), (27, .iconst 3, 1, 3, 0, 0), (28, .if_icmp .ge 27, 3, 0, 55, 0), (31, .aload_n 0, 1, 0, 0, 0), (32, .getfield 126, 3, 0, 9, 40), (35, .iload 4, 2, 0, 4, 0), (37, .aload_n 0, 1, 0, 0, 0), (38, .getfield 77, 3, 0, 9, 22), (41, .iconst 3, 1, 3, 0, 0), (42, .iload_n 2, 1, 0, 2, 0), (43, .imul, 1, 0, 0, 0), (44, .iload 4, 2, 0, 4, 0), (46, .iadd, 1, 0, 0, 0), (47, .iaload, 1, 0, 0, 0), (48, .iastore, 1, 0, 0, 0), (49, .iinc 4 1, 3, 1, 4, 0), (52, .goto (-27), 3, 0, 25, 0), (55, .aload_n 0, 1, 0, 0, 0), (56, .aload_n 0, 1, 0, 0, 0), (57, .getfield 80, 3, 0, 9, 23), (60, .iload_n 2, 1, 0, 2, 0), (61, .iaload, 1, 0, 0, 0), (62, .putfield 165, 3, 0, 9, 41), (65, .aload_n 0, 1, 0, 0, 0), (66, .getfield 71, 3, 0, 9, 20), (69, .iload_n 1, 1, 0, 1, 0), (70, .dup2, 1, 0, 0, 0), (71, .iaload, 1, 0, 0, 0), (72, .iconst 1, 1, 1, 0, 0), (73, .isub, 1, 0, 0, 0), (74, .iastore, 1, 0, 0, 0), (75, .iload_n 2, 1, 0, 2, 0), (76, .istore 4, 2, 0, 4, 0), (78, .iload 4, 2, 0, 4, 0), (80, .iload_n 2, 1, 0, 2, 0), (81, .aload_n 0, 1, 0, 0, 0), (82, .getfield 71, 3, 0, 9, 20), (85, .iload_n 1, 1, 0, 1, 0), (86, .iaload, 1, 0, 0, 0), (87, .iadd, 1, 0, 0, 0), (88, .if_icmp .ge 82, 3, 0, 170, 0), (91, .aload_n 0, 1, 0, 0, 0), (92, .getfield 74, 3, 0, 9, 21), (95, .iload 4, 2, 0, 4, 0), (97, .aload_n 0, 1, 0, 0, 0), (98, .getfield 74, 3, 0, 9, 21), (101, .iload 4, 2, 0, 4, 0), (103, .iconst 1, 1, 1, 0, 0), (104, .iadd, 1, 0, 0, 0), (105, .baload, 1, 0, 0, 0), (106, .bastore, 1, 0, 0, 0), (107, .aload_n 0, 1, 0, 0, 0), (108, .getfield 80, 3, 0, 9, 23), (111, .iload 4, 2, 0, 4, 0), (113, .aload_n 0, 1, 0, 0, 0), (114, .getfield 80, 3, 0, 9, 23), (117, .iload 4, 2, 0, 4, 0), (119, .iconst 1, 1, 1, 0, 0), (120, .iadd, 1, 0, 0, 0), (121, .iaload, 1, 0, 0, 0), (122, .iastore, 1, 0, 0, 0), (123, .iconst 0, 1, 0, 0, 0), (124, .istore 5, 2, 0, 5, 0), (126, .iload 5, 2, 0, 5, 0), (128, .iconst 3, 1, 3, 0, 0), (129, .if_icmp .ge 35, 3, 0, 164, 0), (132, .aload_n 0, 1, 0, 0, 0), (133, .getfield 77, 3, 0, 9, 22), (136, .iconst 3, 1, 3, 0, 0), (137, .iload 4, 2, 0, 4, 0), (139, .imul, 1, 0, 0, 0), (140, .iload 5, 2, 0, 5, 0), (142, .iadd, 1, 0, 0, 0), (143, .aload_n 0, 1, 0, 0, 0), (144, .getfield 77, 3, 0, 9, 22), (147, .iconst 3, 1, 3, 0, 0), (148, .iload 4, 2, 0, 4, 0), (150, .imul, 1, 0, 0, 0), (151, .iconst 3, 1, 3, 0, 0), (152, .iadd, 1, 0, 0, 0), (153, .iload 5, 2, 0, 5, 0), (155, .iadd, 1, 0, 0, 0), (156, .iaload, 1, 0, 0, 0), (157, .iastore, 1, 0, 0, 0), (158, .iinc 5 1, 3, 1, 5, 0), (161, .goto (-35), 3, 0, 126, 0), (164, .iinc 4 1, 3, 1, 4, 0), (167, .goto (-89), 3, 0, 78, 0), (170, .iload_n 3, 1, 0, 3, 0), (171, .ifCond .eq 11, 3, 0, 182, 0), (174, .aload_n 0, 1, 0, 0, 0), (175, .iload_n 1, 1, 0, 1, 0), (176, .invokevirtual 218, 3, 0, 152, 0), (179, .goto 8, 3, 0, 187, 0), (182, .aload_n 0, 1, 0, 0, 0), (183, .iload_n 1, 1, 0, 1, 0), (184, .invokevirtual 221, 3, 0, 154, 0), (187, .return_, 1, 0, 0, 0), (188, .aload_n 0, 1, 0, 0, 0), (189, .getfield 56, 3, 0, 9, 15), (192, .iload_n 1, 1, 0, 1, 0), (193, .iconst 4, 1, 4, 0, 0), (194, .iastore, 1, 0, 0, 0), (195, .iconst 0, 1, 0, 0, 0), (196, .istore_n 2, 1, 0, 2, 0), (197, .iload_n 2, 1, 0, 2, 0), (198, .sipush 320, 3, 320, 0, 0), (201, .if_icmp .ge 60, 3, 0, 261, 0), (204, .aload_n 0, 1, 0, 0, 0), (205, .getfield 53, 3, 0, 9, 14), (208, .iload_n 1, 1, 0, 1, 0), (209, .baload, 1, 0, 0, 0), (210, .ifCond .eq 51, 3, 0, 261, 0), (213, .aload_n 0, 1, 0, 0, 0), (214, .getfield 56, 3, 0, 9, 15), (217, .iload_n 1, 1, 0, 1, 0), (218, .iaload, 1, 0, 0, 0), (219, .iconst 4, 1, 4, 0, 0), (220, .if_icmp .ne 41, 3, 0, 261, 0), (223, .aload_n 0, 1, 0, 0, 0), (224, .iload_n 1, 1, 0, 1, 0), (225, .iload_n 2, 1, 0, 2, 0), (226, .invokevirtual 267, 3, 0, 169, 0), (229, .istore_n 3, 1, 0, 3, 0), (230, .iload_n 3, 1, 0, 3, 0), (231, .iconst (-1), 1, (-1), 0, 0), (232, .if_icmp .eq 23, 3, 0, 255, 0), (235, .aload_n 0, 1, 0, 0, 0), (236, .iload_n 1, 1, 0, 1, 0), (237, .iconst 1, 1, 1, 0, 0), (238, .invokevirtual 224, 3, 0, 160, 0), (241, .aload_n 0, 1, 0, 0, 0), (242, .getfield 65, 3, 0, 9, 18), (245, .iload_n 1, 1, 0, 1, 0), (246, .iload_n 2, 1, 0, 2, 0), (247, .iastore, 1, 0, 0, 0), (248, .aload_n 0, 1, 0, 0, 0), (249, .getfield 68, 3, 0, 9, 19), (252, .iload_n 1, 1, 0, 1, 0), (253, .iload_n 3, 1, 0, 3, 0), (254, .iastore, 1, 0, 0, 0), (255, .iinc 2 1, 3, 1, 2, 0), (258, .goto (-61), 3, 0, 197, 0), (261, .return_, 1, 0, 0, 0)]
def kX9_step : List En := [(0, .aload_n 0, 1, 0, 0, 0), (1, .iload_n 1, 1, 0, 1, 0), (2, .invokevirtual 161, 3, 0, 137, 0), (5, .ifCond .ne 6, 3, 0, 11, 0), (8, .bipush (-101), 2, (-101), 0, 0), (10, .ireturn, 1, 0, 0, 0), (11, .iload_n 2, 1, 0, 2, 0), (12, .iconst 1, 1, 1, 0, 0), (13, .sipush 1000, 3, 1000, 0, 0), (16, .invokestatic 157, 3, 0, 135, 0), (19, .ifCond .ne 6, 3, 0, 25, 0), (22, .bipush (-102), 2, (-102), 0, 0), (24, .ireturn, 1, 0, 0, 0), (25, .iconst 0, 1, 0, 0, 0), (26, .istore_n 3, 1, 0, 3, 0), (27, .iload_n 3, 1, 0, 3, 0), (28, .iload_n 2, 1, 0, 2, 0), (29, .if_icmp .ge 60, 3, 0, 89, 0), (32, .aload_n 0, 1, 0, 0, 0), (33, .getfield 56, 3, 0, 9, 15), (36, .iload_n 1, 1, 0, 1, 0), (37, .iaload, 1, 0, 0, 0), (38, .iconst 4, 1, 4, 0, 0), (39, .if_icmp .ge 50, 3, 0, 89, 0), (42, .aload_n 0, 1, 0, 0, 0), (43, .getfield 56, 3, 0, 9, 15), (46, .iload_n 1, 1, 0, 1, 0), (47, .iaload, 1, 0, 0, 0), (48, .iconst 1, 1, 1, 0, 0), (49, .if_icmp .ne 11, 3, 0, 60, 0), (52, .aload_n 0, 1, 0, 0, 0), (53, .iload_n 1, 1, 0, 1, 0), (54, .invokevirtual 306, 3, 0, 187, 0), (57, .goto 26, 3, 0, 83, 0), (60, .aload_n 0, 1, 0, 0, 0), (61, .getfield 56, 3, 0, 9, 15), (64, .iload_n 1, 1, 0, 1, 0), (65, .iaload, 1, 0, 0, 0), (66, .iconst 2, 1, 2, 0, 0), (67, .if_icmp .ne 11, 3, 0, 78, 0), (70, .aload_n 0, 1, 0, 0, 0), (71, .iload_n 1, 1, 0, 1, 0), (72, .invokevirtual 309, 3, 0, 188, 0), (75, .goto 8, 3, 0, 83, 0), (78, .aload_n 0, 1, 0, 0, 0), (79, .iload_n 1, 1, 0, 1, 0), (80, .invokevirtual 312, 3, 0, 189, 0), (83, .iinc 3 1, 3, 1, 3, 0), (86, .goto (-59), 3, 0, 27, 0), (89, .aload_n 0, 1, 0, 0, 0), (90, .getfield 56, 3, 0, 9, 15), (93, .iload_n 1, 1, 0, 1, 0), (94, .iaload, 1, 0, 0, 0), (95, .ireturn, 1, 0, 0, 0)]
def kX9_info : List En := [(0, .aload_n 0, 1, 0, 0, 0), (1, .iload_n 1, 1, 0, 1, 0), (2, .invokevirtual 161, 3, 0, 137, 0), (5, .ifCond .ne 6, 3, 0, 11, 0), (8, .bipush (-101), 2, (-101), 0, 0), (10, .ireturn, 1, 0, 0, 0), (11, .iload_n 2, 1, 0, 2, 0), (12, .tableswitch 185 0 13 #[72, 79, 94, 101, 101, 101, 114, 124, 130, 136, 157, 164, 171, 178], 72, 0, 0, 0), (84, .aload_n 0, 1, 0, 0, 0), (85, .getfield 56, 3, 0, 9, 15), (88, .iload_n 1, 1, 0, 1, 0), (89, .iaload, 1, 0, 0, 0), (90, .ireturn, 1, 0, 0, 0), (91, .aload_n 0, 1, 0, 0, 0), (92, .getfield 53, 3, 0, 9, 14), (95, .iload_n 1, 1, 0, 1, 0), (96, .baload, 1, 0, 0, 0), (97, .ifCond .eq 7, 3, 0, 104, 0), (100, .iconst 1, 1, 1, 0, 0), (101, .goto 4, 3, 0, 105, 0), (104, .iconst 0, 1, 0, 0, 0), (105, .ireturn, 1, 0, 0, 0), (106, .aload_n 0, 1, 0, 0, 0), (107, .getfield 47, 3, 0, 9, 12), (110, .iload_n 1, 1, 0, 1, 0), (111, .iaload, 1, 0, 0, 0), (112, .ireturn, 1, 0, 0, 0), (113, .aload_n 0, 1, 0, 0, 0), (114, .getfield 50, 3, 0, 9, 13), (117, .iconst 3, 1, 3, 0, 0), (118, .iload_n 1, 1, 0, 1, 0), (119, .imul, 1, 0, 0, 0), (120, .iload_n 2, 1, 0, 2, 0), (121, .iadd, 1, 0, 0, 0), (122, .iconst 3, 1, 3, 0, 0), (123, .isub, 1, 0, 0, 0), (124, .iaload, 1, 0, 0, 0), (125, .ireturn, 1, 0, 0, 0), (126, .aload_n 0, 1, 0, 0, 0), (127, .iload_n 1, 1, 0, 1, 0), (128, .invokevirtual 315, 3, 0, 157, 0), (131, .aload_n 0, 1, 0, 0, 0), (132, .getfield 212, 3, 0, 9, 45), (135, .ireturn, 1, 0, 0, 0), (136, .aload_n 0, 1, 0, 0, 0), (137, .iload_n 1, 1, 0, 1, 0), (138, .invokevirtual 318, 3, 0, 158, 0), (141, .ireturn, 1, 0, 0, 0), (142, .aload_n 0, 1, 0, 0, 0), (143, .iload_n 1, 1, 0, 1, 0), (144, .invokevirtual 321, 3, 0, 159, 0), (147, .ireturn, 1, 0, 0, 0), (148, .aload_n 0, 1, 0, 0, 0), (149, .getfield 56, 3, 0, 9, 15), (152, .iload_n 1, 1, 0, 1, 0), (153, .iaload, 1, 0, 0, 0), (154, .iconst 4, 1, 4, 0, 0), (155, .if_icmp .ge 12, 3, 0, 167, 0), (158, .aload_n 0, 1, 0, 0, 0), (159, .getfield 71, 3, 0, 9, 20), (162, .iload_n 1, 1, 0, 1, 0), (163, .iaload, 1, 0, 0, 0), (164, .goto 4, 3, 0, 168, 0), (167, .iconst 0, 1, 0, 0, 0), (168, .ireturn, 1, 0, 0, 0), (169, .aload_n 0, 1, 0, 0, 0), (170, .getfield 59, 3, 0, 9, 16), (173, .iload_n 1, 1, 0, 1, 0), (174, .iaload, 1, 0, 0, 0), (175, .ireturn, 1, 0, 0, 0), (176, .aload_n 0, 1, 0, 0, 0), (177, .getfield 62, 3, 0, 9, 17), (180, .iload_n 1, 1, 0, 1, 0), (181, .iaload, 1, 0, 0, 0), (182, .ireturn, 1, 0, 0, 0), (183, .aload_n 0, 1, 0, 0, 0), (184, .getfield 65, 3, 0, 9, 18), (187, .iload_n 1, 1, 0, 1, 0), (188, .iaload, 1, 0, 0, 0), (189, .ireturn, 1, 0, 0, 0), (190, .aload_n 0, 1, 0, 0, 0), (191, .getfield 68, 3, 0, 9, 19), (194, .iload_n 1, 1, 0, 1, 0), (195, .iaload, 1, 0, 0, 0), (196, .ireturn, 1, 0, 0, 0), (197, .bipush (-102), 2, (-102), 0, 0), (199, .ireturn, 1, 0, 0, 0)]
def kX9_entry : List En := [(0, .aload_n 0, 1, 0, 0, 0), (1, .iload_n 1, 1, 0, 1, 0), (2, .invokevirtual 161, 3, 0, 137, 0), (5, .ifCond .ne 6, 3, 0, 11, 0), (8, .bipush (-101), 2, (-101), 0, 0), (10, .ireturn, 1, 0, 0, 0), (11, .aload_n 0, 1, 0, 0, 0), (12, .iload_n 1, 1, 0, 1, 0), (13, .invokevirtual 315, 3, 0, 157, 0), (16, .iload_n 2, 1, 0, 2, 0), (17, .iconst 0, 1, 0, 0, 0), (18, .aload_n 0, 1, 0, 0, 0), (19, .getfield 212, 3, 0, 9, 45), (22, .iconst 1, 1, 1, 0, 0), (23, .isub, 1, 0, 0, 0), (24, .invokestatic 157, 3, 0, 135, 0), (27, .ifCond .ne 6, 3, 0, 33, 0), (30, .bipush (-101), 2, (-101), 0, 0), (32, .ireturn, 1, 0, 0, 0), (33, .iload_n 3, 1, 0, 3, 0), (34, .iconst 0, 1, 0, 0, 0), (35, .iconst 4, 1, 4, 0, 0), (36, .invokestatic 157, 3, 0, 135, 0), (39, .ifCond .ne 6, 3, 0, 45, 0), (42, .bipush (-102), 2, (-102), 0, 0), (44, .ireturn, 1, 0, 0, 0), (45, .iload_n 3, 1, 0, 3, 0), (46, .ifCond .ne 17, 3, 0, 63, 0), (49, .aload_n 0, 1, 0, 0, 0), (50, .getfield 107, 3, 0, 9, 32), (53, .aload_n 0, 1, 0, 0, 0), (54, .getfield 135, 3, 0, 9, 46), (57, .iload_n 2, 1, 0, 2, 0), (58, .iaload, 1, 0, 0, 0), (59, .iaload, 1, 0, 0, 0), (60, .goto 34, 3, 0, 94, 0), (63, .iload_n 3, 1, 0, 3, 0), (64, .iconst 4, 1, 4, 0, 0), (65, .if_icmp .ne 12, 3, 0, 77, 0), (68, .aload_n 0, 1, 0, 0, 0), (69, .getfield 138, 3, 0, 9, 47), (72, .iload_n 2, 1, 0, 2, 0), (73, .iaload, 1, 0, 0, 0), (74, .goto 20, 3, 0, 94, 0), (77, .aload_n 0, 1, 0, 0, 0), (78, .getfield 104, 3, 0, 9, 31), (81, .iconst 3, 1, 3, 0, 0), (82, .aload_n 0, 1, 0, 0, 0), (83, .getfield 135, 3, 0, 9, 46), (86, .iload_n 2, 1, 0, 2, 0), (87, .iaload, 1, 0, 0, 0), (88, .imul, 1, 0, 0, 0), (89, .iload_n 3, 1, 0, 3, 0), (90, .iadd, 1, 0, 0, 0), (91, .iconst 1, 1, 1, 0, 0), (92, .isub, 1, 0, 0, 0), (93, .iaload, 1, 0, 0, 0), (94, .ireturn, 1, 0, 0, 0)]
def kX9_where : List En := [(0, .iload_n 1, 1, 0, 1, 0), (1, .iconst 0, 1, 0, 0, 0), (2, .iconst 3, 1, 3, 0, 0), (3, .invokestatic 157, 3, 0, 135, 0), (6, .ifCond .ne 6, 3, 0, 12, 0), (9, .bipush (-102), 2, (-102), 0, 0), (11, .ireturn, 1, 0, 0, 0), (12, .aload_n 0, 1, 0, 0, 0), (13, .getfield 113, 3, 0, 9, 34), (16, .iload_n 1, 1, 0, 1, 0), (17, .iload_n 2, 1, 0, 2, 0), (18, .iastore, 1, 0, 0, 0), (19, .aload_n 0, 1, 0, 0, 0), (20, .getfield 116, 3, 0, 9, 35), (23, .iload_n 1, 1, 0, 1, 0), (24, .iload_n 3, 1, 0, 3, 0), (25, .iastore, 1, 0, 0, 0), (26, .iconst 1, 1, 1, 0, 0), (27, .ireturn, 1, 0, 0, 0)]
def kX9_seesAny : List En := [(0, .iload_n 1, 1, 0, 1, 0), (1, .iconst (-1), 1, (-1), 0, 0), (2, .if_icmp .eq 22, 3, 0, 24, 0), (5, .aload_n 0, 1, 0, 0, 0), (6, .getfield 23, 3, 0, 9, 4), (9, .iload_n 2, 1, 0, 2, 0), (10, .iaload, 1, 0, 0, 0), (11, .iload_n 1, 1, 0, 1, 0), (12, .if_icmp .ne 12, 3, 0, 24, 0), (15, .aload_n 0, 1, 0, 0, 0), (16, .getfield 20, 3, 0, 9, 3), (19, .iload_n 2, 1, 0, 2, 0), (20, .baload, 1, 0, 0, 0), (21, .goto 9, 3, 0, 30, 0), (24, .aload_n 0, 1, 0, 0, 0), (25, .getfield 16, 3, 0, 9, 2), (28, .iload_n 2, 1, 0, 2, 0), (29, .baload, 1, 0, 0, 0), (30, .ireturn, 1, 0, 0, 0)]
def kX9_seen : List En := [(0, .iload_n 1, 1, 0, 1, 0), (1, .iconst (-1), 1, (-1), 0, 0), (2, .if_icmp .eq 26, 3, 0, 28, 0), (5, .aload_n 0, 1, 0, 0, 0), (6, .getfield 23, 3, 0, 9, 4), (9, .iload_n 2, 1, 0, 2, 0), (10, .iaload, 1, 0, 0, 0), (11, .iload_n 1, 1, 0, 1, 0), (12, .if_icmp .ne 16, 3, 0, 28, 0), (15, .aload_n 0, 1, 0, 0, 0), (16, .getfield 13, 3, 0, 9, 1), (19, .iconst 4, 1, 4, 0, 0), (20, .iload_n 2, 1, 0, 2, 0), (21, .imul, 1, 0, 0, 0), (22, .iload_n 3, 1, 0, 3, 0), (23, .iadd, 1, 0, 0, 0), (24, .iaload, 1, 0, 0, 0), (25, .goto 13, 3, 0, 38, 0), (28, .aload_n 0, 1, 0, 0, 0), (29, .getfield 7, 3, 0, 9, 0), (32, .iconst 4, 1, 4, 0, 0), (33, .iload_n 2, 1, 0, 2, 0), (34, .imul, 1, 0, 0, 0), (35, .iload_n 3, 1, 0, 3, 0), (36, .iadd, 1, 0, 0, 0), (37, .iaload, 1, 0, 0, 0), (38, .ireturn, 1, 0, 0, 0)]
def kX9_fits : List En := [(0, .aload_n 0, 1, 0, 0, 0), (1, .iload_n 1, 1, 0, 1, 0), (2, .iload_n 2, 1, 0, 2, 0), (3, .invokevirtual 324, 3, 0, 194, 0), (6, .istore_n 3, 1, 0, 3, 0), (7, .iconst 0, 1, 0, 0, 0), (8, .istore 4, 2, 0, 4, 0), (10, .iload 4, 2, 0, 4, 0), (12, .iconst 4, 1, 4, 0, 0), (13, .if_icmp .ge 39, 3, 0, 52, 0), (16, .iload_n 3, 1, 0, 3, 0), (17, .ifCond .eq 35, 3, 0, 52, 0), (20, .aload_n 0, 1, 0, 0, 0), (21, .iload_n 1, 1, 0, 1, 0), (22, .iload_n 2, 1, 0, 2, 0), (23, .iload 4, 2, 0, 4, 0), (25, .invokevirtual 327, 3, 0, 195, 0), (28, .aload_n 0, 1, 0, 0, 0), (29, .getfield 113, 3, 0, 9, 34), (32, .iload 4, 2, 0, 4, 0), (34, .iaload, 1, 0, 0, 0), (35, .aload_n 0, 1, 0, 0, 0), (36, .getfield 116, 3, 0, 9, 35), (39, .iload 4, 2, 0, 4, 0), (41, .iaload, 1, 0, 0, 0), (42, .invokestatic 157, 3, 0, 135, 0), (45, .istore_n 3, 1, 0, 3, 0), (46, .iinc 4 1, 3, 1, 4, 0), (49, .goto (-39), 3, 0, 10, 0), (52, .iload_n 3, 1, 0, 3, 0), (53, .ireturn, 1, 0, 0, 0)]
def kX9_isInRange : List En := [(0, .iconst 0, 1, 0, 0, 0), (1, .istore_n 3, 1, 0, 3, 0), (2, .iload_n 3, 1, 0, 3, 0), (3, .aload_n 0, 1, 0, 0, 0), (4, .getfield 47, 3, 0, 9, 12), (7, .iload_n 1, 1, 0, 1, 0), (8, .iaload, 1, 0, 0, 0), (9, .if_icmp .ge 84, 3, 0, 93, 0), (12, .aload_n 0, 1, 0, 0, 0), (13, .getfield 50, 3, 0, 9, 13), (16, .iconst 3, 1, 3, 0, 0), (17, .iload_n 1, 1, 0, 1, 0), (18, .imul, 1, 0, 0, 0), (19, .iload_n 3, 1, 0, 3, 0), (20, .iadd, 1, 0, 0, 0), (21, .iaload, 1, 0, 0, 0), (22, .istore 4, 2, 0, 4, 0), (24, .aload_n 0, 1, 0, 0, 0), (25, .getfield 104, 3, 0, 9, 31), (28, .iconst 3, 1, 3, 0, 0), (29, .iload_n 2, 1, 0, 2, 0), (30, .imul, 1, 0, 0, 0), (31, .iload_n 3, 1, 0, 3, 0), (32, .iadd, 1, 0, 0, 0), (33, .iaload, 1, 0, 0, 0), (34, .istore 5, 2, 0, 5, 0), (36, .aload_n 0, 1, 0, 0, 0), (37, .getfield 113, 3, 0, 9, 34), (40, .iload 4, 2, 0, 4, 0), (42, .iaload, 1, 0, 0, 0), (43, .aload_n 0, 1, 0, 0, 0), (44, .getfield 116, 3, 0, 9, 35), (47, .iload 4, 2, 0, 4, 0), (49, .iaload, 1, 0, 0, 0), (50, .if_icmp .eq 23, 3, 0, 73, 0), (53, .iload 5, 2, 0, 5, 0), (55, .aload_n 0, 1, 0, 0, 0), (56, .getfield 113, 3, 0, 9, 34), (59, .iload 4, 2, 0, 4, 0), (61, .iaload, 1, 0, 0, 0), (62, .aload_n 0, 1, 0, 0, 0), (63, .getfield 116, 3, 0, 9, 35), (66, .iload 4, 2, 0, 4, 0), (68, .iaload, 1, 0, 0, 0), (69, .invokestatic 157, 3, 0, 135, 0), (72, .ireturn, 1, 0, 0, 0), (73, .iload 5, 2, 0, 5, 0), (75, .aload_n 0, 1, 0, 0, 0), (76, .getfield 113, 3, 0, 9, 34), (79, .iload 4, 2, 0, 4, 0), (81, .iaload, 1, 0, 0, 0), (82, .if_icmp .eq 5, 3, 0, 87, 0), (85, .iconst 0, 1, 0, 0, 0), (86, .ireturn, 1, 0, 0, 0), (87, .iinc 3 1, 3, 1, 3, 0), (90, .goto (-88), 3, 0, 2, 0), (93, .iconst 1, 1, 1, 0, 0), (94, .ireturn, 1, 0, 0, 0)]
def kX9_rangeOf : List En := [(0, .aload_n 0, 1, 0, 0, 0), (1, .iload_n 1, 1, 0, 1, 0), (2, .invokevirtual 315, 3, 0, 157, 0), (5, .iconst 0, 1, 0, 0, 0), (6, .istore_n 2, 1, 0, 2, 0), (7, .iconst 0, 1, 0, 0, 0), (8, .istore_n 3, 1, 0, 3, 0), (9, .iload_n 3, 1, 0, 3, 0), (10, .aload_n 0, 1, 0, 0, 0), (11, .getfield 212, 3, 0, 9, 45), (14, .if_icmp .ge 31, 3, 0, 45, 0), (17, .aload_n 0, 1, 0, 0, 0), (18, .iload_n 1, 1, 0, 1, 0), (19, .aload_n 0, 1, 0, 0, 0), (20, .getfield 135, 3, 0, 9, 46), (23, .iload_n 3, 1, 0, 3, 0), (24, .iaload, 1, 0, 0, 0), (25, .invokevirtual 331, 3, 0, 197, 0), (28, .ifCond .eq 9, 3, 0, 37, 0), (31, .iload_n 2, 1, 0, 2, 0), (32, .iconst 1, 1, 1, 0, 0), (33, .iadd, 1, 0, 0, 0), (34, .goto 4, 3, 0, 38, 0), (37, .iload_n 2, 1, 0, 2, 0), (38, .istore_n 2, 1, 0, 2, 0), (39, .iinc 3 1, 3, 1, 3, 0), (42, .goto (-33), 3, 0, 9, 0), (45, .iload_n 2, 1, 0, 2, 0), (46, .ireturn, 1, 0, 0, 0)]
def kX9_costOf : List En := [(0, .iload_n 1, 1, 0, 1, 0), (1, .ifCond .le 21, 3, 0, 22, 0), (4, .aload_n 0, 1, 0, 0, 0), (5, .iload_n 1, 1, 0, 1, 0), (6, .iconst 1, 1, 1, 0, 0), (7, .isub, 1, 0, 0, 0), (8, .invokevirtual 318, 3, 0, 158, 0), (11, .iconst 3, 1, 3, 0, 0), (12, .aload_n 0, 1, 0, 0, 0), (13, .iload_n 1, 1, 0, 1, 0), (14, .iconst 1, 1, 1, 0, 0), (15, .isub, 1, 0, 0, 0), (16, .invokevirtual 334, 3, 0, 198, 0), (19, .imul, 1, 0, 0, 0), (20, .iadd, 1, 0, 0, 0), (21, .ireturn, 1, 0, 0, 0), (22, .iconst 0, 1, 0, 0, 0), (23, .istore_n 2, 1, 0, 2, 0), (24, .iconst 0, 1, 0, 0, 0), (25, .istore_n 3, 1, 0, 3, 0), (26, .iload_n 3, 1, 0, 3, 0), (27, .bipush 40, 2, 40, 0, 0), (29, .if_icmp .ge 70, 3, 0, 99, 0), (32, .iconst 0, 1, 0, 0, 0), (33, .istore 4, 2, 0, 4, 0), (35, .bipush 8, 2, 8, 0, 0), (37, .iload_n 3, 1, 0, 3, 0), (38, .imul, 1, 0, 0, 0), (39, .istore 5, 2, 0, 5, 0), (41, .iload 5, 2, 0, 5, 0), (43, .bipush 8, 2, 8, 0, 0), (45, .iload_n 3, 1, 0, 3, 0), (46, .imul, 1, 0, 0, 0), (47, .bipush 8, 2, 8, 0, 0), (49, .iadd, 1, 0, 0, 0), (50, .if_icmp .ge 30, 3, 0, 80, 0), (53, .iload 4, 2, 0, 4, 0), (55, .ifCond .ne 12, 3, 0, 67, 0), (58, .aload_n 0, 1, 0, 0, 0), (59, .iload 5, 2, 0, 5, 0), (61, .invokevirtual 277, 3, 0, 140, 0), (64, .ifCond .ne 7, 3, 0, 71, 0), (67, .iconst 1, 1, 1, 0, 0), (68, .goto 4, 3, 0, 72, 0), (71, .iconst 0, 1, 0, 0, 0), (72, .istore 4, 2, 0, 4, 0), (74, .iinc 5 1, 3, 1, 5, 0), (77, .goto (-36), 3, 0, 41, 0), (80, .iload 4, 2, 0, 4, 0), (82, .ifCond .eq 9, 3, 0, 91, 0), (85, .iload_n 2, 1, 0, 2, 0), (86, .iconst 1, 1, 1, 0, 0), (87, .iadd, 1, 0, 0, 0), (88, .goto 4, 3, 0, 92, 0), (91, .iload_n 2, 1, 0, 2, 0), (92, .istore_n 2, 1, 0, 2, 0), (93, .iinc 3 1, 3, 1, 3, 0), (96, .goto (-70), 3, 0, 26, 0), (99, .bipush 8, 2, 8, 0, 0), (101, .iload_n 2, 1, 0, 2, 0), (102, .imul, 1, 0, 0, 0), (103, .ireturn, 1, 0, 0, 0)]
def kX9_hasSeenKey : List En := [(0, .aload_n 0, 1, 0, 0, 0), (1, .getfield 107, 3, 0, 9, 32), (4, .iload_n 3, 1, 0, 3, 0), (5, .iaload, 1, 0, 0, 0), (6, .istore 4, 2, 0, 4, 0), (8, .aload_n 0, 1, 0, 0, 0), (9, .iload_n 2, 1, 0, 2, 0), (10, .iload 4, 2, 0, 4, 0), (12, .invokevirtual 324, 3, 0, 194, 0), (15, .istore 5, 2, 0, 5, 0), (17, .iconst 0, 1, 0, 0, 0), (18, .istore 6, 2, 0, 6, 0), (20, .iload 6, 2, 0, 6, 0), (22, .aload_n 0, 1, 0, 0, 0), (23, .getfield 47, 3, 0, 9, 12), (26, .iload_n 1, 1, 0, 1, 0), (27, .iaload, 1, 0, 0, 0), (28, .if_icmp .ge 53, 3, 0, 81, 0), (31, .iload 5, 2, 0, 5, 0), (33, .ifCond .eq 48, 3, 0, 81, 0), (36, .aload_n 0, 1, 0, 0, 0), (37, .iload_n 2, 1, 0, 2, 0), (38, .iload 4, 2, 0, 4, 0), (40, .aload_n 0, 1, 0, 0, 0), (41, .getfield 50, 3, 0, 9, 13), (44, .iconst 3, 1, 3, 0, 0), (45, .iload_n 1, 1, 0, 1, 0), (46, .imul, 1, 0, 0, 0), (47, .iload 6, 2, 0, 6, 0), (49, .iadd, 1, 0, 0, 0), (50, .iaload, 1, 0, 0, 0), (51, .invokevirtual 327, 3, 0, 195, 0), (54, .aload_n 0, 1, 0, 0, 0), (55, .getfield 104, 3, 0, 9, 31), (58, .iconst 3, 1, 3, 0, 0), (59, .iload_n 3, 1, 0, 3, 0), (60, .imul, 1, 0, 0, 0), (61, .iload 6, 2, 0, 6, 0), (63, .iadd, 1, 0, 0, 0), (64, .iaload, 1, 0, 0, 0), (65, .if_icmp .ne 7, 3, 0, 72, 0), (68, .iconst 1, 1, 1, 0, 0), (69, .goto 4, 3, 0, 73, 0), (72, .iconst 0, 1, 0, 0, 0), (73, .istore 5, 2, 0, 5, 0), (75, .iinc 6 1, 3, 1, 6, 0), (78, .goto (-58), 3, 0, 20, 0), (81, .iload 5, 2, 0, 5, 0), (83, .ireturn, 1, 0, 0, 0)]
def kX9_isSeer : List En := [(0, .iload_n 1, 1, 0, 1, 0), (1, .iconst (-1), 1, (-1), 0, 0), (2, .if_icmp .eq 11, 3, 0, 13, 0), (5, .aload_n 0, 1, 0, 0, 0), (6, .iload_n 1, 1, 0, 1, 0), (7, .invokevirtual 274, 3, 0, 136, 0), (10, .ifCond .eq 7, 3, 0, 17, 0), (13, .iconst 1, 1, 1, 0, 0), (14, .goto 4, 3, 0, 18, 0), (17, .iconst 0, 1, 0, 0, 0), (18, .ireturn, 1, 0, 0, 0)]
def kX9_ask : List En := [(0, .aload_n 0, 1, 0, 0, 0), (1, .iload_n 1, 1, 0, 1, 0), (2, .invokevirtual 337, 3, 0, 201, 0), (5, .ifCond .eq 23, 3, 0, 28, 0), (8, .iload_n 2, 1, 0, 2, 0), (9, .iconst 1, 1, 1, 0, 0), (10, .bipush 6, 2, 6, 0, 0), (12, .invokestatic 157, 3, 0, 135, 0), (15, .ifCond .eq 16, 3, 0, 31, 0), (18, .aload_n 0, 1, 0, 0, 0), (19, .iload_n 2, 1, 0, 2, 0), (20, .iconst 1, 1, 1, 0, 0), (21, .isub, 1, 0, 0, 0), (22, .invokevirtual 264, 3, 0, 138, 0), (25, .ifCond .ne 6, 3, 0, 31, 0), (28, .bipush (-101), 2, (-101), 0, 0), (30, .ireturn, 1, 0, 0, 0), (31, .iload_n 2, 1, 0, 2, 0), (32, .iconst (-1), 1, (-1), 0, 0), (33, .bipush 6, 2, 6, 0, 0), (35, .invokestatic 157, 3, 0, 135, 0), (38, .ifCond .ne 6, 3, 0, 44, 0), (41, .bipush (-102), 2, (-102), 0, 0), (43, .ireturn, 1, 0, 0, 0), (44, .iload_n 2, 1, 0, 2, 0), (45, .istore_n 3, 1, 0, 3, 0), (46, .iload_n 2, 1, 0, 2, 0), (47, .iconst (-1), 1, (-1), 0, 0), (48, .if_icmp .ne 55, 3, 0, 103, 0), (51, .iconst 0, 1, 0, 0, 0), (52, .istore_n 3, 1, 0, 3, 0), (53, .iconst 0, 1, 0, 0, 0), (54, .istore 4, 2, 0, 4, 0), (56, .iload 4, 2, 0, 4, 0), (58, .bipush 6, 2, 6, 0, 0), (60, .if_icmp .ge 43, 3, 0, 103, 0), (63, .aload_n 0, 1, 0, 0, 0), (64, .iload 4, 2, 0, 4, 0), (66, .invokevirtual 264, 3, 0, 138, 0), (69, .ifCond .eq 26, 3, 0, 95, 0), (72, .aload_n 0, 1, 0, 0, 0), (73, .iload 4, 2, 0, 4, 0), (75, .iconst 1, 1, 1, 0, 0), (76, .iadd, 1, 0, 0, 0), (77, .invokevirtual 340, 3, 0, 199, 0), (80, .aload_n 0, 1, 0, 0, 0), (81, .iload_n 3, 1, 0, 3, 0), (82, .invokevirtual 340, 3, 0, 199, 0), (85, .if_icmp .ge 10, 3, 0, 95, 0), (88, .iload 4, 2, 0, 4, 0), (90, .iconst 1, 1, 1, 0, 0), (91, .iadd, 1, 0, 0, 0), (92, .goto 4, 3, 0, 96, 0), (95, .iload_n 3, 1, 0, 3, 0), (96, .istore_n 3, 1, 0, 3, 0), (97, .iinc 4 1, 3, 1, 4, 0), (100, .goto (-44), 3, 0, 56, 0), (103, .aload_n 0, 1, 0, 0, 0), (104, .iload_n 3, 1, 0, 3, 0), (105, .putfield 122, 3, 0, 9, 38), (108, .aload_n 0, 1, 0, 0, 0), (109, .iconst 0, 1, 0, 0, 0), (110, .putfield 343, 3, 0, 9, 36), (113, .iload_n 3, 1, 0, 3, 0), (114, .ifCond .ne 63, 3, 0, 177, 0), (117, .aload_n 0, 1, 0, 0, 0), (118, .sipush 320, 3, 320, 0, 0), (121, .putfield 346, 3, 0, 9, 39), (124, .iconst 0, 1, 0, 0, 0), (125, .istore 4, 2, 0, 4, 0), (127, .iload 4, 2, 0, 4, 0), (129, .sipush 320, 3, 320, 0, 0), (132, .if_icmp .ge 40, 3, 0, 172, 0), (135, .aload_n 0, 1, 0, 0, 0), (136, .iload_n 1, 1, 0, 1, 0), (137, .iload 4, 2, 0, 4, 0), (139, .invokevirtual 349, 3, 0, 196, 0), (142, .ifCond .eq 24, 3, 0, 166, 0), (145, .aload_n 0, 1, 0, 0, 0), (146, .getfield 119, 3, 0, 9, 37), (149, .aload_n 0, 1, 0, 0, 0), (150, .getfield 343, 3, 0, 9, 36), (153, .iload 4, 2, 0, 4, 0), (155, .iastore, 1, 0, 0, 0), (156, .aload_n 0, 1, 0, 0, 0), (157, .dup, 1, 0, 0, 0), (158, .getfield 343, 3, 0, 9, 36), (161, .iconst 1, 1, 1, 0, 0), (162, .iadd, 1, 0, 0, 0), (163, .putfield 343, 3, 0, 9, 36), (166, .iinc 4 1, 3, 1, 4, 0), (169, .goto (-42), 3, 0, 127, 0), (172, .aload_n 0, 1, 0, 0, 0), (173, .getfield 343, 3, 0, 9, 36), (176, .ireturn, 1, 0, 0, 0), (177, .iload_n 3, 1, 0, 3, 0), (178, .iconst 1, 1, 1, 0, 0), (179, .isub, 1, 0, 0, 0), (180, .istore 4, 2, 0, 4, 0), (182, .aload_n 0, 1, 0, 0, 0), (183, .iload 4, 2, 0, 4, 0), (185, .invokevirtual 315, 3, 0, 157, 0), (188, .aload_n 0, 1, 0, 0, 0), (189, .iconst 0, 1, 0, 0, 0), (190, .putfield 346, 3, 0, 9, 39), (193, .iconst 0, 1, 0, 0, 0), (194, .istore 5, 2, 0, 5, 0), (196, .iload 5, 2, 0, 5, 0), (198, .aload_n 0, 1, 0, 0, 0), (199, .getfield 212, 3, 0, 9, 45), (202, .if_icmp .ge 92, 3, 0, 294, 0), (205, .aload_n 0, 1, 0, 0, 0), (206, .getfield 135, 3, 0, 9, 46), (209, .iload 5, 2, 0, 5, 0), (211, .iaload, 1, 0, 0, 0), (212, .istore 6, 2, 0, 6, 0), (214, .aload_n 0, 1, 0, 0, 0), (215, .iload 4, 2, 0, 4, 0), (217, .iload 6, 2, 0, 6, 0), (219, .invokevirtual 331, 3, 0, 197, 0), (222, .ifCond .eq 66, 3, 0, 288, 0), (225, .aload_n 0, 1, 0, 0, 0), (226, .dup, 1, 0, 0, 0), (227, .getfield 346, 3, 0, 9, 39), (230, .iconst 1, 1, 1, 0, 0), (231, .iadd, 1, 0, 0, 0), (232, .putfield 346, 3, 0, 9, 39), (235, .aload_n 0, 1, 0, 0, 0), (236, .iload 4, 2, 0, 4, 0), (238, .iload_n 1, 1, 0, 1, 0), (239, .iload 6, 2, 0, 6, 0), (241, .invokevirtual 352, 3, 0, 200, 0), (244, .ifCond .eq 44, 3, 0, 288, 0), (247, .aload_n 0, 1, 0, 0, 0), (248, .iload_n 1, 1, 0, 1, 0), (249, .aload_n 0, 1, 0, 0, 0), (250, .getfield 107, 3, 0, 9, 32), (253, .iload 6, 2, 0, 6, 0), (255, .iaload, 1, 0, 0, 0), (256, .invokevirtual 349, 3, 0, 196, 0), (259, .ifCond .eq 29, 3, 0, 288, 0), (262, .aload_n 0, 1, 0, 0, 0), (263, .getfield 119, 3, 0, 9, 37), (266, .aload_n 0, 1, 0, 0, 0), (267, .getfield 343, 3, 0, 9, 36), (270, .aload_n 0, 1, 0, 0, 0), (271, .getfield 107, 3, 0, 9, 32), (274, .iload 6, 2, 0, 6, 0), (276, .iaload, 1, 0, 0, 0), (277, .iastore, 1, 0, 0, 0), (278, .aload_n 0, 1, 0, 0, 0), (279, .dup, 1, 0, 0, 0), (280, .getfield 343, 3, 0, 9, 36), (283, .iconst 1, 1, 1, 0, 0), (284, .iadd, 1, 0, 0, 0), (285, .putfield 343, 3, 0, 9, 36), (288, .iinc 5 1, 3, 1, 5, 0), (291, .goto (-95), 3, 0, 196, 0), (294, .aload_n 0, 1, 0, 0, 0), (295, .getfield 343, 3, 0, 9, 36), (298, .ireturn, 1, 0, 0, 0)]
def kX9_answer : List En := [(0, .iload_n 1, 1, 0, 1, 0), (1, .iconst 0, 1, 0, 0, 0), (2, .aload_n 0, 1, 0, 0, 0), (3, .getfield 343, 3, 0, 9, 36), (6, .iconst 1, 1, 1, 0, 0), (7, .isub, 1, 0, 0, 0), (8, .invokestatic 157, 3, 0, 135, 0), (11, .ifCond .eq 12, 3, 0, 23, 0), (14, .aload_n 0, 1, 0, 0, 0), (15, .getfield 119, 3, 0, 9, 37), (18, .iload_n 1, 1, 0, 1, 0), (19, .iaload, 1, 0, 0, 0), (20, .goto 4, 3, 0, 24, 0), (23, .iconst (-1), 1, (-1), 0, 0), (24, .ireturn, 1, 0, 0, 0)]
def kX9_asked : List En := [(0, .iload_n 1, 1, 0, 1, 0), (1, .ifCond .ne 10, 3, 0, 11, 0), (4, .aload_n 0, 1, 0, 0, 0), (5, .getfield 122, 3, 0, 9, 38), (8, .goto 17, 3, 0, 25, 0), (11, .iload_n 1, 1, 0, 1, 0), (12, .iconst 1, 1, 1, 0, 0), (13, .if_icmp .ne 10, 3, 0, 23, 0), (16, .aload_n 0, 1, 0, 0, 0), (17, .getfield 346, 3, 0, 9, 39), (20, .goto 5, 3, 0, 25, 0), (23, .bipush (-102), 2, (-102), 0, 0), (25, .ireturn, 1, 0, 0, 0)]
def kX9_cost : List En := [(0, .iload_n 1, 1, 0, 1, 0), (1, .iconst 1, 1, 1, 0, 0), (2, .bipush 6, 2, 6, 0, 0), (4, .invokestatic 157, 3, 0, 135, 0), (7, .ifCond .eq 16, 3, 0, 23, 0), (10, .aload_n 0, 1, 0, 0, 0), (11, .iload_n 1, 1, 0, 1, 0), (12, .iconst 1, 1, 1, 0, 0), (13, .isub, 1, 0, 0, 0), (14, .invokevirtual 264, 3, 0, 138, 0), (17, .ifCond .ne 6, 3, 0, 23, 0), (20, .bipush (-101), 2, (-101), 0, 0), (22, .ireturn, 1, 0, 0, 0), (23, .iload_n 1, 1, 0, 1, 0), (24, .iconst 0, 1, 0, 0, 0), (25, .bipush 6, 2, 6, 0, 0), (27, .invokestatic 157, 3, 0, 135, 0), (30, .ifCond .eq 11, 3, 0, 41, 0), (33, .aload_n 0, 1, 0, 0, 0), (34, .iload_n 1, 1, 0, 1, 0), (35, .invokevirtual 340, 3, 0, 199, 0), (38, .goto 5, 3, 0, 43, 0), (41, .bipush (-102), 2, (-102), 0, 0), (43, .ireturn, 1, 0, 0, 0)]
def kX9_sees : List En := [(0, .aload_n 0, 1, 0, 0, 0), (1, .iload_n 1, 1, 0, 1, 0), (2, .invokevirtual 337, 3, 0, 201, 0), (5, .ifCond .eq 10, 3, 0, 15, 0), (8, .iload_n 2, 1, 0, 2, 0), (9, .invokestatic 284, 3, 0, 139, 0), (12, .ifCond .ne 8, 3, 0, 20, 0), (15, .bipush (-101), 2, (-101), 0, 0), (17, .goto 17, 3, 0, 34, 0), (20, .aload_n 0, 1, 0, 0, 0), (21, .iload_n 1, 1, 0, 1, 0), (22, .iload_n 2, 1, 0, 2, 0), (23, .invokevirtual 324, 3, 0, 194, 0), (26, .ifCond .eq 7, 3, 0, 33, 0), (29, .iconst 1, 1, 1, 0, 0), (30, .goto 4, 3, 0, 34, 0), (33, .iconst 0, 1, 0, 0, 0), (34, .ireturn, 1, 0, 0, 0)]
def kX9_field : List En := [(0, .aload_n 0, 1, 0, 0, 0), (1, .iload_n 1, 1, 0, 1, 0), (2, .invokevirtual 337, 3, 0, 201, 0), (5, .ifCond .eq 10, 3, 0, 15, 0), (8, .iload_n 2, 1, 0, 2, 0), (9, .invokestatic 284, 3, 0, 139, 0), (12, .ifCond .ne 6, 3, 0, 18, 0), (15, .bipush (-101), 2, (-101), 0, 0), (17, .ireturn, 1, 0, 0, 0), (18, .iload_n 3, 1, 0, 3, 0), (19, .iconst 0, 1, 0, 0, 0), (20, .iconst 3, 1, 3, 0, 0), (21, .invokestatic 157, 3, 0, 135, 0), (24, .ifCond .ne 6, 3, 0, 30, 0), (27, .bipush (-102), 2, (-102), 0, 0), (29, .ireturn, 1, 0, 0, 0), (30, .aload_n 0, 1, 0, 0, 0), (31, .iload_n 1, 1, 0, 1, 0), (32, .iload_n 2, 1, 0, 2, 0), (33, .invokevirtual 324, 3, 0, 194, 0), (36, .ifCond .eq 13, 3, 0, 49, 0), (39, .aload_n 0, 1, 0, 0, 0), (40, .iload_n 1, 1, 0, 1, 0), (41, .iload_n 2, 1, 0, 2, 0), (42, .iload_n 3, 1, 0, 3, 0), (43, .invokevirtual 327, 3, 0, 195, 0), (46, .goto 4, 3, 0, 50, 0), (49, .iconst 0, 1, 0, 0, 0), (50, .ireturn, 1, 0, 0, 0)]
def kX9_writer : List En := [(0, .iload_n 1, 1, 0, 1, 0), (1, .invokestatic 284, 3, 0, 139, 0), (4, .ifCond .eq 12, 3, 0, 16, 0), (7, .aload_n 0, 1, 0, 0, 0), (8, .getfield 23, 3, 0, 9, 4), (11, .iload_n 1, 1, 0, 1, 0), (12, .iaload, 1, 0, 0, 0), (13, .goto 5, 3, 0, 18, 0), (16, .bipush (-101), 2, (-101), 0, 0), (18, .ireturn, 1, 0, 0, 0)]
def kX9_count : List En := [(0, .iconst 0, 1, 0, 0, 0), (1, .istore_n 2, 1, 0, 2, 0), (2, .iconst 0, 1, 0, 0, 0), (3, .istore_n 3, 1, 0, 3, 0), (4, .iload_n 3, 1, 0, 3, 0), (5, .sipush 320, 3, 320, 0, 0), (8, .if_icmp .ge 29, 3, 0, 37, 0), (11, .iload_n 1, 1, 0, 1, 0), (12, .ifCond .ne 25, 3, 0, 37, 0), (15, .aload_n 0, 1, 0, 0, 0), (16, .iload_n 3, 1, 0, 3, 0), (17, .invokevirtual 277, 3, 0, 140, 0), (20, .ifCond .eq 7, 3, 0, 27, 0), (23, .iload_n 2, 1, 0, 2, 0), (24, .goto 6, 3, 0, 30, 0), (27, .iload_n 2, 1, 0, 2, 0), (28, .iconst 1, 1, 1, 0, 0), (29, .iadd, 1, 0, 0, 0), (30, .istore_n 2, 1, 0, 2, 0), (31, .iinc 3 1, 3, 1, 3, 0), (34, .goto (-30), 3, 0, 4, 0), (37, .iconst 0, 1, 0, 0, 0), (38, .istore_n 3, 1, 0, 3, 0), (39, .iload_n 3, 1, 0, 3, 0), (40, .bipush 8, 2, 8, 0, 0), (42, .if_icmp .ge 31, 3, 0, 73, 0), (45, .iload_n 1, 1, 0, 1, 0), (46, .iconst 1, 1, 1, 0, 0), (47, .if_icmp .ne 26, 3, 0, 73, 0), (50, .aload_n 0, 1, 0, 0, 0), (51, .getfield 26, 3, 0, 9, 5), (54, .iload_n 3, 1, 0, 3, 0), (55, .baload, 1, 0, 0, 0), (56, .ifCond .eq 9, 3, 0, 65, 0), (59, .iload_n 2, 1, 0, 2, 0), (60, .iconst 1, 1, 1, 0, 0), (61, .iadd, 1, 0, 0, 0), (62, .goto 4, 3, 0, 66, 0), (65, .iload_n 2, 1, 0, 2, 0), (66, .istore_n 2, 1, 0, 2, 0), (67, .iinc 3 1, 3, 1, 3, 0), (70, .goto (-31), 3, 0, 39, 0), (73, .iconst 0, 1, 0, 0, 0), (74, .istore_n 3, 1, 0, 3, 0), (75, .iload_n 3, 1, 0, 3, 0), (76, .bipush 6, 2, 6, 0, 0), (78, .if_icmp .ge 58, 3, 0, 136, 0), (81, .iload_n 1, 1, 0, 1, 0), (82, .iconst 2, 1, 2, 0, 0), (83, .iconst 3, 1, 3, 0, 0), (84, .invokestatic 157, 3, 0, 135, 0), (87, .ifCond .eq 49, 3, 0, 136, 0), (90, .iload_n 1, 1, 0, 1, 0), (91, .iconst 2, 1, 2, 0, 0), (92, .if_icmp .ne 22, 3, 0, 114, 0), (95, .aload_n 0, 1, 0, 0, 0), (96, .getfield 44, 3, 0, 9, 11), (99, .iload_n 3, 1, 0, 3, 0), (100, .baload, 1, 0, 0, 0), (101, .ifCond .eq 9, 3, 0, 110, 0), (104, .iload_n 2, 1, 0, 2, 0), (105, .iconst 1, 1, 1, 0, 0), (106, .iadd, 1, 0, 0, 0), (107, .goto 22, 3, 0, 129, 0), (110, .iload_n 2, 1, 0, 2, 0), (111, .goto 18, 3, 0, 129, 0), (114, .aload_n 0, 1, 0, 0, 0), (115, .iload_n 3, 1, 0, 3, 0), (116, .invokevirtual 264, 3, 0, 138, 0), (119, .ifCond .eq 9, 3, 0, 128, 0), (122, .iload_n 2, 1, 0, 2, 0), (123, .iconst 1, 1, 1, 0, 0), (124, .iadd, 1, 0, 0, 0), (125, .goto 4, 3, 0, 129, 0), (128, .iload_n 2, 1, 0, 2, 0), (129, .istore_n 2, 1, 0, 2, 0), (130, .iinc 3 1, 3, 1, 3, 0), (133, .goto (-58), 3, 0, 75, 0), (136, .iload_n 1, 1, 0, 1, 0), (137, .iconst 0, 1, 0, 0, 0), (138, .iconst 3, 1, 3, 0, 0), (139, .invokestatic 157, 3, 0, 135, 0), (142, .ifCond .eq 7, 3, 0, 149, 0), (145, .iload_n 2, 1, 0, 2, 0), (146, .goto 5, 3, 0, 151, 0), (149, .bipush (-102), 2, (-102), 0, 0), (151, .ireturn, 1, 0, 0, 0)]
def kX9_entriesOf : List En := [(0, .iconst 0, 1, 0, 0, 0), (1, .istore_n 2, 1, 0, 2, 0), (2, .iconst 0, 1, 0, 0, 0), (3, .istore_n 3, 1, 0, 3, 0), (4, .iload_n 3, 1, 0, 3, 0), (5, .sipush 320, 3, 320, 0, 0), (8, .if_icmp .ge 93, 3, 0, 101, 0), (11, .aload_n 0, 1, 0, 0, 0), (12, .getfield 16, 3, 0, 9, 2), (15, .iload_n 3, 1, 0, 3, 0), (16, .baload, 1, 0, 0, 0), (17, .ifCond .eq 38, 3, 0, 55, 0), (20, .aload_n 0, 1, 0, 0, 0), (21, .getfield 20, 3, 0, 9, 3), (24, .iload_n 3, 1, 0, 3, 0), (25, .baload, 1, 0, 0, 0), (26, .ifCond .eq 29, 3, 0, 55, 0), (29, .aload_n 0, 1, 0, 0, 0), (30, .iload_n 1, 1, 0, 1, 0), (31, .aload_n 0, 1, 0, 0, 0), (32, .getfield 7, 3, 0, 9, 0), (35, .iconst 4, 1, 4, 0, 0), (36, .iload_n 3, 1, 0, 3, 0), (37, .imul, 1, 0, 0, 0), (38, .aload_n 0, 1, 0, 0, 0), (39, .getfield 13, 3, 0, 9, 1), (42, .iconst 4, 1, 4, 0, 0), (43, .iload_n 3, 1, 0, 3, 0), (44, .imul, 1, 0, 0, 0), (45, .invokevirtual 234, 3, 0, 163, 0), (48, .ifCond .eq 7, 3, 0, 55, 0), (51, .iconst 1, 1, 1, 0, 0), (52, .goto 4, 3, 0, 56, 0), (55, .iconst 0, 1, 0, 0, 0), (56, .istore 4, 2, 0, 4, 0), (58, .iload_n 2, 1, 0, 2, 0), (59, .aload_n 0, 1, 0, 0, 0), (60, .getfield 16, 3, 0, 9, 2), (63, .iload_n 3, 1, 0, 3, 0), (64, .baload, 1, 0, 0, 0), (65, .ifCond .eq 7, 3, 0, 72, 0), (68, .iconst 1, 1, 1, 0, 0), (69, .goto 4, 3, 0, 73, 0), (72, .iconst 0, 1, 0, 0, 0), (73, .iadd, 1, 0, 0, 0), (74, .aload_n 0, 1, 0, 0, 0), (75, .getfield 20, 3, 0, 9, 3), (78, .iload_n 3, 1, 0, 3, 0), (79, .baload, 1, 0, 0, 0), (80, .ifCond .eq 12, 3, 0, 92, 0), (83, .iload 4, 2, 0, 4, 0), (85, .ifCond .ne 7, 3, 0, 92, 0), (88, .iconst 1, 1, 1, 0, 0), (89, .goto 4, 3, 0, 93, 0), (92, .iconst 0, 1, 0, 0, 0), (93, .iadd, 1, 0, 0, 0), (94, .istore_n 2, 1, 0, 2, 0), (95, .iinc 3 1, 3, 1, 3, 0), (98, .goto (-94), 3, 0, 4, 0), (101, .iload_n 2, 1, 0, 2, 0), (102, .ireturn, 1, 0, 0, 0)]
def kX9_audit : List En := [(0, .iconst 0, 1, 0, 0, 0), (1, .istore_n 1, 1, 0, 1, 0), (2, .iconst 0, 1, 0, 0, 0), (3, .istore_n 2, 1, 0, 2, 0), (4, .iload_n 2, 1, 0, 2, 0), (5, .bipush 6, 2, 6, 0, 0), (7, .if_icmp .ge 101, 3, 0, 108, 0), (10, .aload_n 0, 1, 0, 0, 0), (11, .iload_n 2, 1, 0, 2, 0), (12, .invokevirtual 264, 3, 0, 138, 0), (15, .ifCond .eq 87, 3, 0, 102, 0), (18, .aload_n 0, 1, 0, 0, 0), (19, .iload_n 2, 1, 0, 2, 0), (20, .invokevirtual 315, 3, 0, 157, 0), (23, .iconst 0, 1, 0, 0, 0), (24, .istore_n 3, 1, 0, 3, 0), (25, .iconst 0, 1, 0, 0, 0), (26, .istore 4, 2, 0, 4, 0), (28, .iload 4, 2, 0, 4, 0), (30, .sipush 320, 3, 320, 0, 0), (33, .if_icmp .ge 39, 3, 0, 72, 0), (36, .aload_n 0, 1, 0, 0, 0), (37, .getfield 53, 3, 0, 9, 14), (40, .iload_n 2, 1, 0, 2, 0), (41, .baload, 1, 0, 0, 0), (42, .ifCond .eq 30, 3, 0, 72, 0), (45, .iload_n 3, 1, 0, 3, 0), (46, .ifCond .ne 26, 3, 0, 72, 0), (49, .aload_n 0, 1, 0, 0, 0), (50, .iload_n 2, 1, 0, 2, 0), (51, .iload 4, 2, 0, 4, 0), (53, .invokevirtual 267, 3, 0, 169, 0), (56, .iconst (-1), 1, (-1), 0, 0), (57, .if_icmp .eq 7, 3, 0, 64, 0), (60, .iconst 1, 1, 1, 0, 0), (61, .goto 4, 3, 0, 65, 0), (64, .iconst 0, 1, 0, 0, 0), (65, .istore_n 3, 1, 0, 3, 0), (66, .iinc 4 1, 3, 1, 4, 0), (69, .goto (-41), 3, 0, 28, 0), (72, .iload_n 1, 1, 0, 1, 0), (73, .aload_n 0, 1, 0, 0, 0), (74, .getfield 212, 3, 0, 9, 45), (77, .aload_n 0, 1, 0, 0, 0), (78, .iload_n 2, 1, 0, 2, 0), (79, .invokevirtual 355, 3, 0, 210, 0), (82, .if_icmp .ne 7, 3, 0, 89, 0), (85, .iconst 0, 1, 0, 0, 0), (86, .goto 4, 3, 0, 90, 0), (89, .iconst 1, 1, 1, 0, 0), (90, .iadd, 1, 0, 0, 0), (91, .iload_n 3, 1, 0, 3, 0), (92, .ifCond .eq 7, 3, 0, 99, 0), (95, .iconst 1, 1, 1, 0, 0), (96, .goto 4, 3, 0, 100, 0), (99, .iconst 0, 1, 0, 0, 0), (100, .iadd, 1, 0, 0, 0), (101, .istore_n 1, 1, 0, 1, 0), (102, .iinc 2 1, 3, 1, 2, 0), (105, .goto (-101), 3, 0, 4, 0), (108, .iload_n 1, 1, 0, 1, 0), (109, .ireturn, 1, 0, 0, 0)]
def kJ7_fill_53178 : List En := [(0, .iconst 0, 1, 0, 0, 0), (1, .istore_n 2, 1, 0, 2, 0), (2, .aload_n 0, 1, 0, 0, 0), (3, .arraylength, 1, 0, 0, 0), (4, .istore_n 3, 1, 0, 3, 0), (5, .iload_n 2, 1, 0, 2, 0), (6, .iload_n 3, 1, 0, 3, 0), (7, .if_icmp .ge 13, 3, 0, 20, 0), (10, .aload_n 0, 1, 0, 0, 0), (11, .iload_n 2, 1, 0, 2, 0), (12, .iload_n 1, 1, 0, 1, 0), (13, .iastore, 1, 0, 0, 0), (14, .iinc 2 1, 3, 1, 2, 0), (17, .goto (-12), 3, 0, 5, 0), (20, .return_, 1, 0, 0, 0)]
def kL_law : List En := [(0, .new 7, 3, 0, 8, 0), (3, .dup, 1, 0, 0, 0), (4, .invokespecial 9, 3, 0, 85, 0), (7, .astore_n 1, 1, 0, 1, 0), (8, .new 10, 3, 0, 9, 0), (11, .dup, 1, 0, 0, 0), (12, .invokespecial 12, 3, 0, 134, 0), (15, .astore_n 2, 1, 0, 2, 0), (16, .iconst 0, 1, 0, 0, 0), (17, .istore_n 3, 1, 0, 3, 0), (18, .iload_n 3, 1, 0, 3, 0), (19, .aload_n 0, 1, 0, 0, 0), (20, .arraylength, 1, 0, 0, 0), (21, .bipush 6, 2, 6, 0, 0), (23, .isub, 1, 0, 0, 0), (24, .if_icmp .gt 867, 3, 0, 891, 0), (27, .aload_n 0, 1, 0, 0, 0), (28, .iload_n 3, 1, 0, 3, 0), (29, .iaload, 1, 0, 0, 0), (30, .bipush 31, 2, 31, 0, 0), (32, .iand, 1, 0, 0, 0), (33, .tableswitch 852 0 22 #[107, 120, 183, 236, 269, 292, 325, 348, 371, 440, 463, 496, 529, 572, 615, 648, 671, 694, 717, 750, 793, 816, 839], 107, 0, 0, 0), (140, .aload_n 1, 1, 0, 1, 0), (141, .invokevirtual 13, 3, 0, 86, 0), (144, .aload_n 2, 1, 0, 2, 0), (145, .invokevirtual 17, 3, 0, 170, 0), (148, .if_icmp .eq 737, 3, 0, 885, 0), (151, .iconst 0, 1, 0, 0, 0), (152, .ireturn, 1, 0, 0, 0), (153, .aload_n 1, 1, 0, 1, 0), (154, .aload_n 0, 1, 0, 0, 0), (155, .iload_n 3, 1, 0, 3, 0), (156, .iconst 1, 1, 1, 0, 0), (157, .iadd, 1, 0, 0, 0), (158, .iaload, 1, 0, 0, 0), (159, .aload_n 0, 1, 0, 0, 0), (160, .iload_n 3, 1, 0, 3, 0), (161, .iconst 2, 1, 2, 0, 0), (162, .iadd, 1, 0, 0, 0), (163, .iaload, 1, 0, 0, 0), (164, .aload_n 0, 1, 0, 0, 0), (165, .iload_n 3, 1, 0, 3, 0), (166, .iconst 3, 1, 3, 0, 0), (167, .iadd, 1, 0, 0, 0), (168, .iaload, 1, 0, 0, 0), (169, .aload_n 0, 1, 0, 0, 0), (170, .iload_n 3, 1, 0, 3, 0), (171, .iconst 4, 1, 4, 0, 0), (172, .iadd, 1, 0, 0, 0), (173, .iaload, 1, 0, 0, 0), (174, .aload_n 0, 1, 0, 0, 0), (175, .iload_n 3, 1, 0, 3, 0), (176, .iconst 5, 1, 5, 0, 0), (177, .iadd, 1, 0, 0, 0), (178, .iaload, 1, 0, 0, 0), (179, .invokevirtual 18, 3, 0, 87, 0), (182, .aload_n 2, 1, 0, 2, 0), (183, .aload_n 0, 1, 0, 0, 0), (184, .iload_n 3, 1, 0, 3, 0), (185, .iconst 1, 1, 1, 0, 0), (186, .iadd, 1, 0, 0, 0), (187, .iaload, 1, 0, 0, 0), (188, .aload_n 0, 1, 0, 0, 0), (189, .iload_n 3, 1, 0, 3, 0), (190, .iconst 2, 1, 2, 0, 0), (191, .iadd, 1, 0, 0, 0), (192, .iaload, 1, 0, 0, 0), (193, .aload_n 0, 1, 0, 0, 0), (194, .iload_n 3, 1, 0, 3, 0), (195, .iconst 3, 1, 3, 0, 0), (196, .iadd, 1, 0, 0, 0), (197, .iaload, 1, 0, 0, 0), (198, .aload_n 0, 1, 0, 0, 0), (199, .iload_n 3, 1, 0, 3, 0), (200, .iconst 4, 1, 4, 0, 0), (201, .iadd, 1, 0, 0, 0), (202, .iaload, 1, 0, 0, 0), (203, .aload_n 0, 1, 0, 0, 0), (204, .iload_n 3, 1, 0, 3, 0), (205, .iconst 5, 1, 5, 0, 0), (206, .iadd, 1, 0, 0, 0), (207, .iaload, 1, 0, 0, 0), (208, .invokevirtual 22, 3, 0, 172, 0), (211, .if_icmp .eq 674, 3, 0, 885, 0), (214, .iconst 0, 1, 0, 0, 0), (215, .ireturn, 1, 0, 0, 0), (216, .aload_n 1, 1, 0, 1, 0), (217, .aload_n 0, 1, 0, 0, 0), (218, .iload_n 3, 1, 0, 3, 0), (219, .iconst 1, 1, 1, 0, 0), (220, .iadd, 1, 0, 0, 0), (221, .iaload, 1, 0, 0, 0), (222, .aload_n 0, 1, 0, 0, 0), (223, .iload_n 3, 1, 0, 3, 0), (224, .iconst 2, 1, 2, 0, 0), (225, .iadd, 1, 0, 0, 0), (226, .iaload, 1, 0, 0, 0), (227, .aload_n 0, 1, 0, 0, 0), (228, .iload_n 3, 1, 0, 3, 0), (229, .iconst 3, 1, 3, 0, 0), (230, .iadd, 1, 0, 0, 0), (231, .iaload, 1, 0, 0, 0), (232, .aload_n 0, 1, 0, 0, 0), (233, .iload_n 3, 1, 0, 3, 0), (234, .iconst 4, 1, 4, 0, 0), (235, .iadd, 1, 0, 0, 0), (236, .iaload, 1, 0, 0, 0), (237, .invokevirtual 23, 3, 0, 88, 0), (240, .aload_n 2, 1, 0, 2, 0), (241, .aload_n 0, 1, 0, 0, 0), (242, .iload_n 3, 1, 0, 3, 0), (243, .iconst 1, 1, 1, 0, 0), (244, .iadd, 1, 0, 0, 0), (245, .iaload, 1, 0, 0, 0), (246, .aload_n 0, 1, 0, 0, 0), (247, .iload_n 3, 1, 0, 3, 0), (248, .iconst 2, 1, 2, 0, 0), (249, .iadd, 1, 0, 0, 0), (250, .iaload, 1, 0, 0, 0), (251, .aload_n 0, 1, 0, 0, 0), (252, .iload_n 3, 1, 0, 3, 0), (253, .iconst 3, 1, 3, 0, 0), (254, .iadd, 1, 0, 0, 0), (255, .iaload, 1, 0, 0, 0), (256, .aload_n 0, 1, 0, 0, 0), (257, .iload_n 3, 1, 0, 3, 0), (258, .iconst 4, 1, 4, 0, 0), (259, .iadd, 1, 0, 0, 0), (260, .iaload, 1, 0, 0, 0), (261, .invokevirtual 27, 3, 0, 174, 0), (264, .if_icmp .eq 621, 3, 0, 885, 0), (267, .iconst 0, 1, 0, 0, 0), (268, .ireturn, 1, 0, 0, 0), (269, .aload_n 1, 1, 0, 1, 0), (270, .aload_n 0, 1, 0, 0, 0), (271, .iload_n 3, 1, 0, 3, 0), (272, .iconst 1, 1, 1, 0, 0), (273, .iadd, 1, 0, 0, 0), (274, .iaload, 1, 0, 0, 0), (275, .aload_n 0, 1, 0, 0, 0), (276, .iload_n 3, 1, 0, 3, 0), (277, .iconst 2, 1, 2, 0, 0), (278, .iadd, 1, 0, 0, 0), (279, .iaload, 1, 0, 0, 0), (280, .invokevirtual 28, 3, 0, 89, 0), (283, .aload_n 2, 1, 0, 2, 0), (284, .aload_n 0, 1, 0, 0, 0), (285, .iload_n 3, 1, 0, 3, 0), (286, .iconst 1, 1, 1, 0, 0), (287, .iadd, 1, 0, 0, 0), (288, .iaload, 1, 0, 0, 0), (289, .aload_n 0, 1, 0, 0, 0), (290, .iload_n 3, 1, 0, 3, 0), (291, .iconst 2, 1, 2, 0, 0), (292, .iadd, 1, 0, 0, 0), (293, .iaload, 1, 0, 0, 0), (294, .invokevirtual 32, 3, 0, 175, 0), (297, .if_icmp .eq 588, 3, 0, 885, 0), (300, .iconst 0, 1, 0, 0, 0), (301, .ireturn, 1, 0, 0, 0), (302, .aload_n 1, 1, 0, 1, 0), (303, .aload_n 0, 1, 0, 0, 0), (304, .iload_n 3, 1, 0, 3, 0), (305, .iconst 1, 1, 1, 0, 0), (306, .iadd, 1, 0, 0, 0), (307, .iaload, 1, 0, 0, 0), (308, .invokevirtual 33, 3, 0, 90, 0), (311, .aload_n 2, 1, 0, 2, 0), (312, .aload_n 0, 1, 0, 0, 0), (313, .iload_n 3, 1, 0, 3, 0), (314, .iconst 1, 1, 1, 0, 0), (315, .iadd, 1, 0, 0, 0), (316, .iaload, 1, 0, 0, 0), (317, .invokevirtual 37, 3, 0, 176, 0), (320, .if_icmp .eq 565, 3, 0, 885, 0), (323, .iconst 0, 1, 0, 0, 0), (324, .ireturn, 1, 0, 0, 0), (325, .aload_n 1, 1, 0, 1, 0), (326, .aload_n 0, 1, 0, 0, 0), (327, .iload_n 3, 1, 0, 3, 0), (328, .iconst 1, 1, 1, 0, 0), (329, .iadd, 1, 0, 0, 0), (330, .iaload, 1, 0, 0, 0), (331, .aload_n 0, 1, 0, 0, 0), (332, .iload_n 3, 1, 0, 3, 0), (333, .iconst 2, 1, 2, 0, 0), (334, .iadd, 1, 0, 0, 0), (335, .iaload, 1, 0, 0, 0), (336, .invokevirtual 38, 3, 0, 91, 0), (339, .aload_n 2, 1, 0, 2, 0), (340, .aload_n 0, 1, 0, 0, 0), (341, .iload_n 3, 1, 0, 3, 0), (342, .iconst 1, 1, 1, 0, 0), (343, .iadd, 1, 0, 0, 0), (344, .iaload, 1, 0, 0, 0), (345, .aload_n 0, 1, 0, 0, 0), (346, .iload_n 3, 1, 0, 3, 0), (347, .iconst 2, 1, 2, 0, 0), (348, .iadd, 1, 0, 0, 0), (349, .iaload, 1, 0, 0, 0), (350, .invokevirtual 41, 3, 0, 178, 0), (353, .if_icmp .eq 532, 3, 0, 885, 0), (356, .iconst 0, 1, 0, 0, 0), (357, .ireturn, 1, 0, 0, 0), (358, .aload_n 1, 1, 0, 1, 0), (359, .aload_n 0, 1, 0, 0, 0), (360, .iload_n 3, 1, 0, 3, 0), (361, .iconst 1, 1, 1, 0, 0), (362, .iadd, 1, 0, 0, 0), (363, .iaload, 1, 0, 0, 0), (364, .invokevirtual 42, 3, 0, 92, 0), (367, .aload_n 2, 1, 0, 2, 0), (368, .aload_n 0, 1, 0, 0, 0), (369, .iload_n 3, 1, 0, 3, 0), (370, .iconst 1, 1, 1, 0, 0), (371, .iadd, 1, 0, 0, 0), (372, .iaload, 1, 0, 0, 0), (373, .invokevirtual 45, 3, 0, 181, 0), (376, .if_icmp .eq 509, 3, 0, 885, 0), (379, .iconst 0, 1, 0, 0, 0), (380, .ireturn, 1, 0, 0, 0), (381, .aload_n 1, 1, 0, 1, 0), (382, .aload_n 0, 1, 0, 0, 0), (383, .iload_n 3, 1, 0, 3, 0), (384, .iconst 1, 1, 1, 0, 0), (385, .iadd, 1, 0, 0, 0), (386, .iaload, 1, 0, 0, 0), (387, .invokevirtual 46, 3, 0, 93, 0), (390, .aload_n 2, 1, 0, 2, 0), (391, .aload_n 0, 1, 0, 0, 0), (392, .iload_n 3, 1, 0, 3, 0), (393, .iconst 1, 1, 1, 0, 0), (394, .iadd, 1, 0, 0, 0), (395, .iaload, 1, 0, 0, 0), (396, .invokevirtual 49, 3, 0, 182, 0), (399, .if_icmp .eq 486, 3, 0, 885, 0), (402, .iconst 0, 1, 0, 0, 0), (403, .ireturn, 1, 0, 0, 0), (404, .aload_n 1, 1, 0, 1, 0), (405, .aload_n 0, 1, 0, 0, 0), (406, .iload_n 3, 1, 0, 3, 0), (407, .iconst 1, 1, 1, 0, 0), (408, .iadd, 1, 0, 0, 0), (409, .iaload, 1, 0, 0, 0), (410, .aload_n 0, 1, 0, 0, 0), (411, .iload_n 3, 1, 0, 3, 0), (412, .iconst 2, 1, 2, 0, 0), (413, .iadd, 1, 0, 0, 0), (414, .iaload, 1, 0, 0, 0), (415, .aload_n 0, 1, 0, 0, 0), (416, .iload_n 3, 1, 0, 3, 0), (417, .iconst 3, 1, 3, 0, 0), (418, .iadd, 1, 0, 0, 0), (419, .iaload, 1, 0, 0, 0), (420, .aload_n 0, 1, 0, 0, 0), (421, .iload_n 3, 1, 0, 3, 0), (422, .iconst 4, 1, 4, 0, 0), (423, .iadd, 1, 0, 0, 0), (424, .iaload, 1, 0, 0, 0), (425, .ifCond .eq 7, 3, 0, 432, 0), (428, .iconst 1, 1, 1, 0, 0), (429, .goto 4, 3, 0, 433, 0), (432, .iconst 0, 1, 0, 0, 0), (433, .invokevirtual 50, 3, 0, 107, 0), (436, .aload_n 2, 1, 0, 2, 0), (437, .aload_n 0, 1, 0, 0, 0), (438, .iload_n 3, 1, 0, 3, 0), (439, .iconst 1, 1, 1, 0, 0), (440, .iadd, 1, 0, 0, 0), (441, .iaload, 1, 0, 0, 0), (442, .aload_n 0, 1, 0, 0, 0), (443, .iload_n 3, 1, 0, 3, 0), (444, .iconst 2, 1, 2, 0, 0), (445, .iadd, 1, 0, 0, 0), (446, .iaload, 1, 0, 0, 0), (447, .aload_n 0, 1, 0, 0, 0), (448, .iload_n 3, 1, 0, 3, 0), (449, .iconst 3, 1, 3, 0, 0), (450, .iadd, 1, 0, 0, 0), (451, .iaload, 1, 0, 0, 0), (452, .aload_n 0, 1, 0, 0, 0), (453, .iload_n 3, 1, 0, 3, 0), (454, .iconst 4, 1, 4, 0, 0), (455, .iadd, 1, 0, 0, 0), (456, .iaload, 1, 0, 0, 0), (457, .ifCond .eq 7, 3, 0, 464, 0), (460, .iconst 1, 1, 1, 0, 0), (461, .goto 4, 3, 0, 465, 0), (464, .iconst 0, 1, 0, 0, 0), (465, .invokevirtual 54, 3, 0, 183, 0), (468, .if_icmp .eq 417, 3, 0, 885, 0), (471, .iconst 0, 1, 0, 0, 0), (472, .ireturn, 1, 0, 0, 0), (473, .aload_n 1, 1, 0, 1, 0), (474, .aload_n 0, 1, 0, 0, 0), (475, .iload_n 3, 1, 0, 3, 0), (476, .iconst 1, 1, 1, 0, 0), (477, .iadd, 1, 0, 0, 0), (478, .iaload, 1, 0, 0, 0), (479, .invokevirtual 55, 3, 0, 108, 0), (482, .aload_n 2, 1, 0, 2, 0), (483, .aload_n 0, 1, 0, 0, 0), (484, .iload_n 3, 1, 0, 3, 0), (485, .iconst 1, 1, 1, 0, 0), (486, .iadd, 1, 0, 0, 0), (487, .iaload, 1, 0, 0, 0), (488, .invokevirtual 58, 3, 0, 184, 0), (491, .if_icmp .eq 394, 3, 0, 885, 0), (494, .iconst 0, 1, 0, 0, 0), (495, .ireturn, 1, 0, 0, 0), (496, .aload_n 1, 1, 0, 1, 0), (497, .aload_n 0, 1, 0, 0, 0), (498, .iload_n 3, 1, 0, 3, 0), (499, .iconst 1, 1, 1, 0, 0), (500, .iadd, 1, 0, 0, 0), (501, .iaload, 1, 0, 0, 0), (502, .aload_n 0, 1, 0, 0, 0), (503, .iload_n 3, 1, 0, 3, 0), (504, .iconst 2, 1, 2, 0, 0), (505, .iadd, 1, 0, 0, 0), (506, .iaload, 1, 0, 0, 0), (507, .invokevirtual 59, 3, 0, 109, 0), (510, .aload_n 2, 1, 0, 2, 0), (511, .aload_n 0, 1, 0, 0, 0), (512, .iload_n 3, 1, 0, 3, 0), (513, .iconst 1, 1, 1, 0, 0), (514, .iadd, 1, 0, 0, 0), (515, .iaload, 1, 0, 0, 0), (516, .aload_n 0, 1, 0, 0, 0), (517, .iload_n 3, 1, 0, 3, 0), (518, .iconst 2, 1, 2, 0, 0), (519, .iadd, 1, 0, 0, 0), (520, .iaload, 1, 0, 0, 0), (521, .invokevirtual 62, 3, 0, 190, 0), (524, .if_icmp .eq 361, 3, 0, 885, 0), (527, .iconst 0, 1, 0, 0, 0), (528, .ireturn, 1, 0, 0, 0), (529, .aload_n 1, 1, 0, 1, 0), (530, .aload_n 0, 1, 0, 0, 0), (531, .iload_n 3, 1, 0, 3, 0), (532, .iconst 1, 1, 1, 0, 0), (533, .iadd, 1, 0, 0, 0), (534, .iaload, 1, 0, 0, 0), (535, .aload_n 0, 1, 0, 0, 0), (536, .iload_n 3, 1, 0, 3, 0), (537, .iconst 2, 1, 2, 0, 0), (538, .iadd, 1, 0, 0, 0), (539, .iaload, 1, 0, 0, 0), (540, .invokevirtual 63, 3, 0, 110, 0), (543, .aload_n 2, 1, 0, 2, 0), (544, .aload_n 0, 1, 0, 0, 0), (545, .iload_n 3, 1, 0, 3, 0), (546, .iconst 1, 1, 1, 0, 0), (547, .iadd, 1, 0, 0, 0), (548, .iaload, 1, 0, 0, 0), (549, .aload_n 0, 1, 0, 0, 0), (550, .iload_n 3, 1, 0, 3, 0), (551, .iconst 2, 1, 2, 0, 0), (552, .iadd, 1, 0, 0, 0), (553, .iaload, 1, 0, 0, 0), (554, .invokevirtual 66, 3, 0, 191, 0), (557, .if_icmp .eq 328, 3, 0, 885, 0), (560, .iconst 0, 1, 0, 0, 0), (561, .ireturn, 1, 0, 0, 0), (562, .aload_n 1, 1, 0, 1, 0), (563, .aload_n 0, 1, 0, 0, 0), (564, .iload_n 3, 1, 0, 3, 0), (565, .iconst 1, 1, 1, 0, 0), (566, .iadd, 1, 0, 0, 0), (567, .iaload, 1, 0, 0, 0), (568, .aload_n 0, 1, 0, 0, 0), (569, .iload_n 3, 1, 0, 3, 0), (570, .iconst 2, 1, 2, 0, 0), (571, .iadd, 1, 0, 0, 0), (572, .iaload, 1, 0, 0, 0), (573, .aload_n 0, 1, 0, 0, 0), (574, .iload_n 3, 1, 0, 3, 0), (575, .iconst 3, 1, 3, 0, 0), (576, .iadd, 1, 0, 0, 0), (577, .iaload, 1, 0, 0, 0), (578, .invokevirtual 67, 3, 0, 111, 0), (581, .aload_n 2, 1, 0, 2, 0), (582, .aload_n 0, 1, 0, 0, 0), (583, .iload_n 3, 1, 0, 3, 0), (584, .iconst 1, 1, 1, 0, 0), (585, .iadd, 1, 0, 0, 0), (586, .iaload, 1, 0, 0, 0), (587, .aload_n 0, 1, 0, 0, 0), (588, .iload_n 3, 1, 0, 3, 0), (589, .iconst 2, 1, 2, 0, 0), (590, .iadd, 1, 0, 0, 0), (591, .iaload, 1, 0, 0, 0), (592, .aload_n 0, 1, 0, 0, 0), (593, .iload_n 3, 1, 0, 3, 0), (594, .iconst 3, 1, 3, 0, 0), (595, .iadd, 1, 0, 0, 0), (596, .iaload, 1, 0, 0, 0), (597, .invokevirtual 71, 3, 0, 192, 0), (600, .if_icmp .eq 285, 3, 0, 885, 0), (603, .iconst 0, 1, 0, 0, 0), (604, .ireturn, 1, 0, 0, 0), (605, .aload_n 1, 1, 0, 1, 0), (606, .aload_n 0, 1, 0, 0, 0), (607, .iload_n 3, 1, 0, 3, 0), (608, .iconst 1, 1, 1, 0, 0), (609, .iadd, 1, 0, 0, 0), (610, .iaload, 1, 0, 0, 0), (611, .aload_n 0, 1, 0, 0, 0), (612, .iload_n 3, 1, 0, 3, 0), (613, .iconst 2, 1, 2, 0, 0), (614, .iadd, 1, 0, 0, 0), (615, .iaload, 1, 0, 0, 0), (616, .aload_n 0, 1, 0, 0, 0), (617, .iload_n 3, 1, 0, 3, 0), (618, .iconst 3, 1, 3, 0, 0), (619, .iadd, 1, 0, 0, 0), (620, .iaload, 1, 0, 0, 0), (621, .invokevirtual 72, 3, 0, 114, 0), (624, .aload_n 2, 1, 0, 2, 0), (625, .aload_n 0, 1, 0, 0, 0), (626, .iload_n 3, 1, 0, 3, 0), (627, .iconst 1, 1, 1, 0, 0), (628, .iadd, 1, 0, 0, 0), (629, .iaload, 1, 0, 0, 0), (630, .aload_n 0, 1, 0, 0, 0), (631, .iload_n 3, 1, 0, 3, 0), (632, .iconst 2, 1, 2, 0, 0), (633, .iadd, 1, 0, 0, 0), (634, .iaload, 1, 0, 0, 0), (635, .aload_n 0, 1, 0, 0, 0), (636, .iload_n 3, 1, 0, 3, 0), (637, .iconst 3, 1, 3, 0, 0), (638, .iadd, 1, 0, 0, 0), (639, .iaload, 1, 0, 0, 0), (640, .invokevirtual 75, 3, 0, 193, 0), (643, .if_icmp .eq 242, 3, 0, 885, 0), (646, .iconst 0, 1, 0, 0, 0), (647, .ireturn, 1, 0, 0, 0), (648, .aload_n 1, 1, 0, 1, 0), (649, .aload_n 0, 1, 0, 0, 0), (650, .iload_n 3, 1, 0, 3, 0), (651, .iconst 1, 1, 1, 0, 0), (652, .iadd, 1, 0, 0, 0), (653, .iaload, 1, 0, 0, 0), (654, .aload_n 0, 1, 0, 0, 0), (655, .iload_n 3, 1, 0, 3, 0), (656, .iconst 2, 1, 2, 0, 0), (657, .iadd, 1, 0, 0, 0), (658, .iaload, 1, 0, 0, 0), (659, .invokevirtual 76, 3, 0, 115, 0), (662, .aload_n 2, 1, 0, 2, 0), (663, .aload_n 0, 1, 0, 0, 0), (664, .iload_n 3, 1, 0, 3, 0), (665, .iconst 1, 1, 1, 0, 0), (666, .iadd, 1, 0, 0, 0), (667, .iaload, 1, 0, 0, 0), (668, .aload_n 0, 1, 0, 0, 0), (669, .iload_n 3, 1, 0, 3, 0), (670, .iconst 2, 1, 2, 0, 0), (671, .iadd, 1, 0, 0, 0), (672, .iaload, 1, 0, 0, 0), (673, .invokevirtual 79, 3, 0, 202, 0), (676, .if_icmp .eq 209, 3, 0, 885, 0), (679, .iconst 0, 1, 0, 0, 0), (680, .ireturn, 1, 0, 0, 0), (681, .aload_n 1, 1, 0, 1, 0), (682, .aload_n 0, 1, 0, 0, 0), (683, .iload_n 3, 1, 0, 3, 0), (684, .iconst 1, 1, 1, 0, 0), (685, .iadd, 1, 0, 0, 0), (686, .iaload, 1, 0, 0, 0), (687, .invokevirtual 80, 3, 0, 116, 0), (690, .aload_n 2, 1, 0, 2, 0), (691, .aload_n 0, 1, 0, 0, 0), (692, .iload_n 3, 1, 0, 3, 0), (693, .iconst 1, 1, 1, 0, 0), (694, .iadd, 1, 0, 0, 0), (695, .iaload, 1, 0, 0, 0), (696, .invokevirtual 83, 3, 0, 203, 0), (699, .if_icmp .eq 186, 3, 0, 885, 0), (702, .iconst 0, 1, 0, 0, 0), (703, .ireturn, 1, 0, 0, 0), (704, .aload_n 1, 1, 0, 1, 0), (705, .aload_n 0, 1, 0, 0, 0), (706, .iload_n 3, 1, 0, 3, 0), (707, .iconst 1, 1, 1, 0, 0), (708, .iadd, 1, 0, 0, 0), (709, .iaload, 1, 0, 0, 0), (710, .invokevirtual 84, 3, 0, 117, 0), (713, .aload_n 2, 1, 0, 2, 0), (714, .aload_n 0, 1, 0, 0, 0), (715, .iload_n 3, 1, 0, 3, 0), (716, .iconst 1, 1, 1, 0, 0), (717, .iadd, 1, 0, 0, 0), (718, .iaload, 1, 0, 0, 0), (719, .invokevirtual 87, 3, 0, 204, 0), (722, .if_icmp .eq 163, 3, 0, 885, 0), (725, .iconst 0, 1, 0, 0, 0), (726, .ireturn, 1, 0, 0, 0), (727, .aload_n 1, 1, 0, 1, 0), (728, .aload_n 0, 1, 0, 0, 0), (729, .iload_n 3, 1, 0, 3, 0), (730, .iconst 1, 1, 1, 0, 0), (731, .iadd, 1, 0, 0, 0), (732, .iaload, 1, 0, 0, 0), (733, .invokevirtual 88, 3, 0, 118, 0), (736, .aload_n 2, 1, 0, 2, 0), (737, .aload_n 0, 1, 0, 0, 0), (738, .iload_n 3, 1, 0, 3, 0), (739, .iconst 1, 1, 1, 0, 0), (740, .iadd, 1, 0, 0, 0), (741, .iaload, 1, 0, 0, 0), (742, .invokevirtual 91, 3, 0, 205, 0), (745, .if_icmp .eq 140, 3, 0, 885, 0), (748, .iconst 0, 1, 0, 0, 0), (749, .ireturn, 1, 0, 0, 0), (750, .aload_n 1, 1, 0, 1, 0), (751, .aload_n 0, 1, 0, 0, 0), (752, .iload_n 3, 1, 0, 3, 0), (753, .iconst 1, 1, 1, 0, 0), (754, .iadd, 1, 0, 0, 0), (755, .iaload, 1, 0, 0, 0), (756, .aload_n 0, 1, 0, 0, 0), (757, .iload_n 3, 1, 0, 3, 0), (758, .iconst 2, 1, 2, 0, 0), (759, .iadd, 1, 0, 0, 0), (760, .iaload, 1, 0, 0, 0), (761, .invokevirtual 92, 3, 0, 127, 0), (764, .aload_n 2, 1, 0, 2, 0), (765, .aload_n 0, 1, 0, 0, 0), (766, .iload_n 3, 1, 0, 3, 0), (767, .iconst 1, 1, 1, 0, 0), (768, .iadd, 1, 0, 0, 0), (769, .iaload, 1, 0, 0, 0), (770, .aload_n 0, 1, 0, 0, 0), (771, .iload_n 3, 1, 0, 3, 0), (772, .iconst 2, 1, 2, 0, 0), (773, .iadd, 1, 0, 0, 0), (774, .iaload, 1, 0, 0, 0), (775, .invokevirtual 95, 3, 0, 206, 0), (778, .if_icmp .eq 107, 3, 0, 885, 0), (781, .iconst 0, 1, 0, 0, 0), (782, .ireturn, 1, 0, 0, 0), (783, .aload_n 1, 1, 0, 1, 0), (784, .aload_n 0, 1, 0, 0, 0), (785, .iload_n 3, 1, 0, 3, 0), (786, .iconst 1, 1, 1, 0, 0), (787, .iadd, 1, 0, 0, 0), (788, .iaload, 1, 0, 0, 0), (789, .aload_n 0, 1, 0, 0, 0), (790, .iload_n 3, 1, 0, 3, 0), (791, .iconst 2, 1, 2, 0, 0), (792, .iadd, 1, 0, 0, 0), (793, .iaload, 1, 0, 0, 0), (794, .aload_n 0, 1, 0, 0, 0), (795, .iload_n 3, 1, 0, 3, 0), (796, .iconst 3, 1, 3, 0, 0), (797, .iadd, 1, 0, 0, 0), (798, .iaload, 1, 0, 0, 0), (799, .invokevirtual 96, 3, 0, 128, 0), (802, .aload_n 2, 1, 0, 2, 0), (803, .aload_n 0, 1, 0, 0, 0), (804, .iload_n 3, 1, 0, 3, 0), (805, .iconst 1, 1, 1, 0, 0), (806, .iadd, 1, 0, 0, 0), (807, .iaload, 1, 0, 0, 0), (808, .aload_n 0, 1, 0, 0, 0), (809, .iload_n 3, 1, 0, 3, 0), (810, .iconst 2, 1, 2, 0, 0), (811, .iadd, 1, 0, 0, 0), (812, .iaload, 1, 0, 0, 0), (813, .aload_n 0, 1, 0, 0, 0), (814, .iload_n 3, 1, 0, 3, 0), (815, .iconst 3, 1, 3, 0, 0), (816, .iadd, 1, 0, 0, 0), (817, .iaload, 1, 0, 0, 0), (818, .invokevirtual 99, 3, 0, 207, 0), (821, .if_icmp .eq 64, 3, 0, 885, 0), (824, .iconst 0, 1, 0, 0, 0), (825, .ireturn, 1, 0, 0, 0), (826, .aload_n 1, 1, 0, 1, 0), (827, .aload_n 0, 1, 0, 0, 0), (828, .iload_n 3, 1, 0, 3, 0), (829, .iconst 1, 1, 1, 0, 0), (830, .iadd, 1, 0, 0, 0), (831, .iaload, 1, 0, 0, 0), (832, .invokevirtual 100, 3, 0, 129, 0), (835, .aload_n 2, 1, 0, 2, 0), (836, .aload_n 0, 1, 0, 0, 0), (837, .iload_n 3, 1, 0, 3, 0), (838, .iconst 1, 1, 1, 0, 0), (839, .iadd, 1, 0, 0, 0), (840, .iaload, 1, 0, 0, 0), (841, .invokevirtual 103, 3, 0, 208, 0), (844, .if_icmp .eq 41, 3, 0, 885, 0), (847, .iconst 0, 1, 0, 0, 0), (848, .ireturn, 1, 0, 0, 0), (849, .aload_n 1, 1, 0, 1, 0), (850, .aload_n 0, 1, 0, 0, 0), (851, .iload_n 3, 1, 0, 3, 0), (852, .iconst 1, 1, 1, 0, 0), (853, .iadd, 1, 0, 0, 0), (854, .iaload, 1, 0, 0, 0), (855, .invokevirtual 104, 3, 0, 130, 0), (858, .aload_n 2, 1, 0, 2, 0), (859, .aload_n 0, 1, 0, 0, 0), (860, .iload_n 3, 1, 0, 3, 0), (861, .iconst 1, 1, 1, 0, 0), (862, .iadd, 1, 0, 0, 0), (863, .iaload, 1, 0, 0, 0), (864, .invokevirtual 107, 3, 0, 209, 0), (867, .if_icmp .eq 18, 3, 0, 885, 0), (870, .iconst 0, 1, 0, 0, 0), (871, .ireturn, 1, 0, 0, 0), (872, .aload_n 1, 1, 0, 1, 0), (873, .invokevirtual 108, 3, 0, 131, 0), (876, .aload_n 2, 1, 0, 2, 0), (877, .invokevirtual 111, 3, 0, 211, 0), (880, .if_icmp .eq 5, 3, 0, 885, 0), (883, .iconst 0, 1, 0, 0, 0), (884, .ireturn, 1, 0, 0, 0), (885, .iinc 3 6, 3, 6, 3, 0), (888, .goto (-870), 3, 0, 18, 0), (891, .iconst 1, 1, 1, 0, 0), (892, .ireturn, 1, 0, 0, 0)]
def cd0 : List (List En) := [kX0_init, kX0_word, kX0_set, kX0_copy, kX0_compare, kX1_init, kX1_has, kX1_valueOf, kX1_set, kX1_put, kX1_clear, kX1_copy, kX1_copyAll, kX2_init, kX2_start, kX2_forgetEntries, kX2_isBuilding, kX2_isGuard, kX2_haveOneKey, kX2_makeEntry, kX2_hasKeyOf, kX2_makeComing, kX2_makeGoing, kX2_takeMade, kX2_fail, kX2_takeStep, kX2_scanPage, kX2_loadSome, kX2_catchUp, kX2_finish]
def cd1 : List (List En) := [kX2_leastWithClash, kX2_leastClashWith, kX2_isClash, kX2_rangeSize, kX2_isInRange, kX2_faults, kX2_missing, kX3_init, kX3_clear, kX3_isFull, kX3_add, kX3_firstSlot, kX3_firstCame, kX3_takeFirst, kX4_init, kX4_clear, kX4_add, kX4_slotOf, kX4_take, kX5_init, kX5_copyFrom, kX5_isFree, kX5_placesInUse, kX5_seenBy, kX6_init, kX6_isFull, kX6_add, kX6_putBack, kX7_init, kX7_empty]
def cd2 : List (List En) := [kX7_size, kX7_nodes, kX7_height, kX7_wordAt, kX7_depthAt, kX7_holds, kX7_add, kX7_cut, kX7_isLowest, kX7_takeNode, kX7_giveNode, kX7_find, kX7_goToGreatestBelow, kX7_putInto, kX7_takeOut, kX7_splitUpwards, kX7_halve, kX7_mendUpwards, kX7_takeFromLeft, kX7_takeFromRight, kX7_joinAround, kX7_walkAll, kX7_noteWalked, kX7_faults, kX7_nodeFaults, kX8_init, kX8_begin, kX8_insert, kX8_update, kX8_remove]
def cd3 : List (List En) := [kX8_records, kX8_undo, kX8_commit, kX8_abort, kX8_isActive, kX8_isPlace, kX8_isField, kX8_isLocked, kX8_hasRow, kX8_leastFreePlace, kX8_write, kX8_undoTo, kX8_tellIndexes, kX8_wouldClash, kX8_undoWouldClash, kX8_hasGuard, kX8_clashesIn, kX8_index, kX8_drop, kX8_step, kX8_info, kX8_entry, kX8_isIndex, kX8_isKey, kX8_where, kX8_ask, kX8_answer, kX8_asked, kX8_cost, kX8_isReady]
def cd4 : List (List En) := [kX8_cheapestWay, kX8_costOf, kX8_pagesInUse, kX8_answerByScan, kX8_answerByIndex, kX8_fits, kX8_tell, kX8_sees, kX8_field, kX8_writer, kX8_count, kX8_audit, kX8_activeTransactions, kX8_indexesFrom, kX9_init, kX9_in, kX9_isActive, kX9_isIndex, kX9_isReady, kX9_isPlace, kX9_isFree, kX9_entryOf, kX9_compare, kX9_copySlot, kX9_fillSlot, kX9_node, kX9_emptyTree, kX9_isLowest, kX9_slotFor, kX9_find]
def cd5 : List (List En) := [kX9_addAt, kX9_takeSlot, kX9_comesToTree, kX9_takeOut, kX9_goesFromTree, kX9_settle, kX9_join, kX9_goThrough, kX9_heightOf, kX9_nodesOf, kX9_fail, kX9_note, kX9_keepBefore, kX9_sameKey, kX9_hadKey, kX9_hasKey, kX9_changed, kX9_sharesKey, kX9_clash, kX9_clashOf, kX9_begin, kX9_write, kX9_insert, kX9_isLocked, kX9_update, kX9_remove, kX9_records, kX9_undoOne, kX9_undo, kX9_undoTo]
def cd6 : List (List En) := [kX9_wouldClash, kX9_commit, kX9_abort, kX9_index, kX9_drop, kX9_pick, kX9_isBefore, kX9_scanStep, kX9_loadStep, kX9_catchStep, kX9_step, kX9_info, kX9_entry, kX9_where, kX9_seesAny, kX9_seen, kX9_fits, kX9_isInRange, kX9_rangeOf, kX9_costOf, kX9_hasSeenKey, kX9_isSeer, kX9_ask, kX9_answer, kX9_asked, kX9_cost, kX9_sees, kX9_field, kX9_writer, kX9_count]
def cd7 : List (List En) := [kX9_entriesOf, kX9_audit, kJ7_fill_53178, kL_law]
def cd (f : Nat) : List En := match f / 30 with
  | 0 => (cd0[f % 30]?).getD []
  | 1 => (cd1[f % 30]?).getD []
  | 2 => (cd2[f % 30]?).getD []
  | 3 => (cd3[f % 30]?).getD []
  | 4 => (cd4[f % 30]?).getD []
  | 5 => (cd5[f % 30]?).getD []
  | 6 => (cd6[f % 30]?).getD []
  | 7 => (cd7[f % 30]?).getD []
  | _ => []
theorem hk1 {w : Cond} (h : w ∈ tables_1_1) : w ∈ lw_tbl := List.mem_append_right _ (List.mem_append_left _ (h))
theorem hk2 {w : Cond} (h : w ∈ tables_1_2) : w ∈ lw_tbl := List.mem_append_right _ (List.mem_append_right _ (List.mem_append_left _ (h)))
theorem hk3 {w : Cond} (h : w ∈ tables_1_3) : w ∈ lw_tbl := List.mem_append_right _ (List.mem_append_right _ (List.mem_append_right _ (List.mem_append_left _ (h))))
theorem hk4 {w : Cond} (h : w ∈ tables_1_4) : w ∈ lw_tbl := List.mem_append_right _ (List.mem_append_right _ (List.mem_append_right _ (List.mem_append_right _ (List.mem_append_left _ (h)))))
theorem hk5 {w : Cond} (h : w ∈ tables_1_5) : w ∈ lw_tbl := List.mem_append_right _ (List.mem_append_right _ (List.mem_append_right _ (List.mem_append_right _ (List.mem_append_right _ (List.mem_append_left _ (h))))))
theorem hk6 {w : Cond} (h : w ∈ tables_1_6) : w ∈ lw_tbl := List.mem_append_right _ (List.mem_append_right _ (List.mem_append_right _ (List.mem_append_right _ (List.mem_append_right _ (List.mem_append_right _ (h))))))
theorem hps {q : MethodName × Nat} (h : q ∈ lw_privs) : Cond.selects q.1.cls q.1 q.1 ∈ lw_tbl := List.mem_append_left _ (List.mem_map.mpr ⟨q, h, rfl⟩)
theorem mixT {α : Type} {l : List α} {g : α → Cond} {big : List Cond} {ps : List Nat} (h : l.map g = ps.filterMap (fun i => big[i]?)) : ∀ e ∈ l, g e ∈ big := by
  intro e he
  have h1 : g e ∈ l.map g := List.mem_map.mpr ⟨e, he, rfl⟩
  rw [h] at h1
  obtain ⟨i, -, hi⟩ := List.mem_filterMap.mp h1
  exact List.mem_of_getElem? hi
def flT_1_0 : List (Nat × Nat × Nat × Nat) := [(0, 11, 0, 0), (1, 11, 1, 0), (2, 9, 2, 0), (2, 15, 2, 1), (2, 18, 2, 2), (2, 22, 2, 3), (2, 26, 2, 4), (2, 29, 2, 5), (2, 32, 2, 6), (2, 35, 2, 7), (2, 38, 2, 8), (2, 98, 5, 1), (2, 108, 5, 0), (2, 145, 3, 2), (2, 159, 4, 0), (2, 165, 3, 0), (2, 184, 5, 2), (3, 14, 3, 0), (3, 20, 3, 1), (3, 24, 3, 2), (3, 28, 3, 3), (4, 16, 4, 0), (4, 20, 4, 1), (4, 24, 4, 2), (4, 28, 4, 3), (5, 14, 5, 0), (5, 20, 5, 1), (5, 23, 5, 2), (6, 9, 6, 0), (6, 15, 6, 1), (6, 19, 6, 2), (6, 23, 6, 3), (6, 31, 6, 4), (6, 39, 5, 2), (6, 44, 5, 1), (7, 16, 7, 0), (7, 20, 7, 1), (7, 24, 7, 2), (7, 28, 7, 3), (7, 31, 7, 4)]
set_option maxRecDepth 20000 in
theorem flT_1_0_ok : ∀ e ∈ flT_1_0, (fun e => Cond.fieldLink (RC e.1) e.2.1 (TC e.2.2.1 e.2.2.2).1 (TC e.2.2.1 e.2.2.2).2.1 (TC e.2.2.1 e.2.2.2).2.2.1) e ∈ tables_1_1 := mixT (ps := [109, 34, 222, 224, 226, 228, 230, 232, 234, 236, 238, 48, 44, 185, 207, 182, 52, 181, 183, 184, 187, 206, 208, 209, 210, 42, 45, 49, 73, 75, 77, 79, 80, 50, 46, 121, 122, 123, 124, 125]) (by decide +kernel)
def flT_1_40 : List (Nat × Nat × Nat × Nat) := [(7, 34, 7, 5), (7, 37, 7, 6), (7, 40, 7, 7), (7, 43, 7, 8), (7, 46, 7, 9), (7, 49, 7, 10), (7, 52, 7, 11), (7, 55, 7, 12), (7, 58, 7, 13), (7, 61, 7, 14), (7, 65, 7, 15), (7, 68, 7, 16), (8, 73, 6, 0), (8, 77, 6, 1), (8, 113, 5, 1), (8, 137, 5, 2), (8, 140, 5, 0), (8, 159, 6, 2), (8, 165, 2, 0), (8, 214, 2, 4), (8, 217, 2, 1), (8, 220, 2, 2), (8, 223, 2, 3), (8, 244, 3, 2), (8, 247, 2, 5), (8, 250, 2, 6), (8, 253, 2, 7), (8, 256, 2, 8)]
set_option maxRecDepth 20000 in
theorem flT_1_40_ok : ∀ e ∈ flT_1_40, (fun e => Cond.fieldLink (RC e.1) e.2.1 (TC e.2.2.1 e.2.2.2).1 (TC e.2.2.1 e.2.2.2).2.1 (TC e.2.2.1 e.2.2.2).2.2.1) e ∈ tables_1_1 := mixT (ps := [126, 127, 128, 129, 130, 131, 132, 133, 134, 135, 136, 137, 74, 76, 47, 51, 43, 78, 223, 231, 225, 227, 229, 186, 233, 235, 237, 239]) (by decide +kernel)
def flT_2_0 : List (Nat × Nat × Nat × Nat) := [(2, 44, 2, 9), (2, 51, 2, 10), (2, 58, 2, 11), (2, 67, 2, 12), (8, 12, 8, 0), (8, 16, 8, 1), (8, 21, 8, 2), (8, 27, 8, 3), (8, 36, 8, 4), (8, 40, 8, 5), (8, 43, 8, 6), (8, 47, 8, 7), (8, 50, 8, 8), (8, 53, 8, 9), (8, 57, 8, 10), (8, 60, 8, 11), (8, 226, 2, 9), (8, 240, 2, 10)]
set_option maxRecDepth 20000 in
theorem flT_2_0_ok : ∀ e ∈ flT_2_0, (fun e => Cond.fieldLink (RC e.1) e.2.1 (TC e.2.2.1 e.2.2.2).1 (TC e.2.2.1 e.2.2.2).2.1 (TC e.2.2.1 e.2.2.2).2.2.1) e ∈ tables_1_2 := mixT (ps := [0, 2, 4, 5, 36, 37, 38, 39, 40, 41, 42, 43, 44, 45, 46, 47, 1, 3]) (by decide +kernel)
def flT_4_0 : List (Nat × Nat × Nat × Nat) := [(9, 7, 9, 0), (9, 13, 9, 1), (9, 16, 9, 2), (9, 20, 9, 3), (9, 23, 9, 4), (9, 26, 9, 5), (9, 29, 9, 6), (9, 32, 9, 7), (9, 35, 9, 8), (9, 38, 9, 9), (9, 41, 9, 10), (9, 44, 9, 11), (9, 47, 9, 12), (9, 50, 9, 13), (9, 53, 9, 14), (9, 56, 9, 15), (9, 59, 9, 16), (9, 62, 9, 17), (9, 65, 9, 18), (9, 68, 9, 19), (9, 71, 9, 20), (9, 74, 9, 21), (9, 77, 9, 22), (9, 80, 9, 23), (9, 83, 9, 24), (9, 86, 9, 25), (9, 89, 9, 26), (9, 92, 9, 27), (9, 95, 9, 28), (9, 98, 9, 29), (9, 101, 9, 30), (9, 104, 9, 31), (9, 107, 9, 32), (9, 110, 9, 33), (9, 113, 9, 34), (9, 116, 9, 35), (9, 119, 9, 37), (9, 122, 9, 38), (9, 126, 9, 40), (9, 129, 9, 43)]
set_option maxRecDepth 20000 in
theorem flT_4_0_ok : ∀ e ∈ flT_4_0, (fun e => Cond.fieldLink (RC e.1) e.2.1 (TC e.2.2.1 e.2.2.2).1 (TC e.2.2.1 e.2.2.2).2.1 (TC e.2.2.1 e.2.2.2).2.2.1) e ∈ tables_1_4 := mixT (ps := [118, 119, 120, 121, 122, 123, 124, 125, 126, 127, 128, 129, 130, 131, 132, 133, 134, 135, 136, 137, 138, 139, 140, 141, 142, 143, 144, 145, 146, 147, 148, 149, 150, 151, 152, 153, 155, 156, 158, 161]) (by decide +kernel)
def flT_4_40 : List (Nat × Nat × Nat × Nat) := [(9, 132, 9, 44), (9, 135, 9, 46), (9, 138, 9, 47), (9, 141, 9, 48), (9, 144, 9, 51), (9, 147, 9, 52), (9, 150, 9, 53), (9, 153, 9, 54), (9, 165, 9, 41), (9, 175, 9, 42), (9, 212, 9, 45), (9, 227, 9, 49), (9, 231, 9, 50), (9, 343, 9, 36), (9, 346, 9, 39)]
set_option maxRecDepth 20000 in
theorem flT_4_40_ok : ∀ e ∈ flT_4_40, (fun e => Cond.fieldLink (RC e.1) e.2.1 (TC e.2.2.1 e.2.2.2).1 (TC e.2.2.1 e.2.2.2).2.1 (TC e.2.2.1 e.2.2.2).2.2.1) e ∈ tables_1_4 := mixT (ps := [162, 164, 165, 166, 169, 170, 171, 172, 159, 160, 163, 167, 168, 154, 157]) (by decide +kernel)
def flT : List (Nat × Nat × Nat × Nat) := flT_1_0 ++ (flT_1_40 ++ (flT_2_0 ++ (flT_4_0 ++ (flT_4_40))))
theorem flT_ok : ∀ e ∈ flT, (fun e => Cond.fieldLink (RC e.1) e.2.1 (TC e.2.2.1 e.2.2.2).1 (TC e.2.2.1 e.2.2.2).2.1 (TC e.2.2.1 e.2.2.2).2.2.1) e ∈ lw_tbl := List.forall_mem_append.mpr ⟨fun e h => hk1 (flT_1_0_ok e h), List.forall_mem_append.mpr ⟨fun e h => hk1 (flT_1_40_ok e h), List.forall_mem_append.mpr ⟨fun e h => hk2 (flT_2_0_ok e h), List.forall_mem_append.mpr ⟨fun e h => hk4 (flT_4_0_ok e h), (fun e h => hk4 (flT_4_40_ok e h))⟩⟩⟩⟩
def mtY (f : Nat) : MethodName := ((mT f).getD (yX0_init, cX0_init, 0, none, 0, 0, 0, 0, 0)).1
def mtT_1_0 : List (Nat × Nat × Nat) := [(2, 43, 58), (2, 64, 0), (3, 11, 0), (4, 13, 0), (5, 11, 5), (5, 27, 212), (6, 28, 5), (7, 13, 0), (7, 71, 59), (7, 74, 69), (8, 11, 49), (8, 33, 5), (10, 9, 85)]
set_option maxRecDepth 20000 in
theorem mtT_1_0_ok : ∀ e ∈ mtT_1_0, (fun e => Cond.methodLink (RC e.1) e.2.1 (mtY e.2.2)) e ∈ tables_1_1 := mixT (ps := [99, 221, 180, 205, 30, 39, 72, 105, 113, 117, 24, 65, 16]) (by decide +kernel)
def mtT_2_0 : List (Nat × Nat × Nat) := [(2, 81, 6), (2, 87, 7), (2, 91, 2), (2, 104, 18), (2, 111, 19), (2, 115, 66), (2, 119, 67), (2, 180, 32), (5, 33, 12), (5, 43, 6), (6, 35, 55), (6, 47, 11), (7, 78, 68), (7, 89, 71), (7, 93, 3), (7, 97, 73), (7, 101, 75), (7, 104, 74), (7, 108, 72), (7, 111, 77), (7, 114, 4), (7, 124, 76), (7, 127, 78), (8, 66, 212), (8, 80, 94), (8, 84, 99), (8, 88, 55), (8, 92, 9), (8, 96, 103), (8, 100, 100), (8, 120, 11), (8, 143, 102), (8, 152, 51), (8, 155, 56), (8, 168, 21), (8, 172, 23), (8, 179, 105), (8, 182, 50), (8, 186, 106), (8, 190, 17)]
set_option maxRecDepth 20000 in
theorem mtT_2_0_ok : ∀ e ∈ mtT_2_0, (fun e => Cond.methodLink (RC e.1) e.2.1 (mtY e.2.2)) e ∈ tables_1_2 := mixT (ps := [144, 153, 179, 149, 175, 187, 221, 145, 121, 93, 165, 166, 199, 191, 203, 208, 213, 225, 229, 233, 195, 217, 237, 34, 81, 85, 97, 101, 105, 157, 132, 167, 89, 161, 171, 183, 109, 117, 136, 113]) (by decide +kernel)
def mtT_2_40 : List (Nat × Nat × Nat) := [(8, 193, 31), (10, 13, 86), (10, 18, 87)]
set_option maxRecDepth 20000 in
theorem mtT_2_40_ok : ∀ e ∈ mtT_2_40, (fun e => Cond.methodLink (RC e.1) e.2.1 (mtY e.2.2)) e ∈ tables_1_2 := mixT (ps := [140, 73, 77]) (by decide +kernel)
def mtT_3_0 : List (Nat × Nat × Nat) := [(2, 71, 15), (2, 74, 59), (2, 77, 38), (2, 80, 45), (2, 122, 16), (2, 126, 1), (2, 129, 39), (2, 132, 24), (2, 135, 40), (2, 138, 26), (2, 142, 27), (2, 148, 28), (2, 151, 29), (2, 154, 46), (2, 155, 48), (2, 162, 42), (2, 166, 41), (2, 169, 43), (2, 172, 30), (2, 176, 31), (3, 31, 39), (3, 35, 3), (4, 31, 3), (4, 35, 47), (4, 45, 4), (7, 82, 81), (7, 85, 1), (7, 130, 79), (7, 133, 80), (7, 136, 70), (7, 139, 82), (8, 104, 96), (8, 107, 97), (8, 110, 98), (8, 116, 7), (8, 124, 8), (8, 128, 10), (8, 131, 104), (8, 134, 101), (8, 146, 95)]
set_option maxRecDepth 20000 in
theorem mtT_3_0_ok : ∀ e ∈ mtT_3_0, (fun e => Cond.methodLink (RC e.1) e.2.1 (mtY e.2.2)) e ∈ tables_1_3 := mixT (ps := [29, 33, 34, 38, 13, 17, 21, 25, 42, 140, 155, 163, 179, 144, 159, 167, 171, 175, 183, 187, 46, 47, 148, 149, 153, 212, 220, 1, 5, 9, 216, 56, 59, 66, 71, 72, 80, 92, 100, 63]) (by decide +kernel)
def mtT_3_40 : List (Nat × Nat × Nat) := [(8, 149, 6), (8, 162, 57), (8, 176, 22), (8, 197, 113), (8, 201, 14), (8, 205, 112), (8, 208, 16), (8, 211, 25), (8, 230, 60), (8, 234, 62), (8, 237, 61), (8, 261, 63), (8, 264, 64), (8, 268, 119), (8, 271, 120), (10, 23, 88), (10, 28, 89), (10, 33, 90), (10, 38, 91), (10, 42, 92), (10, 46, 93), (10, 50, 107), (10, 55, 108), (10, 59, 109), (10, 63, 110), (10, 67, 111), (10, 72, 114), (10, 76, 115)]
set_option maxRecDepth 20000 in
theorem mtT_3_40_ok : ∀ e ∈ mtT_3_40, (fun e => Cond.methodLink (RC e.1) e.2.1 (mtY e.2.2)) e ∈ tables_1_3 := mixT (ps := [70, 96, 48, 116, 119, 127, 135, 136, 192, 196, 200, 208, 221, 233, 237, 52, 76, 84, 88, 104, 108, 112, 123, 131, 188, 204, 225, 229]) (by decide +kernel)
def mtT_4_0 : List (Nat × Nat × Nat) := [(2, 95, 63), (2, 187, 60), (2, 189, 34), (2, 193, 83), (2, 196, 36), (2, 200, 65), (5, 47, 51), (7, 142, 60), (7, 145, 84), (7, 148, 61), (8, 274, 123), (8, 277, 124), (8, 281, 121), (8, 284, 122), (8, 287, 33), (8, 291, 53), (8, 295, 125), (8, 299, 126), (8, 302, 34), (8, 306, 20), (8, 310, 52), (8, 313, 132), (8, 316, 133), (8, 319, 35), (10, 12, 134), (10, 80, 116), (10, 84, 117), (10, 88, 118), (10, 92, 127), (10, 96, 128), (10, 100, 129), (10, 104, 130), (10, 108, 131)]
set_option maxRecDepth 20000 in
theorem mtT_4_0_ok : ∀ e ∈ mtT_4_0, (fun e => Cond.methodLink (RC e.1) e.2.1 (mtY e.2.2)) e ∈ tables_1_4 := mixT (ps := [18, 13, 14, 93, 103, 107, 76, 97, 98, 102, 19, 35, 1, 5, 9, 23, 27, 31, 39, 40, 72, 77, 81, 89, 113, 44, 48, 52, 56, 60, 64, 68, 85]) (by decide +kernel)
def mtT_5_0 : List (Nat × Nat × Nat) := [(9, 157, 135), (9, 161, 137), (9, 168, 145), (9, 172, 142), (9, 178, 148), (9, 181, 147), (9, 184, 143), (9, 188, 144), (9, 192, 149), (9, 195, 150), (9, 199, 151), (9, 202, 153), (9, 205, 155), (9, 208, 156), (9, 215, 146), (9, 218, 152), (9, 221, 154), (9, 224, 160), (9, 234, 163), (9, 238, 164), (9, 242, 141), (9, 246, 161), (9, 250, 165), (9, 254, 167), (9, 258, 168), (9, 261, 162), (9, 264, 138), (9, 267, 169), (9, 271, 166), (9, 274, 136), (9, 277, 140), (9, 280, 171), (9, 284, 139), (9, 287, 173), (9, 291, 180), (9, 294, 179), (9, 297, 177), (9, 303, 185), (9, 306, 187), (10, 17, 170)]
set_option maxRecDepth 20000 in
theorem mtT_5_0_ok : ∀ e ∈ mtT_5_0, (fun e => Cond.methodLink (RC e.1) e.2.1 (mtY e.2.2)) e ∈ tables_1_5 := mixT (ps := [56, 75, 143, 123, 119, 127, 135, 139, 115, 131, 147, 155, 159, 163, 171, 111, 151, 167, 91, 99, 103, 107, 175, 87, 83, 67, 71, 79, 95, 52, 59, 63, 187, 183, 202, 206, 210, 238, 234, 44]) (by decide +kernel)
def mtT_5_40 : List (Nat × Nat × Nat) := [(10, 22, 172), (10, 27, 174), (10, 32, 175), (10, 37, 176), (10, 41, 178), (10, 45, 181), (10, 49, 182), (10, 54, 183), (10, 58, 184), (10, 62, 190)]
set_option maxRecDepth 20000 in
theorem mtT_5_40_ok : ∀ e ∈ mtT_5_40, (fun e => Cond.methodLink (RC e.1) e.2.1 (mtY e.2.2)) e ∈ tables_1_5 := mixT (ps := [48, 179, 190, 194, 198, 214, 218, 222, 226, 230]) (by decide +kernel)
def mtT_6_0 : List (Nat × Nat × Nat) := [(9, 300, 186), (9, 309, 188), (9, 312, 189), (9, 315, 157), (9, 318, 158), (9, 321, 159), (9, 324, 194), (9, 327, 195), (9, 331, 197), (9, 334, 198), (9, 337, 201), (9, 340, 199), (9, 349, 196), (9, 352, 200), (9, 355, 210), (10, 66, 191), (10, 71, 192), (10, 75, 193), (10, 79, 202), (10, 83, 203), (10, 87, 204), (10, 91, 205), (10, 95, 206), (10, 99, 207), (10, 103, 208), (10, 107, 209), (10, 111, 211)]
set_option maxRecDepth 20000 in
theorem mtT_6_0_ok : ∀ e ∈ mtT_6_0, (fun e => Cond.methodLink (RC e.1) e.2.1 (mtY e.2.2)) e ∈ tables_1_6 := mixT (ps := [2, 6, 10, 18, 22, 26, 62, 66, 54, 50, 42, 46, 58, 70, 106, 14, 30, 34, 38, 74, 78, 82, 86, 90, 94, 98, 102]) (by decide +kernel)
def mtT : List (Nat × Nat × Nat) := mtT_1_0 ++ (mtT_2_0 ++ (mtT_2_40 ++ (mtT_3_0 ++ (mtT_3_40 ++ (mtT_4_0 ++ (mtT_5_0 ++ (mtT_5_40 ++ (mtT_6_0))))))))
theorem mtT_ok : ∀ e ∈ mtT, (fun e => Cond.methodLink (RC e.1) e.2.1 (mtY e.2.2)) e ∈ lw_tbl := List.forall_mem_append.mpr ⟨fun e h => hk1 (mtT_1_0_ok e h), List.forall_mem_append.mpr ⟨fun e h => hk2 (mtT_2_0_ok e h), List.forall_mem_append.mpr ⟨fun e h => hk2 (mtT_2_40_ok e h), List.forall_mem_append.mpr ⟨fun e h => hk3 (mtT_3_0_ok e h), List.forall_mem_append.mpr ⟨fun e h => hk3 (mtT_3_40_ok e h), List.forall_mem_append.mpr ⟨fun e h => hk4 (mtT_4_0_ok e h), List.forall_mem_append.mpr ⟨fun e h => hk5 (mtT_5_0_ok e h), List.forall_mem_append.mpr ⟨fun e h => hk5 (mtT_5_40_ok e h), (fun e h => hk6 (mtT_6_0_ok e h))⟩⟩⟩⟩⟩⟩⟩⟩
def ntT_1_0 : List (Nat × Nat × Nat) := [(2, 50, 37), (2, 57, 44), (8, 63, 54), (8, 64, 13)]
set_option maxRecDepth 20000 in
theorem ntT_1_0_ok : ∀ e ∈ ntT_1_0, (fun e => Cond.methodLinkNest (RC e.1) e.2.1 (mtY e.2.2) "IndexedTable") e ∈ tables_1_1 := mixT (ps := [175, 200, 67, 93]) (by decide +kernel)
def ntT : List (Nat × Nat × Nat) := ntT_1_0
theorem ntT_ok : ∀ e ∈ ntT, (fun e => Cond.methodLinkNest (RC e.1) e.2.1 (mtY e.2.2) "IndexedTable") e ∈ lw_tbl := (fun e h => hk1 (ntT_1_0_ok e h))
def nwT_1_0 : List (Nat × Nat × Nat) := [(2, 41, 7), (2, 48, 3), (2, 55, 4), (2, 62, 0), (3, 9, 0), (4, 9, 0), (5, 9, 1), (6, 26, 1), (7, 11, 0), (8, 9, 5), (8, 19, 6), (8, 25, 2), (8, 31, 1), (10, 7, 8)]
set_option maxRecDepth 20000 in
theorem nwT_1_0_ok : ∀ e ∈ nwT_1_0, (fun e => Cond.classLink (RC e.1) e.2.1 (RC e.2.2)) e ∈ tables_1_1 := mixT (ps := [97, 173, 198, 220, 179, 204, 28, 71, 103, 22, 60, 62, 64, 14]) (by decide +kernel)
def nwT_4_0 : List (Nat × Nat × Nat) := [(10, 10, 9)]
set_option maxRecDepth 20000 in
theorem nwT_4_0_ok : ∀ e ∈ nwT_4_0, (fun e => Cond.classLink (RC e.1) e.2.1 (RC e.2.2)) e ∈ tables_1_4 := mixT (ps := [111]) (by decide +kernel)
def nwT : List (Nat × Nat × Nat) := nwT_1_0 ++ (nwT_4_0)
theorem nwT_ok : ∀ e ∈ nwT, (fun e => Cond.classLink (RC e.1) e.2.1 (RC e.2.2)) e ∈ lw_tbl := List.forall_mem_append.mpr ⟨fun e h => hk1 (nwT_1_0_ok e h), (fun e h => hk4 (nwT_4_0_ok e h))⟩
def cnT_2_0 : List (Nat × Nat × Int32) := [(8, 65, (-2147483648)), (8, 72, 2147483647)]
set_option maxRecDepth 20000 in
theorem cnT_2_0_ok : ∀ e ∈ cnT_2_0, (fun e => Cond.constant (RC e.1) e.2.1 e.2.2) e ∈ tables_1_2 := mixT (ps := [33, 35]) (by decide +kernel)
def cnT_4_0 : List (Nat × Nat × Int32) := [(9, 156, (-2147483648))]
set_option maxRecDepth 20000 in
theorem cnT_4_0_ok : ∀ e ∈ cnT_4_0, (fun e => Cond.constant (RC e.1) e.2.1 e.2.2) e ∈ tables_1_4 := mixT (ps := [117]) (by decide +kernel)
def cnT : List (Nat × Nat × Int32) := cnT_2_0 ++ (cnT_4_0)
theorem cnT_ok : ∀ e ∈ cnT, (fun e => Cond.constant (RC e.1) e.2.1 e.2.2) e ∈ lw_tbl := List.forall_mem_append.mpr ⟨fun e h => hk2 (cnT_2_0_ok e h), (fun e h => hk4 (cnT_4_0_ok e h))⟩
def acT_2_0 : List (Nat × Nat) := [(0, 15), (1, 15), (5, 37), (7, 118)]
set_option maxRecDepth 20000 in
theorem acT_2_0_ok : ∀ e ∈ acT_2_0, (fun e => Cond.methodLink (RC e.1) e.2 arraycopyName) e ∈ tables_1_2 := mixT (ps := [207, 128, 131, 212]) (by decide +kernel)
def acT_3_0 : List (Nat × Nat) := [(4, 39)]
set_option maxRecDepth 20000 in
theorem acT_3_0_ok : ∀ e ∈ acT_3_0, (fun e => Cond.methodLink (RC e.1) e.2 arraycopyName) e ∈ tables_1_3 := mixT (ps := [154]) (by decide +kernel)
def acT : List (Nat × Nat) := acT_2_0 ++ (acT_3_0)
theorem acT_ok : ∀ e ∈ acT, (fun e => Cond.methodLink (RC e.1) e.2 arraycopyName) e ∈ lw_tbl := List.forall_mem_append.mpr ⟨fun e h => hk2 (acT_2_0_ok e h), (fun e h => hk3 (acT_3_0_ok e h))⟩
def mnT_2_0 : List (Nat × Nat) := [(1, 21)]
set_option maxRecDepth 20000 in
theorem mnT_2_0_ok : ∀ e ∈ mnT_2_0, (fun e => Cond.methodLink (RC e.1) e.2 Lib.Math.min.name) e ∈ tables_1_2 := mixT (ps := [125]) (by decide +kernel)
def mnT : List (Nat × Nat) := mnT_2_0
theorem mnT_ok : ∀ e ∈ mnT, (fun e => Cond.methodLink (RC e.1) e.2 Lib.Math.min.name) e ∈ lw_tbl := (fun e h => hk2 (mnT_2_0_ok e h))
def oiT_1_0 : List (Nat × Nat) := [(0, 3), (1, 3), (2, 3), (3, 3), (4, 3), (5, 3), (6, 3), (7, 5), (8, 3)]
set_option maxRecDepth 20000 in
theorem oiT_1_0_ok : ∀ e ∈ oiT_1_0, (fun e => Cond.methodLink (RC e.1) e.2 objectInit) e ∈ tables_1_1 := mixT (ps := [108, 33, 96, 178, 203, 27, 70, 102, 19]) (by decide +kernel)
def oiT_4_0 : List (Nat × Nat) := [(9, 1)]
set_option maxRecDepth 20000 in
theorem oiT_4_0_ok : ∀ e ∈ oiT_4_0, (fun e => Cond.methodLink (RC e.1) e.2 objectInit) e ∈ tables_1_4 := mixT (ps := [116]) (by decide +kernel)
def oiT : List (Nat × Nat) := oiT_1_0 ++ (oiT_4_0)
theorem oiT_ok : ∀ e ∈ oiT, (fun e => Cond.methodLink (RC e.1) e.2 objectInit) e ∈ lw_tbl := List.forall_mem_append.mpr ⟨fun e h => hk1 (oiT_1_0_ok e h), (fun e h => hk4 (oiT_4_0_ok e h))⟩
/-- what the words say of a method -/
def MW (q : MT) : Prop := Cond.code q.1 q.2.1 q.2.2.1 q.2.2.2.1 ∈ lw_tbl ∧ Cond.initialized q.1.cls ∈ lw_tbl ∧ (q.2.2.2.2.2.2.2.2 = 0 → Cond.static q.1 ∈ lw_tbl) ∧ (0 < q.2.2.2.2.2.2.2.2 → Cond.instanceMethod q.1 ∈ lw_tbl) ∧ (q.2.2.2.2.2.2.2.2 = 1 → Cond.selects q.1.cls q.1 q.1 ∈ lw_tbl) ∧ (q.2.2.2.2.2.2.2.2 = 2 → q.1.name = "<init>" ∧ q.2.2.2.1 = none)
def MX (q : MT) : Bool := decide (q.1.cls = RC q.2.2.2.2.1) && plainName q.1.cls && decide (q.1.cls ≠ "java/lang/invoke/MethodHandle") && decide (q.1.cls ≠ "java/lang/invoke/VarHandle") && decide ((parseMethodDescriptor q.1.desc).map (fun d => d.parameters.length) = some (if q.2.2.2.2.2.2.2.2 = 0 then q.2.2.2.2.2.1 else q.2.2.2.2.2.1 - 1))
theorem mwX0_init : MW (yX0_init, cX0_init, 2, none, 0, 2, 1, 12, 2) := ⟨hk1 (List.mem_of_getElem? (i := 107) rfl), hk1 (List.mem_of_getElem? (i := 8) rfl), fun h => absurd h (by decide), fun _ => hk1 (List.mem_of_getElem? (i := 106) rfl), fun h => absurd h (by decide), fun _ => ⟨rfl, rfl⟩⟩
theorem mwX0_word : MW (yX0_word, cX0_word, 3, (some .int), 0, 3, 0, 0, 1) := ⟨hk3 (List.mem_of_getElem? (i := 20) rfl), hk1 (List.mem_of_getElem? (i := 8) rfl), fun h => absurd h (by decide), fun _ => hk3 (List.mem_of_getElem? (i := 18) rfl), fun _ => hk3 (List.mem_of_getElem? (i := 19) rfl), fun h => absurd h (by decide)⟩
theorem mwX0_set : MW (yX0_set, cX0_set, 4, none, 0, 4, 0, 0, 1) := ⟨hk2 (List.mem_of_getElem? (i := 182) rfl), hk1 (List.mem_of_getElem? (i := 8) rfl), fun h => absurd h (by decide), fun _ => hk2 (List.mem_of_getElem? (i := 180) rfl), fun _ => hk2 (List.mem_of_getElem? (i := 181) rfl), fun h => absurd h (by decide)⟩
theorem mwX0_copy : MW (yX0_copy, cX0_copy, 4, none, 0, 4, 1, 18, 1) := ⟨hk2 (List.mem_of_getElem? (i := 206) rfl), hk1 (List.mem_of_getElem? (i := 8) rfl), fun h => absurd h (by decide), fun _ => hk2 (List.mem_of_getElem? (i := 204) rfl), fun _ => hk2 (List.mem_of_getElem? (i := 205) rfl), fun h => absurd h (by decide)⟩
theorem mwX0_compare : MW (yX0_compare, cX0_compare, 7, (some .int), 0, 4, 0, 0, 1) := ⟨hk2 (List.mem_of_getElem? (i := 198) rfl), hk1 (List.mem_of_getElem? (i := 8) rfl), fun h => absurd h (by decide), fun _ => hk2 (List.mem_of_getElem? (i := 196) rfl), fun _ => hk2 (List.mem_of_getElem? (i := 197) rfl), fun h => absurd h (by decide)⟩
theorem mwX1_init : MW (yX1_init, cX1_init, 2, none, 1, 2, 1, 12, 2) := ⟨hk1 (List.mem_of_getElem? (i := 32) rfl), hk1 (List.mem_of_getElem? (i := 3) rfl), fun h => absurd h (by decide), fun _ => hk1 (List.mem_of_getElem? (i := 31) rfl), fun h => absurd h (by decide), fun _ => ⟨rfl, rfl⟩⟩
theorem mwX1_has : MW (yX1_has, cX1_has, 2, (some .boolean), 1, 2, 0, 0, 1) := ⟨hk2 (List.mem_of_getElem? (i := 96) rfl), hk1 (List.mem_of_getElem? (i := 3) rfl), fun h => absurd h (by decide), fun _ => hk2 (List.mem_of_getElem? (i := 94) rfl), fun _ => hk2 (List.mem_of_getElem? (i := 95) rfl), fun h => absurd h (by decide)⟩
theorem mwX1_valueOf : MW (yX1_valueOf, cX1_valueOf, 3, (some .int), 1, 3, 0, 0, 1) := ⟨hk2 (List.mem_of_getElem? (i := 156) rfl), hk1 (List.mem_of_getElem? (i := 3) rfl), fun h => absurd h (by decide), fun _ => hk2 (List.mem_of_getElem? (i := 154) rfl), fun _ => hk2 (List.mem_of_getElem? (i := 155) rfl), fun h => absurd h (by decide)⟩
theorem mwX1_set : MW (yX1_set, cX1_set, 4, none, 1, 4, 0, 0, 1) := ⟨hk3 (List.mem_of_getElem? (i := 75) rfl), hk1 (List.mem_of_getElem? (i := 3) rfl), fun h => absurd h (by decide), fun _ => hk3 (List.mem_of_getElem? (i := 73) rfl), fun _ => hk3 (List.mem_of_getElem? (i := 74) rfl), fun h => absurd h (by decide)⟩
theorem mwX1_put : MW (yX1_put, cX1_put, 7, none, 1, 6, 0, 0, 1) := ⟨hk2 (List.mem_of_getElem? (i := 104) rfl), hk1 (List.mem_of_getElem? (i := 3) rfl), fun h => absurd h (by decide), fun _ => hk2 (List.mem_of_getElem? (i := 102) rfl), fun _ => hk2 (List.mem_of_getElem? (i := 103) rfl), fun h => absurd h (by decide)⟩
theorem mwX1_clear : MW (yX1_clear, cX1_clear, 2, none, 1, 2, 0, 0, 1) := ⟨hk3 (List.mem_of_getElem? (i := 83) rfl), hk1 (List.mem_of_getElem? (i := 3) rfl), fun h => absurd h (by decide), fun _ => hk3 (List.mem_of_getElem? (i := 81) rfl), fun _ => hk3 (List.mem_of_getElem? (i := 82) rfl), fun h => absurd h (by decide)⟩
theorem mwX1_copy : MW (yX1_copy, cX1_copy, 4, none, 1, 4, 1, 18, 1) := ⟨hk2 (List.mem_of_getElem? (i := 135) rfl), hk1 (List.mem_of_getElem? (i := 3) rfl), fun h => absurd h (by decide), fun _ => hk2 (List.mem_of_getElem? (i := 133) rfl), fun _ => hk2 (List.mem_of_getElem? (i := 134) rfl), fun h => absurd h (by decide)⟩
theorem mwX1_copyAll : MW (yX1_copyAll, cX1_copyAll, 2, none, 1, 2, 1, 18, 1) := ⟨hk2 (List.mem_of_getElem? (i := 124) rfl), hk1 (List.mem_of_getElem? (i := 3) rfl), fun h => absurd h (by decide), fun _ => hk2 (List.mem_of_getElem? (i := 122) rfl), fun _ => hk2 (List.mem_of_getElem? (i := 123) rfl), fun h => absurd h (by decide)⟩
theorem mwX2_init : MW (yX2_init, cX2_init, 1, none, 2, 1, 3, 63, 2) := ⟨hk1 (List.mem_of_getElem? (i := 95) rfl), hk1 (List.mem_of_getElem? (i := 6) rfl), fun h => absurd h (by decide), fun _ => hk1 (List.mem_of_getElem? (i := 94) rfl), fun h => absurd h (by decide), fun _ => ⟨rfl, rfl⟩⟩
theorem mwX2_start : MW (yX2_start, cX2_start, 5, none, 2, 5, 3, 63, 1) := ⟨hk3 (List.mem_of_getElem? (i := 122) rfl), hk1 (List.mem_of_getElem? (i := 6) rfl), fun h => absurd h (by decide), fun _ => hk3 (List.mem_of_getElem? (i := 120) rfl), fun _ => hk3 (List.mem_of_getElem? (i := 121) rfl), fun h => absurd h (by decide)⟩
theorem mwX2_forgetEntries : MW (yX2_forgetEntries, cX2_forgetEntries, 1, none, 2, 1, 2, 43, 1) := ⟨hk3 (List.mem_of_getElem? (i := 32) rfl), hk1 (List.mem_of_getElem? (i := 6) rfl), fun h => absurd h (by decide), fun _ => hk3 (List.mem_of_getElem? (i := 31) rfl), fun _ => @hps (_, 13) (List.mem_append_right _ (List.mem_append_left _ (List.mem_of_getElem? (i := 8) rfl))), fun h => absurd h (by decide)⟩
theorem mwX2_isBuilding : MW (yX2_isBuilding, cX2_isBuilding, 1, (some .boolean), 2, 1, 0, 0, 1) := ⟨hk3 (List.mem_of_getElem? (i := 16) rfl), hk1 (List.mem_of_getElem? (i := 6) rfl), fun h => absurd h (by decide), fun _ => hk3 (List.mem_of_getElem? (i := 14) rfl), fun _ => hk3 (List.mem_of_getElem? (i := 15) rfl), fun h => absurd h (by decide)⟩
theorem mwX2_isGuard : MW (yX2_isGuard, cX2_isGuard, 1, (some .boolean), 2, 1, 0, 0, 1) := ⟨hk2 (List.mem_of_getElem? (i := 116) rfl), hk1 (List.mem_of_getElem? (i := 6) rfl), fun h => absurd h (by decide), fun _ => hk2 (List.mem_of_getElem? (i := 114) rfl), fun _ => hk2 (List.mem_of_getElem? (i := 115) rfl), fun h => absurd h (by decide)⟩
theorem mwX2_haveOneKey : MW (yX2_haveOneKey, cX2_haveOneKey, 6, (some .boolean), 2, 5, 1, 22, 1) := ⟨hk2 (List.mem_of_getElem? (i := 152) rfl), hk1 (List.mem_of_getElem? (i := 6) rfl), fun h => absurd h (by decide), fun _ => hk2 (List.mem_of_getElem? (i := 151) rfl), fun _ => @hps (_, 13) (List.mem_append_left _ (List.mem_of_getElem? (i := 7) rfl)), fun h => absurd h (by decide)⟩
theorem mwX2_makeEntry : MW (yX2_makeEntry, cX2_makeEntry, 5, none, 2, 4, 1, 23, 1) := ⟨hk2 (List.mem_of_getElem? (i := 178) rfl), hk1 (List.mem_of_getElem? (i := 6) rfl), fun h => absurd h (by decide), fun _ => hk2 (List.mem_of_getElem? (i := 177) rfl), fun _ => @hps (_, 13) (List.mem_append_left _ (List.mem_of_getElem? (i := 10) rfl)), fun h => absurd h (by decide)⟩
theorem mwX2_hasKeyOf : MW (yX2_hasKeyOf, cX2_hasKeyOf, 5, (some .boolean), 2, 3, 3, 68, 1) := ⟨hk4 (List.mem_of_getElem? (i := 43) rfl), hk1 (List.mem_of_getElem? (i := 6) rfl), fun h => absurd h (by decide), fun _ => hk4 (List.mem_of_getElem? (i := 41) rfl), fun _ => hk4 (List.mem_of_getElem? (i := 42) rfl), fun h => absurd h (by decide)⟩
theorem mwX2_makeComing : MW (yX2_makeComing, cX2_makeComing, 5, (some .boolean), 2, 4, 2, 47, 1) := ⟨hk2 (List.mem_of_getElem? (i := 174) rfl), hk1 (List.mem_of_getElem? (i := 6) rfl), fun h => absurd h (by decide), fun _ => hk2 (List.mem_of_getElem? (i := 172) rfl), fun _ => hk2 (List.mem_of_getElem? (i := 173) rfl), fun h => absurd h (by decide)⟩
theorem mwX2_makeGoing : MW (yX2_makeGoing, cX2_makeGoing, 4, (some .boolean), 2, 4, 2, 47, 1) := ⟨hk3 (List.mem_of_getElem? (i := 51) rfl), hk1 (List.mem_of_getElem? (i := 6) rfl), fun h => absurd h (by decide), fun _ => hk3 (List.mem_of_getElem? (i := 49) rfl), fun _ => hk3 (List.mem_of_getElem? (i := 50) rfl), fun h => absurd h (by decide)⟩
theorem mwX2_takeMade : MW (yX2_takeMade, cX2_takeMade, 2, none, 2, 2, 4, 96, 1) := ⟨hk2 (List.mem_of_getElem? (i := 186) rfl), hk1 (List.mem_of_getElem? (i := 6) rfl), fun h => absurd h (by decide), fun _ => hk2 (List.mem_of_getElem? (i := 184) rfl), fun _ => hk2 (List.mem_of_getElem? (i := 185) rfl), fun h => absurd h (by decide)⟩
theorem mwX2_fail : MW (yX2_fail, cX2_fail, 2, none, 2, 2, 3, 63, 1) := ⟨hk3 (List.mem_of_getElem? (i := 28) rfl), hk1 (List.mem_of_getElem? (i := 6) rfl), fun h => absurd h (by decide), fun _ => hk3 (List.mem_of_getElem? (i := 27) rfl), fun _ => @hps (_, 13) (List.mem_append_right _ (List.mem_append_left _ (List.mem_of_getElem? (i := 7) rfl))), fun h => absurd h (by decide)⟩
theorem mwX2_takeStep : MW (yX2_takeStep, cX2_takeStep, 2, none, 2, 2, 6, 137, 1) := ⟨hk3 (List.mem_of_getElem? (i := 139) rfl), hk1 (List.mem_of_getElem? (i := 6) rfl), fun h => absurd h (by decide), fun _ => hk3 (List.mem_of_getElem? (i := 137) rfl), fun _ => hk3 (List.mem_of_getElem? (i := 138) rfl), fun h => absurd h (by decide)⟩
theorem mwX2_scanPage : MW (yX2_scanPage, cX2_scanPage, 4, none, 2, 2, 3, 74, 1) := ⟨hk3 (List.mem_of_getElem? (i := 143) rfl), hk1 (List.mem_of_getElem? (i := 6) rfl), fun h => absurd h (by decide), fun _ => hk3 (List.mem_of_getElem? (i := 142) rfl), fun _ => @hps (_, 13) (List.mem_append_right _ (List.mem_append_left _ (List.mem_of_getElem? (i := 14) rfl))), fun h => absurd h (by decide)⟩
theorem mwX2_loadSome : MW (yX2_loadSome, cX2_loadSome, 3, none, 2, 1, 4, 92, 1) := ⟨hk3 (List.mem_of_getElem? (i := 158) rfl), hk1 (List.mem_of_getElem? (i := 6) rfl), fun h => absurd h (by decide), fun _ => hk3 (List.mem_of_getElem? (i := 157) rfl), fun _ => @hps (_, 13) (List.mem_append_right _ (List.mem_append_right _ (List.mem_append_left _ (List.mem_of_getElem? (i := 0) rfl)))), fun h => absurd h (by decide)⟩
theorem mwX2_catchUp : MW (yX2_catchUp, cX2_catchUp, 1, none, 2, 1, 4, 96, 1) := ⟨hk3 (List.mem_of_getElem? (i := 166) rfl), hk1 (List.mem_of_getElem? (i := 6) rfl), fun h => absurd h (by decide), fun _ => hk3 (List.mem_of_getElem? (i := 165) rfl), fun _ => @hps (_, 13) (List.mem_append_right _ (List.mem_append_right _ (List.mem_append_left _ (List.mem_of_getElem? (i := 1) rfl)))), fun h => absurd h (by decide)⟩
theorem mwX2_finish : MW (yX2_finish, cX2_finish, 3, none, 2, 2, 5, 115, 1) := ⟨hk3 (List.mem_of_getElem? (i := 182) rfl), hk1 (List.mem_of_getElem? (i := 6) rfl), fun h => absurd h (by decide), fun _ => hk3 (List.mem_of_getElem? (i := 181) rfl), fun _ => @hps (_, 13) (List.mem_append_right _ (List.mem_append_right _ (List.mem_append_left _ (List.mem_of_getElem? (i := 2) rfl)))), fun h => absurd h (by decide)⟩
theorem mwX2_leastWithClash : MW (yX2_leastWithClash, cX2_leastWithClash, 3, (some .int), 2, 2, 4, 93, 1) := ⟨hk3 (List.mem_of_getElem? (i := 186) rfl), hk1 (List.mem_of_getElem? (i := 6) rfl), fun h => absurd h (by decide), fun _ => hk3 (List.mem_of_getElem? (i := 185) rfl), fun _ => @hps (_, 13) (List.mem_append_right _ (List.mem_append_right _ (List.mem_append_left _ (List.mem_of_getElem? (i := 3) rfl)))), fun h => absurd h (by decide)⟩
theorem mwX2_leastClashWith : MW (yX2_leastClashWith, cX2_leastClashWith, 4, (some .int), 2, 3, 3, 70, 1) := ⟨hk2 (List.mem_of_getElem? (i := 143) rfl), hk1 (List.mem_of_getElem? (i := 6) rfl), fun h => absurd h (by decide), fun _ => hk2 (List.mem_of_getElem? (i := 141) rfl), fun _ => hk2 (List.mem_of_getElem? (i := 142) rfl), fun h => absurd h (by decide)⟩
theorem mwX2_isClash : MW (yX2_isClash, cX2_isClash, 4, (some .boolean), 2, 4, 2, 47, 1) := ⟨hk2 (List.mem_of_getElem? (i := 148) rfl), hk1 (List.mem_of_getElem? (i := 6) rfl), fun h => absurd h (by decide), fun _ => hk2 (List.mem_of_getElem? (i := 147) rfl), fun _ => @hps (_, 13) (List.mem_append_left _ (List.mem_of_getElem? (i := 6) rfl)), fun h => absurd h (by decide)⟩
theorem mwX2_rangeSize : MW (yX2_rangeSize, cX2_rangeSize, 5, (some .int), 2, 3, 4, 95, 1) := ⟨hk4 (List.mem_of_getElem? (i := 12) rfl), hk1 (List.mem_of_getElem? (i := 6) rfl), fun h => absurd h (by decide), fun _ => hk4 (List.mem_of_getElem? (i := 10) rfl), fun _ => hk4 (List.mem_of_getElem? (i := 11) rfl), fun h => absurd h (by decide)⟩
theorem mwX2_isInRange : MW (yX2_isInRange, cX2_isInRange, 8, (some .boolean), 2, 4, 3, 68, 1) := ⟨hk4 (List.mem_of_getElem? (i := 17) rfl), hk1 (List.mem_of_getElem? (i := 6) rfl), fun h => absurd h (by decide), fun _ => hk4 (List.mem_of_getElem? (i := 15) rfl), fun _ => hk4 (List.mem_of_getElem? (i := 16) rfl), fun h => absurd h (by decide)⟩
theorem mwX2_faults : MW (yX2_faults, cX2_faults, 5, (some .int), 2, 2, 5, 115, 1) := ⟨hk4 (List.mem_of_getElem? (i := 92) rfl), hk1 (List.mem_of_getElem? (i := 6) rfl), fun h => absurd h (by decide), fun _ => hk4 (List.mem_of_getElem? (i := 90) rfl), fun _ => hk4 (List.mem_of_getElem? (i := 91) rfl), fun h => absurd h (by decide)⟩
theorem mwX2_missing : MW (yX2_missing, cX2_missing, 3, (some .int), 2, 3, 3, 74, 1) := ⟨hk4 (List.mem_of_getElem? (i := 106) rfl), hk1 (List.mem_of_getElem? (i := 6) rfl), fun h => absurd h (by decide), fun _ => hk4 (List.mem_of_getElem? (i := 105) rfl), fun _ => @hps (_, 13) (List.mem_append_right _ (List.mem_append_right _ (List.mem_append_right _ (List.mem_append_left _ (List.mem_of_getElem? (i := 1) rfl))))), fun h => absurd h (by decide)⟩
theorem mwX3_init : MW (yX3_init, cX3_init, 1, none, 3, 1, 2, 33, 2) := ⟨hk1 (List.mem_of_getElem? (i := 177) rfl), hk1 (List.mem_of_getElem? (i := 9) rfl), fun h => absurd h (by decide), fun _ => hk1 (List.mem_of_getElem? (i := 176) rfl), fun h => absurd h (by decide), fun _ => ⟨rfl, rfl⟩⟩
theorem mwX3_clear : MW (yX3_clear, cX3_clear, 1, none, 3, 1, 0, 0, 1) := ⟨hk3 (List.mem_of_getElem? (i := 37) rfl), hk1 (List.mem_of_getElem? (i := 9) rfl), fun h => absurd h (by decide), fun _ => hk3 (List.mem_of_getElem? (i := 35) rfl), fun _ => hk3 (List.mem_of_getElem? (i := 36) rfl), fun h => absurd h (by decide)⟩
theorem mwX3_isFull : MW (yX3_isFull, cX3_isFull, 1, (some .boolean), 3, 1, 0, 0, 1) := ⟨hk3 (List.mem_of_getElem? (i := 24) rfl), hk1 (List.mem_of_getElem? (i := 9) rfl), fun h => absurd h (by decide), fun _ => hk3 (List.mem_of_getElem? (i := 22) rfl), fun _ => hk3 (List.mem_of_getElem? (i := 23) rfl), fun h => absurd h (by decide)⟩
theorem mwX3_add : MW (yX3_add, cX3_add, 5, none, 3, 4, 2, 41, 1) := ⟨hk3 (List.mem_of_getElem? (i := 45) rfl), hk1 (List.mem_of_getElem? (i := 9) rfl), fun h => absurd h (by decide), fun _ => hk3 (List.mem_of_getElem? (i := 43) rfl), fun _ => hk3 (List.mem_of_getElem? (i := 44) rfl), fun h => absurd h (by decide)⟩
theorem mwX3_firstSlot : MW (yX3_firstSlot, cX3_firstSlot, 1, (some .int), 3, 1, 0, 0, 1) := ⟨hk3 (List.mem_of_getElem? (i := 174) rfl), hk1 (List.mem_of_getElem? (i := 9) rfl), fun h => absurd h (by decide), fun _ => hk3 (List.mem_of_getElem? (i := 172) rfl), fun _ => hk3 (List.mem_of_getElem? (i := 173) rfl), fun h => absurd h (by decide)⟩
theorem mwX3_firstCame : MW (yX3_firstCame, cX3_firstCame, 1, (some .boolean), 3, 1, 0, 0, 1) := ⟨hk3 (List.mem_of_getElem? (i := 170) rfl), hk1 (List.mem_of_getElem? (i := 9) rfl), fun h => absurd h (by decide), fun _ => hk3 (List.mem_of_getElem? (i := 168) rfl), fun _ => hk3 (List.mem_of_getElem? (i := 169) rfl), fun h => absurd h (by decide)⟩
theorem mwX3_takeFirst : MW (yX3_takeFirst, cX3_takeFirst, 1, none, 3, 1, 0, 0, 1) := ⟨hk3 (List.mem_of_getElem? (i := 178) rfl), hk1 (List.mem_of_getElem? (i := 9) rfl), fun h => absurd h (by decide), fun _ => hk3 (List.mem_of_getElem? (i := 176) rfl), fun _ => hk3 (List.mem_of_getElem? (i := 177) rfl), fun h => absurd h (by decide)⟩
theorem mwX4_init : MW (yX4_init, cX4_init, 1, none, 4, 1, 2, 33, 2) := ⟨hk1 (List.mem_of_getElem? (i := 202) rfl), hk1 (List.mem_of_getElem? (i := 10) rfl), fun h => absurd h (by decide), fun _ => hk1 (List.mem_of_getElem? (i := 201) rfl), fun h => absurd h (by decide), fun _ => ⟨rfl, rfl⟩⟩
theorem mwX4_clear : MW (yX4_clear, cX4_clear, 1, none, 4, 1, 0, 0, 1) := ⟨hk3 (List.mem_of_getElem? (i := 41) rfl), hk1 (List.mem_of_getElem? (i := 10) rfl), fun h => absurd h (by decide), fun _ => hk3 (List.mem_of_getElem? (i := 39) rfl), fun _ => hk3 (List.mem_of_getElem? (i := 40) rfl), fun h => absurd h (by decide)⟩
theorem mwX4_add : MW (yX4_add, cX4_add, 4, none, 4, 3, 2, 51, 1) := ⟨hk3 (List.mem_of_getElem? (i := 147) rfl), hk1 (List.mem_of_getElem? (i := 10) rfl), fun h => absurd h (by decide), fun _ => hk3 (List.mem_of_getElem? (i := 145) rfl), fun _ => hk3 (List.mem_of_getElem? (i := 146) rfl), fun h => absurd h (by decide)⟩
theorem mwX4_slotOf : MW (yX4_slotOf, cX4_slotOf, 6, (some .int), 4, 2, 1, 26, 1) := ⟨hk3 (List.mem_of_getElem? (i := 152) rfl), hk1 (List.mem_of_getElem? (i := 10) rfl), fun h => absurd h (by decide), fun _ => hk3 (List.mem_of_getElem? (i := 151) rfl), fun _ => @hps (_, 4) (List.mem_append_right _ (List.mem_append_left _ (List.mem_of_getElem? (i := 15) rfl))), fun h => absurd h (by decide)⟩
theorem mwX4_take : MW (yX4_take, cX4_take, 2, (some .int), 4, 1, 0, 0, 1) := ⟨hk3 (List.mem_of_getElem? (i := 162) rfl), hk1 (List.mem_of_getElem? (i := 10) rfl), fun h => absurd h (by decide), fun _ => hk3 (List.mem_of_getElem? (i := 160) rfl), fun _ => hk3 (List.mem_of_getElem? (i := 161) rfl), fun h => absurd h (by decide)⟩
theorem mwX5_init : MW (yX5_init, cX5_init, 1, none, 5, 1, 2, 33, 2) := ⟨hk1 (List.mem_of_getElem? (i := 26) rfl), hk1 (List.mem_of_getElem? (i := 2) rfl), fun h => absurd h (by decide), fun _ => hk1 (List.mem_of_getElem? (i := 25) rfl), fun h => absurd h (by decide), fun _ => ⟨rfl, rfl⟩⟩
theorem mwX5_copyFrom : MW (yX5_copyFrom, cX5_copyFrom, 2, none, 5, 2, 2, 39, 1) := ⟨hk2 (List.mem_of_getElem? (i := 120) rfl), hk1 (List.mem_of_getElem? (i := 2) rfl), fun h => absurd h (by decide), fun _ => hk2 (List.mem_of_getElem? (i := 118) rfl), fun _ => hk2 (List.mem_of_getElem? (i := 119) rfl), fun h => absurd h (by decide)⟩
theorem mwX5_isFree : MW (yX5_isFree, cX5_isFree, 2, (some .boolean), 5, 2, 1, 21, 1) := ⟨hk2 (List.mem_of_getElem? (i := 92) rfl), hk1 (List.mem_of_getElem? (i := 2) rfl), fun h => absurd h (by decide), fun _ => hk2 (List.mem_of_getElem? (i := 90) rfl), fun _ => hk2 (List.mem_of_getElem? (i := 91) rfl), fun h => absurd h (by decide)⟩
theorem mwX5_placesInUse : MW (yX5_placesInUse, cX5_placesInUse, 3, (some .int), 5, 1, 2, 42, 1) := ⟨hk4 (List.mem_of_getElem? (i := 75) rfl), hk1 (List.mem_of_getElem? (i := 2) rfl), fun h => absurd h (by decide), fun _ => hk4 (List.mem_of_getElem? (i := 73) rfl), fun _ => hk4 (List.mem_of_getElem? (i := 74) rfl), fun h => absurd h (by decide)⟩
theorem mwX5_seenBy : MW (yX5_seenBy, cX5_seenBy, 3, (some (.object "IndexedTable$Images")), 5, 3, 0, 0, 1) := ⟨hk4 (List.mem_of_getElem? (i := 26) rfl), hk1 (List.mem_of_getElem? (i := 2) rfl), fun h => absurd h (by decide), fun _ => hk4 (List.mem_of_getElem? (i := 24) rfl), fun _ => hk4 (List.mem_of_getElem? (i := 25) rfl), fun h => absurd h (by decide)⟩
theorem mwX6_init : MW (yX6_init, cX6_init, 1, none, 6, 1, 2, 33, 2) := ⟨hk1 (List.mem_of_getElem? (i := 69) rfl), hk1 (List.mem_of_getElem? (i := 5) rfl), fun h => absurd h (by decide), fun _ => hk1 (List.mem_of_getElem? (i := 68) rfl), fun h => absurd h (by decide), fun _ => ⟨rfl, rfl⟩⟩
theorem mwX6_isFull : MW (yX6_isFull, cX6_isFull, 1, (some .boolean), 6, 1, 0, 0, 1) := ⟨hk2 (List.mem_of_getElem? (i := 100) rfl), hk1 (List.mem_of_getElem? (i := 5) rfl), fun h => absurd h (by decide), fun _ => hk2 (List.mem_of_getElem? (i := 98) rfl), fun _ => hk2 (List.mem_of_getElem? (i := 99) rfl), fun h => absurd h (by decide)⟩
theorem mwX6_add : MW (yX6_add, cX6_add, 3, none, 6, 3, 2, 41, 1) := ⟨hk2 (List.mem_of_getElem? (i := 164) rfl), hk1 (List.mem_of_getElem? (i := 5) rfl), fun h => absurd h (by decide), fun _ => hk2 (List.mem_of_getElem? (i := 162) rfl), fun _ => hk2 (List.mem_of_getElem? (i := 163) rfl), fun h => absurd h (by decide)⟩
theorem mwX6_putBack : MW (yX6_putBack, cX6_putBack, 4, none, 6, 3, 2, 41, 1) := ⟨hk3 (List.mem_of_getElem? (i := 99) rfl), hk1 (List.mem_of_getElem? (i := 5) rfl), fun h => absurd h (by decide), fun _ => hk3 (List.mem_of_getElem? (i := 97) rfl), fun _ => hk3 (List.mem_of_getElem? (i := 98) rfl), fun h => absurd h (by decide)⟩
theorem mwX7_init : MW (yX7_init, cX7_init, 1, none, 7, 1, 2, 43, 2) := ⟨hk1 (List.mem_of_getElem? (i := 101) rfl), hk1 (List.mem_of_getElem? (i := 7) rfl), fun h => absurd h (by decide), fun _ => hk1 (List.mem_of_getElem? (i := 100) rfl), fun h => absurd h (by decide), fun _ => ⟨rfl, rfl⟩⟩
theorem mwX7_empty : MW (yX7_empty, cX7_empty, 2, none, 7, 1, 1, 22, 1) := ⟨hk1 (List.mem_of_getElem? (i := 116) rfl), hk1 (List.mem_of_getElem? (i := 7) rfl), fun h => absurd h (by decide), fun _ => hk1 (List.mem_of_getElem? (i := 114) rfl), fun _ => hk1 (List.mem_of_getElem? (i := 115) rfl), fun h => absurd h (by decide)⟩
theorem mwX7_size : MW (yX7_size, cX7_size, 1, (some .int), 7, 1, 0, 0, 1) := ⟨hk3 (List.mem_of_getElem? (i := 195) rfl), hk1 (List.mem_of_getElem? (i := 7) rfl), fun h => absurd h (by decide), fun _ => hk3 (List.mem_of_getElem? (i := 193) rfl), fun _ => hk3 (List.mem_of_getElem? (i := 194) rfl), fun h => absurd h (by decide)⟩
theorem mwX7_nodes : MW (yX7_nodes, cX7_nodes, 1, (some .int), 7, 1, 0, 0, 1) := ⟨hk3 (List.mem_of_getElem? (i := 203) rfl), hk1 (List.mem_of_getElem? (i := 7) rfl), fun h => absurd h (by decide), fun _ => hk3 (List.mem_of_getElem? (i := 201) rfl), fun _ => hk3 (List.mem_of_getElem? (i := 202) rfl), fun h => absurd h (by decide)⟩
theorem mwX7_height : MW (yX7_height, cX7_height, 3, (some .int), 7, 1, 1, 21, 1) := ⟨hk3 (List.mem_of_getElem? (i := 199) rfl), hk1 (List.mem_of_getElem? (i := 7) rfl), fun h => absurd h (by decide), fun _ => hk3 (List.mem_of_getElem? (i := 197) rfl), fun _ => hk3 (List.mem_of_getElem? (i := 198) rfl), fun h => absurd h (by decide)⟩
theorem mwX7_wordAt : MW (yX7_wordAt, cX7_wordAt, 3, (some .int), 7, 3, 2, 46, 1) := ⟨hk3 (List.mem_of_getElem? (i := 211) rfl), hk1 (List.mem_of_getElem? (i := 7) rfl), fun h => absurd h (by decide), fun _ => hk3 (List.mem_of_getElem? (i := 209) rfl), fun _ => hk3 (List.mem_of_getElem? (i := 210) rfl), fun h => absurd h (by decide)⟩
theorem mwX7_depthAt : MW (yX7_depthAt, cX7_depthAt, 2, (some .int), 7, 2, 2, 46, 1) := ⟨hk3 (List.mem_of_getElem? (i := 224) rfl), hk1 (List.mem_of_getElem? (i := 7) rfl), fun h => absurd h (by decide), fun _ => hk3 (List.mem_of_getElem? (i := 222) rfl), fun _ => hk3 (List.mem_of_getElem? (i := 223) rfl), fun h => absurd h (by decide)⟩
theorem mwX7_holds : MW (yX7_holds, cX7_holds, 3, (some .boolean), 7, 3, 2, 52, 1) := ⟨hk4 (List.mem_of_getElem? (i := 110) rfl), hk1 (List.mem_of_getElem? (i := 7) rfl), fun h => absurd h (by decide), fun _ => hk4 (List.mem_of_getElem? (i := 108) rfl), fun _ => hk4 (List.mem_of_getElem? (i := 109) rfl), fun h => absurd h (by decide)⟩
theorem mwX7_add : MW (yX7_add, cX7_add, 4, none, 7, 3, 3, 69, 1) := ⟨hk2 (List.mem_of_getElem? (i := 190) rfl), hk1 (List.mem_of_getElem? (i := 7) rfl), fun h => absurd h (by decide), fun _ => hk2 (List.mem_of_getElem? (i := 188) rfl), fun _ => hk2 (List.mem_of_getElem? (i := 189) rfl), fun h => absurd h (by decide)⟩
theorem mwX7_cut : MW (yX7_cut, cX7_cut, 7, none, 7, 3, 3, 70, 1) := ⟨hk2 (List.mem_of_getElem? (i := 224) rfl), hk1 (List.mem_of_getElem? (i := 7) rfl), fun h => absurd h (by decide), fun _ => hk2 (List.mem_of_getElem? (i := 222) rfl), fun _ => hk2 (List.mem_of_getElem? (i := 223) rfl), fun h => absurd h (by decide)⟩
theorem mwX7_isLowest : MW (yX7_isLowest, cX7_isLowest, 2, (some .boolean), 7, 2, 0, 0, 1) := ⟨hk2 (List.mem_of_getElem? (i := 202) rfl), hk1 (List.mem_of_getElem? (i := 7) rfl), fun h => absurd h (by decide), fun _ => hk2 (List.mem_of_getElem? (i := 201) rfl), fun _ => @hps (_, 17) (List.mem_append_left _ (List.mem_of_getElem? (i := 12) rfl)), fun h => absurd h (by decide)⟩
theorem mwX7_takeNode : MW (yX7_takeNode, cX7_takeNode, 3, (some .int), 7, 1, 0, 0, 1) := ⟨hk1 (List.mem_of_getElem? (i := 120) rfl), hk1 (List.mem_of_getElem? (i := 7) rfl), fun h => absurd h (by decide), fun _ => hk1 (List.mem_of_getElem? (i := 119) rfl), fun _ => @hps (_, 17) (List.mem_append_left _ (List.mem_of_getElem? (i := 0) rfl)), fun h => absurd h (by decide)⟩
theorem mwX7_giveNode : MW (yX7_giveNode, cX7_giveNode, 2, none, 7, 2, 0, 0, 1) := ⟨hk3 (List.mem_of_getElem? (i := 12) rfl), hk1 (List.mem_of_getElem? (i := 7) rfl), fun h => absurd h (by decide), fun _ => hk3 (List.mem_of_getElem? (i := 11) rfl), fun _ => @hps (_, 17) (List.mem_append_right _ (List.mem_append_left _ (List.mem_of_getElem? (i := 6) rfl))), fun h => absurd h (by decide)⟩
theorem mwX7_find : MW (yX7_find, cX7_find, 7, (some .boolean), 7, 3, 1, 26, 1) := ⟨hk2 (List.mem_of_getElem? (i := 194) rfl), hk1 (List.mem_of_getElem? (i := 7) rfl), fun h => absurd h (by decide), fun _ => hk2 (List.mem_of_getElem? (i := 193) rfl), fun _ => @hps (_, 17) (List.mem_append_left _ (List.mem_of_getElem? (i := 11) rfl)), fun h => absurd h (by decide)⟩
theorem mwX7_goToGreatestBelow : MW (yX7_goToGreatestBelow, cX7_goToGreatestBelow, 3, none, 7, 1, 1, 21, 1) := ⟨hk2 (List.mem_of_getElem? (i := 232) rfl), hk1 (List.mem_of_getElem? (i := 7) rfl), fun h => absurd h (by decide), fun _ => hk2 (List.mem_of_getElem? (i := 231) rfl), fun _ => @hps (_, 17) (List.mem_append_right _ (List.mem_append_left _ (List.mem_of_getElem? (i := 1) rfl))), fun h => absurd h (by decide)⟩
theorem mwX7_putInto : MW (yX7_putInto, cX7_putInto, 8, none, 7, 5, 1, 18, 1) := ⟨hk2 (List.mem_of_getElem? (i := 211) rfl), hk1 (List.mem_of_getElem? (i := 7) rfl), fun h => absurd h (by decide), fun _ => hk2 (List.mem_of_getElem? (i := 210) rfl), fun _ => @hps (_, 17) (List.mem_append_left _ (List.mem_of_getElem? (i := 13) rfl)), fun h => absurd h (by decide)⟩
theorem mwX7_takeOut : MW (yX7_takeOut, cX7_takeOut, 6, none, 7, 3, 1, 18, 1) := ⟨hk2 (List.mem_of_getElem? (i := 228) rfl), hk1 (List.mem_of_getElem? (i := 7) rfl), fun h => absurd h (by decide), fun _ => hk2 (List.mem_of_getElem? (i := 227) rfl), fun _ => @hps (_, 17) (List.mem_append_right _ (List.mem_append_left _ (List.mem_of_getElem? (i := 0) rfl))), fun h => absurd h (by decide)⟩
theorem mwX7_splitUpwards : MW (yX7_splitUpwards, cX7_splitUpwards, 5, none, 7, 1, 2, 45, 1) := ⟨hk2 (List.mem_of_getElem? (i := 216) rfl), hk1 (List.mem_of_getElem? (i := 7) rfl), fun h => absurd h (by decide), fun _ => hk2 (List.mem_of_getElem? (i := 215) rfl), fun _ => @hps (_, 17) (List.mem_append_left _ (List.mem_of_getElem? (i := 14) rfl)), fun h => absurd h (by decide)⟩
theorem mwX7_halve : MW (yX7_halve, cX7_halve, 3, none, 7, 3, 1, 18, 1) := ⟨hk2 (List.mem_of_getElem? (i := 220) rfl), hk1 (List.mem_of_getElem? (i := 7) rfl), fun h => absurd h (by decide), fun _ => hk2 (List.mem_of_getElem? (i := 219) rfl), fun _ => @hps (_, 17) (List.mem_append_left _ (List.mem_of_getElem? (i := 15) rfl)), fun h => absurd h (by decide)⟩
theorem mwX7_mendUpwards : MW (yX7_mendUpwards, cX7_mendUpwards, 5, none, 7, 1, 2, 46, 1) := ⟨hk2 (List.mem_of_getElem? (i := 236) rfl), hk1 (List.mem_of_getElem? (i := 7) rfl), fun h => absurd h (by decide), fun _ => hk2 (List.mem_of_getElem? (i := 235) rfl), fun _ => @hps (_, 17) (List.mem_append_right _ (List.mem_append_left _ (List.mem_of_getElem? (i := 2) rfl))), fun h => absurd h (by decide)⟩
theorem mwX7_takeFromLeft : MW (yX7_takeFromLeft, cX7_takeFromLeft, 6, none, 7, 3, 1, 18, 1) := ⟨hk3 (List.mem_of_getElem? (i := 0) rfl), hk1 (List.mem_of_getElem? (i := 7) rfl), fun h => absurd h (by decide), fun _ => hk2 (List.mem_of_getElem? (i := 239) rfl), fun _ => @hps (_, 17) (List.mem_append_right _ (List.mem_append_left _ (List.mem_of_getElem? (i := 3) rfl))), fun h => absurd h (by decide)⟩
theorem mwX7_takeFromRight : MW (yX7_takeFromRight, cX7_takeFromRight, 6, none, 7, 3, 1, 18, 1) := ⟨hk3 (List.mem_of_getElem? (i := 4) rfl), hk1 (List.mem_of_getElem? (i := 7) rfl), fun h => absurd h (by decide), fun _ => hk3 (List.mem_of_getElem? (i := 3) rfl), fun _ => @hps (_, 17) (List.mem_append_right _ (List.mem_append_left _ (List.mem_of_getElem? (i := 4) rfl))), fun h => absurd h (by decide)⟩
theorem mwX7_joinAround : MW (yX7_joinAround, cX7_joinAround, 6, none, 7, 3, 1, 21, 1) := ⟨hk3 (List.mem_of_getElem? (i := 8) rfl), hk1 (List.mem_of_getElem? (i := 7) rfl), fun h => absurd h (by decide), fun _ => hk3 (List.mem_of_getElem? (i := 7) rfl), fun _ => @hps (_, 17) (List.mem_append_right _ (List.mem_append_left _ (List.mem_of_getElem? (i := 5) rfl))), fun h => absurd h (by decide)⟩
theorem mwX7_walkAll : MW (yX7_walkAll, cX7_walkAll, 5, none, 7, 1, 1, 22, 1) := ⟨hk3 (List.mem_of_getElem? (i := 215) rfl), hk1 (List.mem_of_getElem? (i := 7) rfl), fun h => absurd h (by decide), fun _ => hk3 (List.mem_of_getElem? (i := 214) rfl), fun _ => @hps (_, 17) (List.mem_append_right _ (List.mem_append_right _ (List.mem_append_left _ (List.mem_of_getElem? (i := 4) rfl)))), fun h => absurd h (by decide)⟩
theorem mwX7_noteWalked : MW (yX7_noteWalked, cX7_noteWalked, 3, none, 7, 3, 0, 0, 1) := ⟨hk3 (List.mem_of_getElem? (i := 219) rfl), hk1 (List.mem_of_getElem? (i := 7) rfl), fun h => absurd h (by decide), fun _ => hk3 (List.mem_of_getElem? (i := 218) rfl), fun _ => @hps (_, 17) (List.mem_append_right _ (List.mem_append_right _ (List.mem_append_left _ (List.mem_of_getElem? (i := 5) rfl)))), fun h => absurd h (by decide)⟩
theorem mwX7_faults : MW (yX7_faults, cX7_faults, 3, (some .int), 7, 1, 2, 48, 1) := ⟨hk4 (List.mem_of_getElem? (i := 96) rfl), hk1 (List.mem_of_getElem? (i := 7) rfl), fun h => absurd h (by decide), fun _ => hk4 (List.mem_of_getElem? (i := 94) rfl), fun _ => hk4 (List.mem_of_getElem? (i := 95) rfl), fun h => absurd h (by decide)⟩
theorem mwX7_nodeFaults : MW (yX7_nodeFaults, cX7_nodeFaults, 8, (some .int), 7, 1, 1, 21, 1) := ⟨hk4 (List.mem_of_getElem? (i := 101) rfl), hk1 (List.mem_of_getElem? (i := 7) rfl), fun h => absurd h (by decide), fun _ => hk4 (List.mem_of_getElem? (i := 100) rfl), fun _ => @hps (_, 17) (List.mem_append_right _ (List.mem_append_right _ (List.mem_append_right _ (List.mem_append_left _ (List.mem_of_getElem? (i := 0) rfl))))), fun h => absurd h (by decide)⟩
theorem mwX8_init : MW (yX8_init, cX8_init, 2, none, 8, 1, 4, 83, 2) := ⟨hk1 (List.mem_of_getElem? (i := 18) rfl), hk1 (List.mem_of_getElem? (i := 1) rfl), fun h => absurd h (by decide), fun _ => hk1 (List.mem_of_getElem? (i := 17) rfl), fun h => absurd h (by decide), fun _ => ⟨rfl, rfl⟩⟩
theorem mwX8_begin : MW (yX8_begin, cX8_begin, 2, (some .int), 8, 1, 0, 0, 1) := ⟨hk2 (List.mem_of_getElem? (i := 76) rfl), hk1 (List.mem_of_getElem? (i := 1) rfl), fun h => absurd h (by decide), fun _ => hk2 (List.mem_of_getElem? (i := 74) rfl), fun _ => hk2 (List.mem_of_getElem? (i := 75) rfl), fun h => absurd h (by decide)⟩
theorem mwX8_insert : MW (yX8_insert, cX8_insert, 7, (some .int), 8, 6, 7, 161, 1) := ⟨hk2 (List.mem_of_getElem? (i := 80) rfl), hk1 (List.mem_of_getElem? (i := 1) rfl), fun h => absurd h (by decide), fun _ => hk2 (List.mem_of_getElem? (i := 78) rfl), fun _ => hk2 (List.mem_of_getElem? (i := 79) rfl), fun h => absurd h (by decide)⟩
theorem mwX8_update : MW (yX8_update, cX8_update, 5, (some .int), 8, 5, 7, 161, 1) := ⟨hk3 (List.mem_of_getElem? (i := 55) rfl), hk1 (List.mem_of_getElem? (i := 1) rfl), fun h => absurd h (by decide), fun _ => hk3 (List.mem_of_getElem? (i := 53) rfl), fun _ => hk3 (List.mem_of_getElem? (i := 54) rfl), fun h => absurd h (by decide)⟩
theorem mwX8_remove : MW (yX8_remove, cX8_remove, 3, (some .int), 8, 3, 7, 161, 1) := ⟨hk3 (List.mem_of_getElem? (i := 79) rfl), hk1 (List.mem_of_getElem? (i := 1) rfl), fun h => absurd h (by decide), fun _ => hk3 (List.mem_of_getElem? (i := 77) rfl), fun _ => hk3 (List.mem_of_getElem? (i := 78) rfl), fun h => absurd h (by decide)⟩
theorem mwX8_records : MW (yX8_records, cX8_records, 2, (some .int), 8, 2, 1, 21, 1) := ⟨hk3 (List.mem_of_getElem? (i := 87) rfl), hk1 (List.mem_of_getElem? (i := 1) rfl), fun h => absurd h (by decide), fun _ => hk3 (List.mem_of_getElem? (i := 85) rfl), fun _ => hk3 (List.mem_of_getElem? (i := 86) rfl), fun h => absurd h (by decide)⟩
theorem mwX8_undo : MW (yX8_undo, cX8_undo, 3, (some .int), 8, 3, 7, 165, 1) := ⟨hk3 (List.mem_of_getElem? (i := 91) rfl), hk1 (List.mem_of_getElem? (i := 1) rfl), fun h => absurd h (by decide), fun _ => hk3 (List.mem_of_getElem? (i := 89) rfl), fun _ => hk3 (List.mem_of_getElem? (i := 90) rfl), fun h => absurd h (by decide)⟩
theorem mwX8_commit : MW (yX8_commit, cX8_commit, 4, (some .int), 8, 2, 6, 139, 1) := ⟨hk3 (List.mem_of_getElem? (i := 107) rfl), hk1 (List.mem_of_getElem? (i := 1) rfl), fun h => absurd h (by decide), fun _ => hk3 (List.mem_of_getElem? (i := 105) rfl), fun _ => hk3 (List.mem_of_getElem? (i := 106) rfl), fun h => absurd h (by decide)⟩
theorem mwX8_abort : MW (yX8_abort, cX8_abort, 3, (some .int), 8, 2, 7, 165, 1) := ⟨hk3 (List.mem_of_getElem? (i := 111) rfl), hk1 (List.mem_of_getElem? (i := 1) rfl), fun h => absurd h (by decide), fun _ => hk3 (List.mem_of_getElem? (i := 109) rfl), fun _ => hk3 (List.mem_of_getElem? (i := 110) rfl), fun h => absurd h (by decide)⟩
theorem mwX8_isActive : MW (yX8_isActive, cX8_isActive, 2, (some .boolean), 8, 2, 0, 0, 1) := ⟨hk2 (List.mem_of_getElem? (i := 84) rfl), hk1 (List.mem_of_getElem? (i := 1) rfl), fun h => absurd h (by decide), fun _ => hk2 (List.mem_of_getElem? (i := 83) rfl), fun _ => @hps (_, 12) (List.mem_append_left _ (List.mem_of_getElem? (i := 1) rfl)), fun h => absurd h (by decide)⟩
theorem mwX8_isPlace : MW (yX8_isPlace, cX8_isPlace, 1, (some .boolean), 8, 1, 0, 0, 0) := ⟨hk3 (List.mem_of_getElem? (i := 65) rfl), hk1 (List.mem_of_getElem? (i := 1) rfl), fun _ => hk3 (List.mem_of_getElem? (i := 64) rfl), fun h => absurd h (by decide), fun h => absurd h (by decide), fun h => absurd h (by decide)⟩
theorem mwX8_isField : MW (yX8_isField, cX8_isField, 1, (some .boolean), 8, 1, 0, 0, 0) := ⟨hk3 (List.mem_of_getElem? (i := 58) rfl), hk1 (List.mem_of_getElem? (i := 1) rfl), fun _ => hk3 (List.mem_of_getElem? (i := 57) rfl), fun h => absurd h (by decide), fun h => absurd h (by decide), fun h => absurd h (by decide)⟩
theorem mwX8_isLocked : MW (yX8_isLocked, cX8_isLocked, 3, (some .boolean), 8, 3, 1, 20, 1) := ⟨hk3 (List.mem_of_getElem? (i := 62) rfl), hk1 (List.mem_of_getElem? (i := 1) rfl), fun h => absurd h (by decide), fun _ => hk3 (List.mem_of_getElem? (i := 61) rfl), fun _ => @hps (_, 12) (List.mem_append_right _ (List.mem_append_left _ (List.mem_of_getElem? (i := 9) rfl))), fun h => absurd h (by decide)⟩
theorem mwX8_hasRow : MW (yX8_hasRow, cX8_hasRow, 2, (some .boolean), 8, 2, 1, 21, 1) := ⟨hk3 (List.mem_of_getElem? (i := 69) rfl), hk1 (List.mem_of_getElem? (i := 1) rfl), fun h => absurd h (by decide), fun _ => hk3 (List.mem_of_getElem? (i := 68) rfl), fun _ => @hps (_, 12) (List.mem_append_right _ (List.mem_append_left _ (List.mem_of_getElem? (i := 10) rfl))), fun h => absurd h (by decide)⟩
theorem mwX8_leastFreePlace : MW (yX8_leastFreePlace, cX8_leastFreePlace, 2, (some .int), 8, 1, 2, 42, 1) := ⟨hk2 (List.mem_of_getElem? (i := 88) rfl), hk1 (List.mem_of_getElem? (i := 1) rfl), fun h => absurd h (by decide), fun _ => hk2 (List.mem_of_getElem? (i := 87) rfl), fun _ => @hps (_, 12) (List.mem_append_left _ (List.mem_of_getElem? (i := 2) rfl)), fun h => absurd h (by decide)⟩
theorem mwX8_write : MW (yX8_write, cX8_write, 3, none, 8, 3, 6, 139, 1) := ⟨hk2 (List.mem_of_getElem? (i := 160) rfl), hk1 (List.mem_of_getElem? (i := 1) rfl), fun h => absurd h (by decide), fun _ => hk2 (List.mem_of_getElem? (i := 159) rfl), fun _ => @hps (_, 12) (List.mem_append_left _ (List.mem_of_getElem? (i := 8) rfl)), fun h => absurd h (by decide)⟩
theorem mwX8_undoTo : MW (yX8_undoTo, cX8_undoTo, 7, (some .int), 8, 3, 6, 139, 1) := ⟨hk3 (List.mem_of_getElem? (i := 103) rfl), hk1 (List.mem_of_getElem? (i := 1) rfl), fun h => absurd h (by decide), fun _ => hk3 (List.mem_of_getElem? (i := 102) rfl), fun _ => @hps (_, 12) (List.mem_append_right _ (List.mem_append_left _ (List.mem_of_getElem? (i := 12) rfl))), fun h => absurd h (by decide)⟩
theorem mwX8_tellIndexes : MW (yX8_tellIndexes, cX8_tellIndexes, 3, none, 8, 2, 5, 117, 1) := ⟨hk2 (List.mem_of_getElem? (i := 170) rfl), hk1 (List.mem_of_getElem? (i := 1) rfl), fun h => absurd h (by decide), fun _ => hk2 (List.mem_of_getElem? (i := 169) rfl), fun _ => @hps (_, 12) (List.mem_append_left _ (List.mem_of_getElem? (i := 9) rfl)), fun h => absurd h (by decide)⟩
theorem mwX8_wouldClash : MW (yX8_wouldClash, cX8_wouldClash, 3, (some .boolean), 8, 3, 5, 116, 1) := ⟨hk2 (List.mem_of_getElem? (i := 108) rfl), hk1 (List.mem_of_getElem? (i := 1) rfl), fun h => absurd h (by decide), fun _ => hk2 (List.mem_of_getElem? (i := 107) rfl), fun _ => @hps (_, 12) (List.mem_append_left _ (List.mem_of_getElem? (i := 3) rfl)), fun h => absurd h (by decide)⟩
theorem mwX8_undoWouldClash : MW (yX8_undoWouldClash, cX8_undoWouldClash, 4, (some .boolean), 8, 3, 5, 116, 1) := ⟨hk3 (List.mem_of_getElem? (i := 95) rfl), hk1 (List.mem_of_getElem? (i := 1) rfl), fun h => absurd h (by decide), fun _ => hk3 (List.mem_of_getElem? (i := 94) rfl), fun _ => @hps (_, 12) (List.mem_append_right _ (List.mem_append_left _ (List.mem_of_getElem? (i := 11) rfl))), fun h => absurd h (by decide)⟩
theorem mwX8_hasGuard : MW (yX8_hasGuard, cX8_hasGuard, 2, (some .boolean), 8, 1, 1, 20, 1) := ⟨hk2 (List.mem_of_getElem? (i := 112) rfl), hk1 (List.mem_of_getElem? (i := 1) rfl), fun h => absurd h (by decide), fun _ => hk2 (List.mem_of_getElem? (i := 111) rfl), fun _ => @hps (_, 12) (List.mem_append_left _ (List.mem_of_getElem? (i := 4) rfl)), fun h => absurd h (by decide)⟩
theorem mwX8_clashesIn : MW (yX8_clashesIn, cX8_clashesIn, 4, (some .boolean), 8, 3, 4, 93, 1) := ⟨hk2 (List.mem_of_getElem? (i := 139) rfl), hk1 (List.mem_of_getElem? (i := 1) rfl), fun h => absurd h (by decide), fun _ => hk2 (List.mem_of_getElem? (i := 138) rfl), fun _ => @hps (_, 12) (List.mem_append_left _ (List.mem_of_getElem? (i := 5) rfl)), fun h => absurd h (by decide)⟩
theorem mwX8_index : MW (yX8_index, cX8_index, 6, (some .int), 8, 5, 4, 87, 1) := ⟨hk3 (List.mem_of_getElem? (i := 115) rfl), hk1 (List.mem_of_getElem? (i := 1) rfl), fun h => absurd h (by decide), fun _ => hk3 (List.mem_of_getElem? (i := 113) rfl), fun _ => hk3 (List.mem_of_getElem? (i := 114) rfl), fun h => absurd h (by decide)⟩
theorem mwX8_drop : MW (yX8_drop, cX8_drop, 2, (some .int), 8, 2, 1, 21, 1) := ⟨hk3 (List.mem_of_getElem? (i := 126) rfl), hk1 (List.mem_of_getElem? (i := 1) rfl), fun h => absurd h (by decide), fun _ => hk3 (List.mem_of_getElem? (i := 124) rfl), fun _ => hk3 (List.mem_of_getElem? (i := 125) rfl), fun h => absurd h (by decide)⟩
theorem mwX8_step : MW (yX8_step, cX8_step, 4, (some .int), 8, 3, 7, 158, 1) := ⟨hk3 (List.mem_of_getElem? (i := 134) rfl), hk1 (List.mem_of_getElem? (i := 1) rfl), fun h => absurd h (by decide), fun _ => hk3 (List.mem_of_getElem? (i := 132) rfl), fun _ => hk3 (List.mem_of_getElem? (i := 133) rfl), fun h => absurd h (by decide)⟩
theorem mwX8_info : MW (yX8_info, cX8_info, 4, (some .int), 8, 3, 2, 43, 1) := ⟨hk3 (List.mem_of_getElem? (i := 191) rfl), hk1 (List.mem_of_getElem? (i := 1) rfl), fun h => absurd h (by decide), fun _ => hk3 (List.mem_of_getElem? (i := 189) rfl), fun _ => hk3 (List.mem_of_getElem? (i := 190) rfl), fun h => absurd h (by decide)⟩
theorem mwX8_entry : MW (yX8_entry, cX8_entry, 5, (some .int), 8, 4, 3, 68, 1) := ⟨hk3 (List.mem_of_getElem? (i := 207) rfl), hk1 (List.mem_of_getElem? (i := 1) rfl), fun h => absurd h (by decide), fun _ => hk3 (List.mem_of_getElem? (i := 205) rfl), fun _ => hk3 (List.mem_of_getElem? (i := 206) rfl), fun h => absurd h (by decide)⟩
theorem mwX8_isIndex : MW (yX8_isIndex, cX8_isIndex, 2, (some .boolean), 8, 2, 0, 0, 1) := ⟨hk3 (List.mem_of_getElem? (i := 130) rfl), hk1 (List.mem_of_getElem? (i := 1) rfl), fun h => absurd h (by decide), fun _ => hk3 (List.mem_of_getElem? (i := 129) rfl), fun _ => @hps (_, 12) (List.mem_append_right _ (List.mem_append_left _ (List.mem_of_getElem? (i := 13) rfl))), fun h => absurd h (by decide)⟩
theorem mwX8_isKey : MW (yX8_isKey, cX8_isKey, 3, (some .boolean), 8, 3, 1, 20, 0) := ⟨hk3 (List.mem_of_getElem? (i := 118) rfl), hk1 (List.mem_of_getElem? (i := 1) rfl), fun _ => hk3 (List.mem_of_getElem? (i := 117) rfl), fun h => absurd h (by decide), fun h => absurd h (by decide), fun h => absurd h (by decide)⟩
theorem mwX8_where : MW (yX8_where, cX8_where, 4, (some .int), 8, 4, 1, 20, 1) := ⟨hk3 (List.mem_of_getElem? (i := 228) rfl), hk1 (List.mem_of_getElem? (i := 1) rfl), fun h => absurd h (by decide), fun _ => hk3 (List.mem_of_getElem? (i := 226) rfl), fun _ => hk3 (List.mem_of_getElem? (i := 227) rfl), fun h => absurd h (by decide)⟩
theorem mwX8_ask : MW (yX8_ask, cX8_ask, 3, (some .int), 8, 3, 7, 164, 1) := ⟨hk3 (List.mem_of_getElem? (i := 232) rfl), hk1 (List.mem_of_getElem? (i := 1) rfl), fun h => absurd h (by decide), fun _ => hk3 (List.mem_of_getElem? (i := 230) rfl), fun _ => hk3 (List.mem_of_getElem? (i := 231) rfl), fun h => absurd h (by decide)⟩
theorem mwX8_answer : MW (yX8_answer, cX8_answer, 2, (some .int), 8, 2, 0, 0, 1) := ⟨hk4 (List.mem_of_getElem? (i := 47) rfl), hk1 (List.mem_of_getElem? (i := 1) rfl), fun h => absurd h (by decide), fun _ => hk4 (List.mem_of_getElem? (i := 45) rfl), fun _ => hk4 (List.mem_of_getElem? (i := 46) rfl), fun h => absurd h (by decide)⟩
theorem mwX8_asked : MW (yX8_asked, cX8_asked, 2, (some .int), 8, 2, 0, 0, 1) := ⟨hk4 (List.mem_of_getElem? (i := 51) rfl), hk1 (List.mem_of_getElem? (i := 1) rfl), fun h => absurd h (by decide), fun _ => hk4 (List.mem_of_getElem? (i := 49) rfl), fun _ => hk4 (List.mem_of_getElem? (i := 50) rfl), fun h => absurd h (by decide)⟩
theorem mwX8_cost : MW (yX8_cost, cX8_cost, 2, (some .int), 8, 2, 6, 141, 1) := ⟨hk4 (List.mem_of_getElem? (i := 55) rfl), hk1 (List.mem_of_getElem? (i := 1) rfl), fun h => absurd h (by decide), fun _ => hk4 (List.mem_of_getElem? (i := 53) rfl), fun _ => hk4 (List.mem_of_getElem? (i := 54) rfl), fun h => absurd h (by decide)⟩
theorem mwX8_isReady : MW (yX8_isReady, cX8_isReady, 2, (some .boolean), 8, 2, 1, 21, 1) := ⟨hk3 (List.mem_of_getElem? (i := 236) rfl), hk1 (List.mem_of_getElem? (i := 1) rfl), fun h => absurd h (by decide), fun _ => hk3 (List.mem_of_getElem? (i := 235) rfl), fun _ => @hps (_, 12) (List.mem_append_right _ (List.mem_append_right _ (List.mem_append_left _ (List.mem_of_getElem? (i := 6) rfl)))), fun h => absurd h (by decide)⟩
theorem mwX8_cheapestWay : MW (yX8_cheapestWay, cX8_cheapestWay, 4, (some .int), 8, 1, 6, 141, 1) := ⟨hk4 (List.mem_of_getElem? (i := 0) rfl), hk1 (List.mem_of_getElem? (i := 1) rfl), fun h => absurd h (by decide), fun _ => hk3 (List.mem_of_getElem? (i := 239) rfl), fun _ => @hps (_, 12) (List.mem_append_right _ (List.mem_append_right _ (List.mem_append_left _ (List.mem_of_getElem? (i := 7) rfl)))), fun h => absurd h (by decide)⟩
theorem mwX8_costOf : MW (yX8_costOf, cX8_costOf, 3, (some .int), 8, 2, 5, 119, 1) := ⟨hk4 (List.mem_of_getElem? (i := 4) rfl), hk1 (List.mem_of_getElem? (i := 1) rfl), fun h => absurd h (by decide), fun _ => hk4 (List.mem_of_getElem? (i := 3) rfl), fun _ => @hps (_, 12) (List.mem_append_right _ (List.mem_append_right _ (List.mem_append_left _ (List.mem_of_getElem? (i := 8) rfl)))), fun h => absurd h (by decide)⟩
theorem mwX8_pagesInUse : MW (yX8_pagesInUse, cX8_pagesInUse, 5, (some .int), 8, 1, 2, 42, 1) := ⟨hk4 (List.mem_of_getElem? (i := 8) rfl), hk1 (List.mem_of_getElem? (i := 1) rfl), fun h => absurd h (by decide), fun _ => hk4 (List.mem_of_getElem? (i := 7) rfl), fun _ => @hps (_, 12) (List.mem_append_right _ (List.mem_append_right _ (List.mem_append_left _ (List.mem_of_getElem? (i := 9) rfl)))), fun h => absurd h (by decide)⟩
theorem mwX8_answerByScan : MW (yX8_answerByScan, cX8_answerByScan, 3, none, 8, 2, 2, 46, 1) := ⟨hk4 (List.mem_of_getElem? (i := 22) rfl), hk1 (List.mem_of_getElem? (i := 1) rfl), fun h => absurd h (by decide), fun _ => hk4 (List.mem_of_getElem? (i := 21) rfl), fun _ => @hps (_, 12) (List.mem_append_right _ (List.mem_append_right _ (List.mem_append_left _ (List.mem_of_getElem? (i := 10) rfl)))), fun h => absurd h (by decide)⟩
theorem mwX8_answerByIndex : MW (yX8_answerByIndex, cX8_answerByIndex, 6, none, 8, 3, 4, 95, 1) := ⟨hk4 (List.mem_of_getElem? (i := 38) rfl), hk1 (List.mem_of_getElem? (i := 1) rfl), fun h => absurd h (by decide), fun _ => hk4 (List.mem_of_getElem? (i := 37) rfl), fun _ => @hps (_, 12) (List.mem_append_right _ (List.mem_append_right _ (List.mem_append_left _ (List.mem_of_getElem? (i := 13) rfl)))), fun h => absurd h (by decide)⟩
theorem mwX8_fits : MW (yX8_fits, cX8_fits, 5, (some .boolean), 8, 3, 1, 22, 1) := ⟨hk4 (List.mem_of_getElem? (i := 30) rfl), hk1 (List.mem_of_getElem? (i := 1) rfl), fun h => absurd h (by decide), fun _ => hk4 (List.mem_of_getElem? (i := 29) rfl), fun _ => @hps (_, 12) (List.mem_append_right _ (List.mem_append_right _ (List.mem_append_left _ (List.mem_of_getElem? (i := 11) rfl)))), fun h => absurd h (by decide)⟩
theorem mwX8_tell : MW (yX8_tell, cX8_tell, 2, none, 8, 2, 0, 0, 1) := ⟨hk4 (List.mem_of_getElem? (i := 34) rfl), hk1 (List.mem_of_getElem? (i := 1) rfl), fun h => absurd h (by decide), fun _ => hk4 (List.mem_of_getElem? (i := 33) rfl), fun _ => @hps (_, 12) (List.mem_append_right _ (List.mem_append_right _ (List.mem_append_left _ (List.mem_of_getElem? (i := 12) rfl)))), fun h => absurd h (by decide)⟩
theorem mwX8_sees : MW (yX8_sees, cX8_sees, 3, (some .int), 8, 3, 1, 22, 1) := ⟨hk4 (List.mem_of_getElem? (i := 59) rfl), hk1 (List.mem_of_getElem? (i := 1) rfl), fun h => absurd h (by decide), fun _ => hk4 (List.mem_of_getElem? (i := 57) rfl), fun _ => hk4 (List.mem_of_getElem? (i := 58) rfl), fun h => absurd h (by decide)⟩
theorem mwX8_field : MW (yX8_field, cX8_field, 5, (some .int), 8, 4, 1, 22, 1) := ⟨hk4 (List.mem_of_getElem? (i := 63) rfl), hk1 (List.mem_of_getElem? (i := 1) rfl), fun h => absurd h (by decide), fun _ => hk4 (List.mem_of_getElem? (i := 61) rfl), fun _ => hk4 (List.mem_of_getElem? (i := 62) rfl), fun h => absurd h (by decide)⟩
theorem mwX8_writer : MW (yX8_writer, cX8_writer, 2, (some .int), 8, 2, 1, 20, 1) := ⟨hk4 (List.mem_of_getElem? (i := 67) rfl), hk1 (List.mem_of_getElem? (i := 1) rfl), fun h => absurd h (by decide), fun _ => hk4 (List.mem_of_getElem? (i := 65) rfl), fun _ => hk4 (List.mem_of_getElem? (i := 66) rfl), fun h => absurd h (by decide)⟩
theorem mwX8_count : MW (yX8_count, cX8_count, 2, (some .int), 8, 2, 3, 64, 1) := ⟨hk4 (List.mem_of_getElem? (i := 71) rfl), hk1 (List.mem_of_getElem? (i := 1) rfl), fun h => absurd h (by decide), fun _ => hk4 (List.mem_of_getElem? (i := 69) rfl), fun _ => hk4 (List.mem_of_getElem? (i := 70) rfl), fun h => absurd h (by decide)⟩
theorem mwX8_audit : MW (yX8_audit, cX8_audit, 3, (some .int), 8, 1, 6, 139, 1) := ⟨hk4 (List.mem_of_getElem? (i := 88) rfl), hk1 (List.mem_of_getElem? (i := 1) rfl), fun h => absurd h (by decide), fun _ => hk4 (List.mem_of_getElem? (i := 86) rfl), fun _ => hk4 (List.mem_of_getElem? (i := 87) rfl), fun h => absurd h (by decide)⟩
theorem mwX8_activeTransactions : MW (yX8_activeTransactions, cX8_activeTransactions, 3, (some .int), 8, 1, 0, 0, 1) := ⟨hk4 (List.mem_of_getElem? (i := 80) rfl), hk1 (List.mem_of_getElem? (i := 1) rfl), fun h => absurd h (by decide), fun _ => hk4 (List.mem_of_getElem? (i := 79) rfl), fun _ => @hps (_, 12) (List.mem_append_right _ (List.mem_append_right _ (List.mem_append_left _ (List.mem_of_getElem? (i := 14) rfl)))), fun h => absurd h (by decide)⟩
theorem mwX8_indexesFrom : MW (yX8_indexesFrom, cX8_indexesFrom, 4, (some .int), 8, 2, 0, 0, 1) := ⟨hk4 (List.mem_of_getElem? (i := 84) rfl), hk1 (List.mem_of_getElem? (i := 1) rfl), fun h => absurd h (by decide), fun _ => hk4 (List.mem_of_getElem? (i := 83) rfl), fun _ => @hps (_, 12) (List.mem_append_right _ (List.mem_append_right _ (List.mem_append_left _ (List.mem_of_getElem? (i := 15) rfl)))), fun h => absurd h (by decide)⟩
theorem mwX9_init : MW (yX9_init, cX9_init, 2, none, 9, 1, 1, 12, 2) := ⟨hk4 (List.mem_of_getElem? (i := 115) rfl), hk1 (List.mem_of_getElem? (i := 11) rfl), fun h => absurd h (by decide), fun _ => hk4 (List.mem_of_getElem? (i := 114) rfl), fun h => absurd h (by decide), fun _ => ⟨rfl, rfl⟩⟩
theorem mwX9_in : MW (yX9_in, cX9_in, 3, (some .boolean), 9, 3, 0, 0, 0) := ⟨hk5 (List.mem_of_getElem? (i := 58) rfl), hk1 (List.mem_of_getElem? (i := 11) rfl), fun _ => hk5 (List.mem_of_getElem? (i := 57) rfl), fun h => absurd h (by decide), fun h => absurd h (by decide), fun h => absurd h (by decide)⟩
theorem mwX9_isActive : MW (yX9_isActive, cX9_isActive, 2, (some .boolean), 9, 2, 1, 22, 1) := ⟨hk5 (List.mem_of_getElem? (i := 55) rfl), hk1 (List.mem_of_getElem? (i := 11) rfl), fun h => absurd h (by decide), fun _ => hk5 (List.mem_of_getElem? (i := 54) rfl), fun _ => @hps (_, 55) (List.mem_append_right _ (List.mem_append_right _ (List.mem_append_right _ (List.mem_append_left _ (List.mem_of_getElem? (i := 2) rfl))))), fun h => absurd h (by decide)⟩
theorem mwX9_isIndex : MW (yX9_isIndex, cX9_isIndex, 2, (some .boolean), 9, 2, 1, 22, 1) := ⟨hk5 (List.mem_of_getElem? (i := 78) rfl), hk1 (List.mem_of_getElem? (i := 11) rfl), fun h => absurd h (by decide), fun _ => hk5 (List.mem_of_getElem? (i := 77) rfl), fun _ => @hps (_, 55) (List.mem_append_right _ (List.mem_append_right _ (List.mem_append_right _ (List.mem_append_left _ (List.mem_of_getElem? (i := 7) rfl))))), fun h => absurd h (by decide)⟩
theorem mwX9_isReady : MW (yX9_isReady, cX9_isReady, 2, (some .boolean), 9, 2, 2, 43, 1) := ⟨hk5 (List.mem_of_getElem? (i := 74) rfl), hk1 (List.mem_of_getElem? (i := 11) rfl), fun h => absurd h (by decide), fun _ => hk5 (List.mem_of_getElem? (i := 73) rfl), fun _ => @hps (_, 55) (List.mem_append_right _ (List.mem_append_right _ (List.mem_append_right _ (List.mem_append_left _ (List.mem_of_getElem? (i := 6) rfl))))), fun h => absurd h (by decide)⟩
theorem mwX9_isPlace : MW (yX9_isPlace, cX9_isPlace, 1, (some .boolean), 9, 1, 1, 22, 0) := ⟨hk5 (List.mem_of_getElem? (i := 189) rfl), hk1 (List.mem_of_getElem? (i := 11) rfl), fun _ => hk5 (List.mem_of_getElem? (i := 188) rfl), fun h => absurd h (by decide), fun h => absurd h (by decide), fun h => absurd h (by decide)⟩
theorem mwX9_isFree : MW (yX9_isFree, cX9_isFree, 2, (some .boolean), 9, 2, 0, 0, 1) := ⟨hk5 (List.mem_of_getElem? (i := 62) rfl), hk1 (List.mem_of_getElem? (i := 11) rfl), fun h => absurd h (by decide), fun _ => hk5 (List.mem_of_getElem? (i := 61) rfl), fun _ => @hps (_, 55) (List.mem_append_right _ (List.mem_append_right _ (List.mem_append_right _ (List.mem_append_left _ (List.mem_of_getElem? (i := 3) rfl))))), fun h => absurd h (by decide)⟩
theorem mwX9_entryOf : MW (yX9_entryOf, cX9_entryOf, 6, none, 9, 5, 0, 0, 1) := ⟨hk5 (List.mem_of_getElem? (i := 106) rfl), hk1 (List.mem_of_getElem? (i := 11) rfl), fun h => absurd h (by decide), fun _ => hk5 (List.mem_of_getElem? (i := 105) rfl), fun _ => @hps (_, 55) (List.mem_append_right _ (List.mem_append_right _ (List.mem_append_right _ (List.mem_append_left _ (List.mem_of_getElem? (i := 14) rfl))))), fun h => absurd h (by decide)⟩
theorem mwX9_compare : MW (yX9_compare, cX9_compare, 3, (some .int), 9, 2, 0, 0, 1) := ⟨hk5 (List.mem_of_getElem? (i := 126) rfl), hk1 (List.mem_of_getElem? (i := 11) rfl), fun h => absurd h (by decide), fun _ => hk5 (List.mem_of_getElem? (i := 125) rfl), fun _ => @hps (_, 55) (List.mem_append_right _ (List.mem_append_right _ (List.mem_append_right _ (List.mem_append_right _ (List.mem_append_left _ (List.mem_of_getElem? (i := 3) rfl)))))), fun h => absurd h (by decide)⟩
theorem mwX9_copySlot : MW (yX9_copySlot, cX9_copySlot, 4, none, 9, 3, 0, 0, 1) := ⟨hk5 (List.mem_of_getElem? (i := 138) rfl), hk1 (List.mem_of_getElem? (i := 11) rfl), fun h => absurd h (by decide), fun _ => hk5 (List.mem_of_getElem? (i := 137) rfl), fun _ => @hps (_, 55) (List.mem_append_right _ (List.mem_append_right _ (List.mem_append_right _ (List.mem_append_right _ (List.mem_append_left _ (List.mem_of_getElem? (i := 6) rfl)))))), fun h => absurd h (by decide)⟩
theorem mwX9_fillSlot : MW (yX9_fillSlot, cX9_fillSlot, 3, none, 9, 2, 0, 0, 1) := ⟨hk5 (List.mem_of_getElem? (i := 142) rfl), hk1 (List.mem_of_getElem? (i := 11) rfl), fun h => absurd h (by decide), fun _ => hk5 (List.mem_of_getElem? (i := 141) rfl), fun _ => @hps (_, 55) (List.mem_append_right _ (List.mem_append_right _ (List.mem_append_right _ (List.mem_append_right _ (List.mem_append_left _ (List.mem_of_getElem? (i := 7) rfl)))))), fun h => absurd h (by decide)⟩
theorem mwX9_node : MW (yX9_node, cX9_node, 4, (some .int), 9, 2, 0, 0, 1) := ⟨hk5 (List.mem_of_getElem? (i := 146) rfl), hk1 (List.mem_of_getElem? (i := 11) rfl), fun h => absurd h (by decide), fun _ => hk5 (List.mem_of_getElem? (i := 145) rfl), fun _ => @hps (_, 55) (List.mem_append_right _ (List.mem_append_right _ (List.mem_append_right _ (List.mem_append_right _ (List.mem_append_left _ (List.mem_of_getElem? (i := 8) rfl)))))), fun h => absurd h (by decide)⟩
theorem mwX9_emptyTree : MW (yX9_emptyTree, cX9_emptyTree, 3, none, 9, 2, 1, 23, 1) := ⟨hk5 (List.mem_of_getElem? (i := 174) rfl), hk1 (List.mem_of_getElem? (i := 11) rfl), fun h => absurd h (by decide), fun _ => hk5 (List.mem_of_getElem? (i := 173) rfl), fun _ => @hps (_, 55) (List.mem_append_right _ (List.mem_append_right _ (List.mem_append_right _ (List.mem_append_right _ (List.mem_append_left _ (List.mem_of_getElem? (i := 15) rfl)))))), fun h => absurd h (by decide)⟩
theorem mwX9_isLowest : MW (yX9_isLowest, cX9_isLowest, 2, (some .boolean), 9, 2, 0, 0, 1) := ⟨hk5 (List.mem_of_getElem? (i := 130) rfl), hk1 (List.mem_of_getElem? (i := 11) rfl), fun h => absurd h (by decide), fun _ => hk5 (List.mem_of_getElem? (i := 129) rfl), fun _ => @hps (_, 55) (List.mem_append_right _ (List.mem_append_right _ (List.mem_append_right _ (List.mem_append_right _ (List.mem_append_left _ (List.mem_of_getElem? (i := 4) rfl)))))), fun h => absurd h (by decide)⟩
theorem mwX9_slotFor : MW (yX9_slotFor, cX9_slotFor, 3, (some .int), 9, 2, 1, 22, 1) := ⟨hk5 (List.mem_of_getElem? (i := 122) rfl), hk1 (List.mem_of_getElem? (i := 11) rfl), fun h => absurd h (by decide), fun _ => hk5 (List.mem_of_getElem? (i := 121) rfl), fun _ => @hps (_, 55) (List.mem_append_right _ (List.mem_append_right _ (List.mem_append_right _ (List.mem_append_right _ (List.mem_append_left _ (List.mem_of_getElem? (i := 2) rfl)))))), fun h => absurd h (by decide)⟩
theorem mwX9_find : MW (yX9_find, cX9_find, 4, (some .boolean), 9, 2, 2, 44, 1) := ⟨hk5 (List.mem_of_getElem? (i := 118) rfl), hk1 (List.mem_of_getElem? (i := 11) rfl), fun h => absurd h (by decide), fun _ => hk5 (List.mem_of_getElem? (i := 117) rfl), fun _ => @hps (_, 55) (List.mem_append_right _ (List.mem_append_right _ (List.mem_append_right _ (List.mem_append_right _ (List.mem_append_left _ (List.mem_of_getElem? (i := 1) rfl)))))), fun h => absurd h (by decide)⟩
theorem mwX9_addAt : MW (yX9_addAt, cX9_addAt, 5, none, 9, 4, 1, 23, 1) := ⟨hk5 (List.mem_of_getElem? (i := 134) rfl), hk1 (List.mem_of_getElem? (i := 11) rfl), fun h => absurd h (by decide), fun _ => hk5 (List.mem_of_getElem? (i := 133) rfl), fun _ => @hps (_, 55) (List.mem_append_right _ (List.mem_append_right _ (List.mem_append_right _ (List.mem_append_right _ (List.mem_append_left _ (List.mem_of_getElem? (i := 5) rfl)))))), fun h => absurd h (by decide)⟩
theorem mwX9_takeSlot : MW (yX9_takeSlot, cX9_takeSlot, 3, none, 9, 2, 0, 0, 1) := ⟨hk5 (List.mem_of_getElem? (i := 150) rfl), hk1 (List.mem_of_getElem? (i := 11) rfl), fun h => absurd h (by decide), fun _ => hk5 (List.mem_of_getElem? (i := 149) rfl), fun _ => @hps (_, 55) (List.mem_append_right _ (List.mem_append_right _ (List.mem_append_right _ (List.mem_append_right _ (List.mem_append_left _ (List.mem_of_getElem? (i := 9) rfl)))))), fun h => absurd h (by decide)⟩
theorem mwX9_comesToTree : MW (yX9_comesToTree, cX9_comesToTree, 5, none, 9, 2, 3, 67, 1) := ⟨hk5 (List.mem_of_getElem? (i := 114) rfl), hk1 (List.mem_of_getElem? (i := 11) rfl), fun h => absurd h (by decide), fun _ => hk5 (List.mem_of_getElem? (i := 113) rfl), fun _ => @hps (_, 55) (List.mem_append_right _ (List.mem_append_right _ (List.mem_append_right _ (List.mem_append_right _ (List.mem_append_left _ (List.mem_of_getElem? (i := 0) rfl)))))), fun h => absurd h (by decide)⟩
theorem mwX9_takeOut : MW (yX9_takeOut, cX9_takeOut, 5, none, 9, 4, 1, 23, 1) := ⟨hk5 (List.mem_of_getElem? (i := 158) rfl), hk1 (List.mem_of_getElem? (i := 11) rfl), fun h => absurd h (by decide), fun _ => hk5 (List.mem_of_getElem? (i := 157) rfl), fun _ => @hps (_, 55) (List.mem_append_right _ (List.mem_append_right _ (List.mem_append_right _ (List.mem_append_right _ (List.mem_append_left _ (List.mem_of_getElem? (i := 11) rfl)))))), fun h => absurd h (by decide)⟩
theorem mwX9_goesFromTree : MW (yX9_goesFromTree, cX9_goesFromTree, 6, none, 9, 2, 4, 98, 1) := ⟨hk5 (List.mem_of_getElem? (i := 154) rfl), hk1 (List.mem_of_getElem? (i := 11) rfl), fun h => absurd h (by decide), fun _ => hk5 (List.mem_of_getElem? (i := 153) rfl), fun _ => @hps (_, 55) (List.mem_append_right _ (List.mem_append_right _ (List.mem_append_right _ (List.mem_append_right _ (List.mem_append_left _ (List.mem_of_getElem? (i := 10) rfl)))))), fun h => absurd h (by decide)⟩
theorem mwX9_settle : MW (yX9_settle, cX9_settle, 6, none, 9, 1, 3, 73, 1) := ⟨hk5 (List.mem_of_getElem? (i := 162) rfl), hk1 (List.mem_of_getElem? (i := 11) rfl), fun h => absurd h (by decide), fun _ => hk5 (List.mem_of_getElem? (i := 161) rfl), fun _ => @hps (_, 55) (List.mem_append_right _ (List.mem_append_right _ (List.mem_append_right _ (List.mem_append_right _ (List.mem_append_left _ (List.mem_of_getElem? (i := 12) rfl)))))), fun h => absurd h (by decide)⟩
theorem mwX9_join : MW (yX9_join, cX9_join, 7, none, 9, 5, 2, 47, 1) := ⟨hk5 (List.mem_of_getElem? (i := 166) rfl), hk1 (List.mem_of_getElem? (i := 11) rfl), fun h => absurd h (by decide), fun _ => hk5 (List.mem_of_getElem? (i := 165) rfl), fun _ => @hps (_, 55) (List.mem_append_right _ (List.mem_append_right _ (List.mem_append_right _ (List.mem_append_right _ (List.mem_append_left _ (List.mem_of_getElem? (i := 13) rfl)))))), fun h => absurd h (by decide)⟩
theorem mwX9_goThrough : MW (yX9_goThrough, cX9_goThrough, 4, none, 9, 2, 1, 21, 1) := ⟨hk6 (List.mem_of_getElem? (i := 21) rfl), hk1 (List.mem_of_getElem? (i := 11) rfl), fun h => absurd h (by decide), fun _ => hk6 (List.mem_of_getElem? (i := 20) rfl), fun _ => @hps (_, 55) (List.mem_append_right _ (List.mem_append_right _ (List.mem_append_right _ (List.mem_append_right _ (List.mem_append_right _ (List.mem_append_left _ (List.mem_of_getElem? (i := 10) rfl))))))), fun h => absurd h (by decide)⟩
theorem mwX9_heightOf : MW (yX9_heightOf, cX9_heightOf, 4, (some .int), 9, 2, 1, 21, 1) := ⟨hk6 (List.mem_of_getElem? (i := 25) rfl), hk1 (List.mem_of_getElem? (i := 11) rfl), fun h => absurd h (by decide), fun _ => hk6 (List.mem_of_getElem? (i := 24) rfl), fun _ => @hps (_, 55) (List.mem_append_right _ (List.mem_append_right _ (List.mem_append_right _ (List.mem_append_right _ (List.mem_append_right _ (List.mem_append_left _ (List.mem_of_getElem? (i := 11) rfl))))))), fun h => absurd h (by decide)⟩
theorem mwX9_nodesOf : MW (yX9_nodesOf, cX9_nodesOf, 4, (some .int), 9, 2, 0, 0, 1) := ⟨hk6 (List.mem_of_getElem? (i := 29) rfl), hk1 (List.mem_of_getElem? (i := 11) rfl), fun h => absurd h (by decide), fun _ => hk6 (List.mem_of_getElem? (i := 28) rfl), fun _ => @hps (_, 55) (List.mem_append_right _ (List.mem_append_right _ (List.mem_append_right _ (List.mem_append_right _ (List.mem_append_right _ (List.mem_append_left _ (List.mem_of_getElem? (i := 12) rfl))))))), fun h => absurd h (by decide)⟩
theorem mwX9_fail : MW (yX9_fail, cX9_fail, 3, none, 9, 3, 2, 45, 1) := ⟨hk5 (List.mem_of_getElem? (i := 170) rfl), hk1 (List.mem_of_getElem? (i := 11) rfl), fun h => absurd h (by decide), fun _ => hk5 (List.mem_of_getElem? (i := 169) rfl), fun _ => @hps (_, 55) (List.mem_append_right _ (List.mem_append_right _ (List.mem_append_right _ (List.mem_append_right _ (List.mem_append_left _ (List.mem_of_getElem? (i := 14) rfl)))))), fun h => absurd h (by decide)⟩
theorem mwX9_note : MW (yX9_note, cX9_note, 5, none, 9, 3, 5, 123, 1) := ⟨hk5 (List.mem_of_getElem? (i := 110) rfl), hk1 (List.mem_of_getElem? (i := 11) rfl), fun h => absurd h (by decide), fun _ => hk5 (List.mem_of_getElem? (i := 109) rfl), fun _ => @hps (_, 55) (List.mem_append_right _ (List.mem_append_right _ (List.mem_append_right _ (List.mem_append_left _ (List.mem_of_getElem? (i := 15) rfl))))), fun h => absurd h (by decide)⟩
theorem mwX9_keepBefore : MW (yX9_keepBefore, cX9_keepBefore, 3, none, 9, 2, 0, 0, 1) := ⟨hk5 (List.mem_of_getElem? (i := 70) rfl), hk1 (List.mem_of_getElem? (i := 11) rfl), fun h => absurd h (by decide), fun _ => hk5 (List.mem_of_getElem? (i := 69) rfl), fun _ => @hps (_, 55) (List.mem_append_right _ (List.mem_append_right _ (List.mem_append_right _ (List.mem_append_left _ (List.mem_of_getElem? (i := 5) rfl))))), fun h => absurd h (by decide)⟩
theorem mwX9_sameKey : MW (yX9_sameKey, cX9_sameKey, 9, (some .boolean), 9, 6, 0, 0, 1) := ⟨hk5 (List.mem_of_getElem? (i := 94) rfl), hk1 (List.mem_of_getElem? (i := 11) rfl), fun h => absurd h (by decide), fun _ => hk5 (List.mem_of_getElem? (i := 93) rfl), fun _ => @hps (_, 55) (List.mem_append_right _ (List.mem_append_right _ (List.mem_append_right _ (List.mem_append_left _ (List.mem_of_getElem? (i := 11) rfl))))), fun h => absurd h (by decide)⟩
theorem mwX9_hadKey : MW (yX9_hadKey, cX9_hadKey, 4, (some .boolean), 9, 4, 1, 28, 1) := ⟨hk5 (List.mem_of_getElem? (i := 102) rfl), hk1 (List.mem_of_getElem? (i := 11) rfl), fun h => absurd h (by decide), fun _ => hk5 (List.mem_of_getElem? (i := 101) rfl), fun _ => @hps (_, 55) (List.mem_append_right _ (List.mem_append_right _ (List.mem_append_right _ (List.mem_append_left _ (List.mem_of_getElem? (i := 13) rfl))))), fun h => absurd h (by decide)⟩
theorem mwX9_hasKey : MW (yX9_hasKey, cX9_hasKey, 5, (some .boolean), 9, 5, 1, 28, 1) := ⟨hk5 (List.mem_of_getElem? (i := 178) rfl), hk1 (List.mem_of_getElem? (i := 11) rfl), fun h => absurd h (by decide), fun _ => hk5 (List.mem_of_getElem? (i := 177) rfl), fun _ => @hps (_, 55) (List.mem_append_right _ (List.mem_append_right _ (List.mem_append_right _ (List.mem_append_right _ (List.mem_append_right _ (List.mem_append_left _ (List.mem_of_getElem? (i := 0) rfl))))))), fun h => absurd h (by decide)⟩
theorem mwX9_changed : MW (yX9_changed, cX9_changed, 3, none, 9, 2, 6, 147, 1) := ⟨hk5 (List.mem_of_getElem? (i := 98) rfl), hk1 (List.mem_of_getElem? (i := 11) rfl), fun h => absurd h (by decide), fun _ => hk5 (List.mem_of_getElem? (i := 97) rfl), fun _ => @hps (_, 55) (List.mem_append_right _ (List.mem_append_right _ (List.mem_append_right _ (List.mem_append_left _ (List.mem_of_getElem? (i := 12) rfl))))), fun h => absurd h (by decide)⟩
theorem mwX9_sharesKey : MW (yX9_sharesKey, cX9_sharesKey, 7, (some .boolean), 9, 6, 1, 28, 1) := ⟨hk5 (List.mem_of_getElem? (i := 90) rfl), hk1 (List.mem_of_getElem? (i := 11) rfl), fun h => absurd h (by decide), fun _ => hk5 (List.mem_of_getElem? (i := 89) rfl), fun _ => @hps (_, 55) (List.mem_append_right _ (List.mem_append_right _ (List.mem_append_right _ (List.mem_append_left _ (List.mem_of_getElem? (i := 10) rfl))))), fun h => absurd h (by decide)⟩
theorem mwX9_clash : MW (yX9_clash, cX9_clash, 5, (some .boolean), 9, 4, 2, 54, 1) := ⟨hk5 (List.mem_of_getElem? (i := 86) rfl), hk1 (List.mem_of_getElem? (i := 11) rfl), fun h => absurd h (by decide), fun _ => hk5 (List.mem_of_getElem? (i := 85) rfl), fun _ => @hps (_, 55) (List.mem_append_right _ (List.mem_append_right _ (List.mem_append_right _ (List.mem_append_left _ (List.mem_of_getElem? (i := 9) rfl))))), fun h => absurd h (by decide)⟩
theorem mwX9_clashOf : MW (yX9_clashOf, cX9_clashOf, 4, (some .int), 9, 3, 3, 78, 1) := ⟨hk5 (List.mem_of_getElem? (i := 82) rfl), hk1 (List.mem_of_getElem? (i := 11) rfl), fun h => absurd h (by decide), fun _ => hk5 (List.mem_of_getElem? (i := 81) rfl), fun _ => @hps (_, 55) (List.mem_append_right _ (List.mem_append_right _ (List.mem_append_right _ (List.mem_append_left _ (List.mem_of_getElem? (i := 8) rfl))))), fun h => absurd h (by decide)⟩
theorem mwX9_begin : MW (yX9_begin, cX9_begin, 2, (some .int), 9, 1, 0, 0, 1) := ⟨hk5 (List.mem_of_getElem? (i := 47) rfl), hk1 (List.mem_of_getElem? (i := 11) rfl), fun h => absurd h (by decide), fun _ => hk5 (List.mem_of_getElem? (i := 45) rfl), fun _ => hk5 (List.mem_of_getElem? (i := 46) rfl), fun h => absurd h (by decide)⟩
theorem mwX9_write : MW (yX9_write, cX9_write, 8, (some .int), 9, 4, 7, 169, 1) := ⟨hk5 (List.mem_of_getElem? (i := 66) rfl), hk1 (List.mem_of_getElem? (i := 11) rfl), fun h => absurd h (by decide), fun _ => hk5 (List.mem_of_getElem? (i := 65) rfl), fun _ => @hps (_, 55) (List.mem_append_right _ (List.mem_append_right _ (List.mem_append_right _ (List.mem_append_left _ (List.mem_of_getElem? (i := 4) rfl))))), fun h => absurd h (by decide)⟩
theorem mwX9_insert : MW (yX9_insert, cX9_insert, 8, (some .int), 9, 6, 8, 196, 1) := ⟨hk5 (List.mem_of_getElem? (i := 51) rfl), hk1 (List.mem_of_getElem? (i := 11) rfl), fun h => absurd h (by decide), fun _ => hk5 (List.mem_of_getElem? (i := 49) rfl), fun _ => hk5 (List.mem_of_getElem? (i := 50) rfl), fun h => absurd h (by decide)⟩
theorem mwX9_isLocked : MW (yX9_isLocked, cX9_isLocked, 3, (some .boolean), 9, 3, 2, 42, 1) := ⟨hk5 (List.mem_of_getElem? (i := 186) rfl), hk1 (List.mem_of_getElem? (i := 11) rfl), fun h => absurd h (by decide), fun _ => hk5 (List.mem_of_getElem? (i := 185) rfl), fun _ => @hps (_, 55) (List.mem_append_right _ (List.mem_append_right _ (List.mem_append_right _ (List.mem_append_right _ (List.mem_append_right _ (List.mem_append_left _ (List.mem_of_getElem? (i := 1) rfl))))))), fun h => absurd h (by decide)⟩
theorem mwX9_update : MW (yX9_update, cX9_update, 6, (some .int), 9, 5, 8, 196, 1) := ⟨hk5 (List.mem_of_getElem? (i := 182) rfl), hk1 (List.mem_of_getElem? (i := 11) rfl), fun h => absurd h (by decide), fun _ => hk5 (List.mem_of_getElem? (i := 180) rfl), fun _ => hk5 (List.mem_of_getElem? (i := 181) rfl), fun h => absurd h (by decide)⟩
theorem mwX9_remove : MW (yX9_remove, cX9_remove, 3, (some .int), 9, 3, 8, 196, 1) := ⟨hk5 (List.mem_of_getElem? (i := 193) rfl), hk1 (List.mem_of_getElem? (i := 11) rfl), fun h => absurd h (by decide), fun _ => hk5 (List.mem_of_getElem? (i := 191) rfl), fun _ => hk5 (List.mem_of_getElem? (i := 192) rfl), fun h => absurd h (by decide)⟩
theorem mwX9_records : MW (yX9_records, cX9_records, 2, (some .int), 9, 2, 2, 43, 1) := ⟨hk5 (List.mem_of_getElem? (i := 197) rfl), hk1 (List.mem_of_getElem? (i := 11) rfl), fun h => absurd h (by decide), fun _ => hk5 (List.mem_of_getElem? (i := 195) rfl), fun _ => hk5 (List.mem_of_getElem? (i := 196) rfl), fun h => absurd h (by decide)⟩
theorem mwX9_undoOne : MW (yX9_undoOne, cX9_undoOne, 5, none, 9, 2, 7, 169, 1) := ⟨hk5 (List.mem_of_getElem? (i := 213) rfl), hk1 (List.mem_of_getElem? (i := 11) rfl), fun h => absurd h (by decide), fun _ => hk5 (List.mem_of_getElem? (i := 212) rfl), fun _ => @hps (_, 55) (List.mem_append_right _ (List.mem_append_right _ (List.mem_append_right _ (List.mem_append_right _ (List.mem_append_right _ (List.mem_append_left _ (List.mem_of_getElem? (i := 4) rfl))))))), fun h => absurd h (by decide)⟩
theorem mwX9_undo : MW (yX9_undo, cX9_undo, 3, (some .int), 9, 3, 9, 216, 1) := ⟨hk5 (List.mem_of_getElem? (i := 201) rfl), hk1 (List.mem_of_getElem? (i := 11) rfl), fun h => absurd h (by decide), fun _ => hk5 (List.mem_of_getElem? (i := 199) rfl), fun _ => hk5 (List.mem_of_getElem? (i := 200) rfl), fun h => absurd h (by decide)⟩
theorem mwX9_undoTo : MW (yX9_undoTo, cX9_undoTo, 4, (some .int), 9, 3, 8, 193, 1) := ⟨hk5 (List.mem_of_getElem? (i := 209) rfl), hk1 (List.mem_of_getElem? (i := 11) rfl), fun h => absurd h (by decide), fun _ => hk5 (List.mem_of_getElem? (i := 208) rfl), fun _ => @hps (_, 55) (List.mem_append_right _ (List.mem_append_right _ (List.mem_append_right _ (List.mem_append_right _ (List.mem_append_right _ (List.mem_append_left _ (List.mem_of_getElem? (i := 3) rfl))))))), fun h => absurd h (by decide)⟩
theorem mwX9_wouldClash : MW (yX9_wouldClash, cX9_wouldClash, 7, (some .boolean), 9, 3, 4, 101, 1) := ⟨hk5 (List.mem_of_getElem? (i := 205) rfl), hk1 (List.mem_of_getElem? (i := 11) rfl), fun h => absurd h (by decide), fun _ => hk5 (List.mem_of_getElem? (i := 204) rfl), fun _ => @hps (_, 55) (List.mem_append_right _ (List.mem_append_right _ (List.mem_append_right _ (List.mem_append_right _ (List.mem_append_right _ (List.mem_append_left _ (List.mem_of_getElem? (i := 2) rfl))))))), fun h => absurd h (by decide)⟩
theorem mwX9_commit : MW (yX9_commit, cX9_commit, 5, (some .int), 9, 2, 7, 169, 1) := ⟨hk5 (List.mem_of_getElem? (i := 217) rfl), hk1 (List.mem_of_getElem? (i := 11) rfl), fun h => absurd h (by decide), fun _ => hk5 (List.mem_of_getElem? (i := 215) rfl), fun _ => hk5 (List.mem_of_getElem? (i := 216) rfl), fun h => absurd h (by decide)⟩
theorem mwX9_abort : MW (yX9_abort, cX9_abort, 3, (some .int), 9, 2, 9, 216, 1) := ⟨hk5 (List.mem_of_getElem? (i := 221) rfl), hk1 (List.mem_of_getElem? (i := 11) rfl), fun h => absurd h (by decide), fun _ => hk5 (List.mem_of_getElem? (i := 219) rfl), fun _ => hk5 (List.mem_of_getElem? (i := 220) rfl), fun h => absurd h (by decide)⟩
theorem mwX9_index : MW (yX9_index, cX9_index, 7, (some .int), 9, 5, 2, 45, 1) := ⟨hk5 (List.mem_of_getElem? (i := 225) rfl), hk1 (List.mem_of_getElem? (i := 11) rfl), fun h => absurd h (by decide), fun _ => hk5 (List.mem_of_getElem? (i := 223) rfl), fun _ => hk5 (List.mem_of_getElem? (i := 224) rfl), fun h => absurd h (by decide)⟩
theorem mwX9_drop : MW (yX9_drop, cX9_drop, 2, (some .int), 9, 2, 2, 43, 1) := ⟨hk5 (List.mem_of_getElem? (i := 229) rfl), hk1 (List.mem_of_getElem? (i := 11) rfl), fun h => absurd h (by decide), fun _ => hk5 (List.mem_of_getElem? (i := 227) rfl), fun _ => hk5 (List.mem_of_getElem? (i := 228) rfl), fun h => absurd h (by decide)⟩
theorem mwX9_pick : MW (yX9_pick, cX9_pick, 4, none, 9, 2, 1, 22, 1) := ⟨hk6 (List.mem_of_getElem? (i := 1) rfl), hk1 (List.mem_of_getElem? (i := 11) rfl), fun h => absurd h (by decide), fun _ => hk6 (List.mem_of_getElem? (i := 0) rfl), fun _ => @hps (_, 55) (List.mem_append_right _ (List.mem_append_right _ (List.mem_append_right _ (List.mem_append_right _ (List.mem_append_right _ (List.mem_append_left _ (List.mem_of_getElem? (i := 6) rfl))))))), fun h => absurd h (by decide)⟩
theorem mwX9_isBefore : MW (yX9_isBefore, cX9_isBefore, 3, (some .boolean), 9, 2, 0, 0, 1) := ⟨hk6 (List.mem_of_getElem? (i := 5) rfl), hk1 (List.mem_of_getElem? (i := 11) rfl), fun h => absurd h (by decide), fun _ => hk6 (List.mem_of_getElem? (i := 4) rfl), fun _ => @hps (_, 55) (List.mem_append_right _ (List.mem_append_right _ (List.mem_append_right _ (List.mem_append_right _ (List.mem_append_right _ (List.mem_append_left _ (List.mem_of_getElem? (i := 7) rfl))))))), fun h => absurd h (by decide)⟩
theorem mwX9_scanStep : MW (yX9_scanStep, cX9_scanStep, 3, none, 9, 2, 2, 45, 1) := ⟨hk5 (List.mem_of_getElem? (i := 237) rfl), hk1 (List.mem_of_getElem? (i := 11) rfl), fun h => absurd h (by decide), fun _ => hk5 (List.mem_of_getElem? (i := 236) rfl), fun _ => @hps (_, 55) (List.mem_append_right _ (List.mem_append_right _ (List.mem_append_right _ (List.mem_append_right _ (List.mem_append_right _ (List.mem_append_left _ (List.mem_of_getElem? (i := 5) rfl))))))), fun h => absurd h (by decide)⟩
theorem mwX9_loadStep : MW (yX9_loadStep, cX9_loadStep, 5, none, 9, 2, 4, 91, 1) := ⟨hk6 (List.mem_of_getElem? (i := 9) rfl), hk1 (List.mem_of_getElem? (i := 11) rfl), fun h => absurd h (by decide), fun _ => hk6 (List.mem_of_getElem? (i := 8) rfl), fun _ => @hps (_, 55) (List.mem_append_right _ (List.mem_append_right _ (List.mem_append_right _ (List.mem_append_right _ (List.mem_append_right _ (List.mem_append_left _ (List.mem_of_getElem? (i := 8) rfl))))))), fun h => absurd h (by decide)⟩
theorem mwX9_catchStep : MW (yX9_catchStep, cX9_catchStep, 6, none, 9, 2, 5, 123, 1) := ⟨hk6 (List.mem_of_getElem? (i := 13) rfl), hk1 (List.mem_of_getElem? (i := 11) rfl), fun h => absurd h (by decide), fun _ => hk6 (List.mem_of_getElem? (i := 12) rfl), fun _ => @hps (_, 55) (List.mem_append_right _ (List.mem_append_right _ (List.mem_append_right _ (List.mem_append_right _ (List.mem_append_right _ (List.mem_append_left _ (List.mem_of_getElem? (i := 9) rfl))))))), fun h => absurd h (by decide)⟩
theorem mwX9_step : MW (yX9_step, cX9_step, 4, (some .int), 9, 3, 6, 148, 1) := ⟨hk5 (List.mem_of_getElem? (i := 233) rfl), hk1 (List.mem_of_getElem? (i := 11) rfl), fun h => absurd h (by decide), fun _ => hk5 (List.mem_of_getElem? (i := 231) rfl), fun _ => hk5 (List.mem_of_getElem? (i := 232) rfl), fun h => absurd h (by decide)⟩
theorem mwX9_info : MW (yX9_info, cX9_info, 3, (some .int), 9, 3, 2, 44, 1) := ⟨hk6 (List.mem_of_getElem? (i := 17) rfl), hk1 (List.mem_of_getElem? (i := 11) rfl), fun h => absurd h (by decide), fun _ => hk6 (List.mem_of_getElem? (i := 15) rfl), fun _ => hk6 (List.mem_of_getElem? (i := 16) rfl), fun h => absurd h (by decide)⟩
theorem mwX9_entry : MW (yX9_entry, cX9_entry, 4, (some .int), 9, 4, 2, 44, 1) := ⟨hk6 (List.mem_of_getElem? (i := 33) rfl), hk1 (List.mem_of_getElem? (i := 11) rfl), fun h => absurd h (by decide), fun _ => hk6 (List.mem_of_getElem? (i := 31) rfl), fun _ => hk6 (List.mem_of_getElem? (i := 32) rfl), fun h => absurd h (by decide)⟩
theorem mwX9_where : MW (yX9_where, cX9_where, 4, (some .int), 9, 4, 1, 22, 1) := ⟨hk6 (List.mem_of_getElem? (i := 37) rfl), hk1 (List.mem_of_getElem? (i := 11) rfl), fun h => absurd h (by decide), fun _ => hk6 (List.mem_of_getElem? (i := 35) rfl), fun _ => hk6 (List.mem_of_getElem? (i := 36) rfl), fun h => absurd h (by decide)⟩
theorem mwX9_seesAny : MW (yX9_seesAny, cX9_seesAny, 3, (some .boolean), 9, 3, 0, 0, 1) := ⟨hk6 (List.mem_of_getElem? (i := 65) rfl), hk1 (List.mem_of_getElem? (i := 11) rfl), fun h => absurd h (by decide), fun _ => hk6 (List.mem_of_getElem? (i := 64) rfl), fun _ => @hps (_, 55) (List.mem_append_right _ (List.mem_append_right _ (List.mem_append_right _ (List.mem_append_right _ (List.mem_append_right _ (List.mem_append_right _ (List.mem_of_getElem? (i := 2) rfl))))))), fun h => absurd h (by decide)⟩
theorem mwX9_seen : MW (yX9_seen, cX9_seen, 4, (some .int), 9, 4, 0, 0, 1) := ⟨hk6 (List.mem_of_getElem? (i := 69) rfl), hk1 (List.mem_of_getElem? (i := 11) rfl), fun h => absurd h (by decide), fun _ => hk6 (List.mem_of_getElem? (i := 68) rfl), fun _ => @hps (_, 55) (List.mem_append_right _ (List.mem_append_right _ (List.mem_append_right _ (List.mem_append_right _ (List.mem_append_right _ (List.mem_append_right _ (List.mem_of_getElem? (i := 3) rfl))))))), fun h => absurd h (by decide)⟩
theorem mwX9_fits : MW (yX9_fits, cX9_fits, 5, (some .boolean), 9, 3, 1, 23, 1) := ⟨hk6 (List.mem_of_getElem? (i := 61) rfl), hk1 (List.mem_of_getElem? (i := 11) rfl), fun h => absurd h (by decide), fun _ => hk6 (List.mem_of_getElem? (i := 60) rfl), fun _ => @hps (_, 55) (List.mem_append_right _ (List.mem_append_right _ (List.mem_append_right _ (List.mem_append_right _ (List.mem_append_right _ (List.mem_append_right _ (List.mem_of_getElem? (i := 1) rfl))))))), fun h => absurd h (by decide)⟩
theorem mwX9_isInRange : MW (yX9_isInRange, cX9_isInRange, 6, (some .boolean), 9, 3, 1, 22, 1) := ⟨hk6 (List.mem_of_getElem? (i := 57) rfl), hk1 (List.mem_of_getElem? (i := 11) rfl), fun h => absurd h (by decide), fun _ => hk6 (List.mem_of_getElem? (i := 56) rfl), fun _ => @hps (_, 55) (List.mem_append_right _ (List.mem_append_right _ (List.mem_append_right _ (List.mem_append_right _ (List.mem_append_right _ (List.mem_append_right _ (List.mem_of_getElem? (i := 0) rfl))))))), fun h => absurd h (by decide)⟩
theorem mwX9_rangeOf : MW (yX9_rangeOf, cX9_rangeOf, 4, (some .int), 9, 2, 2, 47, 1) := ⟨hk6 (List.mem_of_getElem? (i := 53) rfl), hk1 (List.mem_of_getElem? (i := 11) rfl), fun h => absurd h (by decide), fun _ => hk6 (List.mem_of_getElem? (i := 52) rfl), fun _ => @hps (_, 55) (List.mem_append_right _ (List.mem_append_right _ (List.mem_append_right _ (List.mem_append_right _ (List.mem_append_right _ (List.mem_append_left _ (List.mem_of_getElem? (i := 15) rfl))))))), fun h => absurd h (by decide)⟩
theorem mwX9_costOf : MW (yX9_costOf, cX9_costOf, 6, (some .int), 9, 2, 3, 70, 1) := ⟨hk6 (List.mem_of_getElem? (i := 49) rfl), hk1 (List.mem_of_getElem? (i := 11) rfl), fun h => absurd h (by decide), fun _ => hk6 (List.mem_of_getElem? (i := 48) rfl), fun _ => @hps (_, 55) (List.mem_append_right _ (List.mem_append_right _ (List.mem_append_right _ (List.mem_append_right _ (List.mem_append_right _ (List.mem_append_left _ (List.mem_of_getElem? (i := 14) rfl))))))), fun h => absurd h (by decide)⟩
theorem mwX9_hasSeenKey : MW (yX9_hasSeenKey, cX9_hasSeenKey, 7, (some .boolean), 9, 4, 1, 23, 1) := ⟨hk6 (List.mem_of_getElem? (i := 73) rfl), hk1 (List.mem_of_getElem? (i := 11) rfl), fun h => absurd h (by decide), fun _ => hk6 (List.mem_of_getElem? (i := 72) rfl), fun _ => @hps (_, 55) (List.mem_append_right _ (List.mem_append_right _ (List.mem_append_right _ (List.mem_append_right _ (List.mem_append_right _ (List.mem_append_right _ (List.mem_of_getElem? (i := 4) rfl))))))), fun h => absurd h (by decide)⟩
theorem mwX9_isSeer : MW (yX9_isSeer, cX9_isSeer, 2, (some .boolean), 9, 2, 2, 43, 1) := ⟨hk6 (List.mem_of_getElem? (i := 45) rfl), hk1 (List.mem_of_getElem? (i := 11) rfl), fun h => absurd h (by decide), fun _ => hk6 (List.mem_of_getElem? (i := 44) rfl), fun _ => @hps (_, 55) (List.mem_append_right _ (List.mem_append_right _ (List.mem_append_right _ (List.mem_append_right _ (List.mem_append_right _ (List.mem_append_left _ (List.mem_of_getElem? (i := 13) rfl))))))), fun h => absurd h (by decide)⟩
theorem mwX9_ask : MW (yX9_ask, cX9_ask, 7, (some .int), 9, 3, 4, 95, 1) := ⟨hk6 (List.mem_of_getElem? (i := 41) rfl), hk1 (List.mem_of_getElem? (i := 11) rfl), fun h => absurd h (by decide), fun _ => hk6 (List.mem_of_getElem? (i := 39) rfl), fun _ => hk6 (List.mem_of_getElem? (i := 40) rfl), fun h => absurd h (by decide)⟩
theorem mwX9_answer : MW (yX9_answer, cX9_answer, 2, (some .int), 9, 2, 1, 22, 1) := ⟨hk6 (List.mem_of_getElem? (i := 77) rfl), hk1 (List.mem_of_getElem? (i := 11) rfl), fun h => absurd h (by decide), fun _ => hk6 (List.mem_of_getElem? (i := 75) rfl), fun _ => hk6 (List.mem_of_getElem? (i := 76) rfl), fun h => absurd h (by decide)⟩
theorem mwX9_asked : MW (yX9_asked, cX9_asked, 2, (some .int), 9, 2, 0, 0, 1) := ⟨hk6 (List.mem_of_getElem? (i := 81) rfl), hk1 (List.mem_of_getElem? (i := 11) rfl), fun h => absurd h (by decide), fun _ => hk6 (List.mem_of_getElem? (i := 79) rfl), fun _ => hk6 (List.mem_of_getElem? (i := 80) rfl), fun h => absurd h (by decide)⟩
theorem mwX9_cost : MW (yX9_cost, cX9_cost, 2, (some .int), 9, 2, 4, 95, 1) := ⟨hk6 (List.mem_of_getElem? (i := 85) rfl), hk1 (List.mem_of_getElem? (i := 11) rfl), fun h => absurd h (by decide), fun _ => hk6 (List.mem_of_getElem? (i := 83) rfl), fun _ => hk6 (List.mem_of_getElem? (i := 84) rfl), fun h => absurd h (by decide)⟩
theorem mwX9_sees : MW (yX9_sees, cX9_sees, 3, (some .int), 9, 3, 3, 64, 1) := ⟨hk6 (List.mem_of_getElem? (i := 89) rfl), hk1 (List.mem_of_getElem? (i := 11) rfl), fun h => absurd h (by decide), fun _ => hk6 (List.mem_of_getElem? (i := 87) rfl), fun _ => hk6 (List.mem_of_getElem? (i := 88) rfl), fun h => absurd h (by decide)⟩
theorem mwX9_field : MW (yX9_field, cX9_field, 4, (some .int), 9, 4, 3, 64, 1) := ⟨hk6 (List.mem_of_getElem? (i := 93) rfl), hk1 (List.mem_of_getElem? (i := 11) rfl), fun h => absurd h (by decide), fun _ => hk6 (List.mem_of_getElem? (i := 91) rfl), fun _ => hk6 (List.mem_of_getElem? (i := 92) rfl), fun h => absurd h (by decide)⟩
theorem mwX9_writer : MW (yX9_writer, cX9_writer, 2, (some .int), 9, 2, 2, 42, 1) := ⟨hk6 (List.mem_of_getElem? (i := 97) rfl), hk1 (List.mem_of_getElem? (i := 11) rfl), fun h => absurd h (by decide), fun _ => hk6 (List.mem_of_getElem? (i := 95) rfl), fun _ => hk6 (List.mem_of_getElem? (i := 96) rfl), fun h => absurd h (by decide)⟩
theorem mwX9_count : MW (yX9_count, cX9_count, 4, (some .int), 9, 2, 3, 64, 1) := ⟨hk6 (List.mem_of_getElem? (i := 101) rfl), hk1 (List.mem_of_getElem? (i := 11) rfl), fun h => absurd h (by decide), fun _ => hk6 (List.mem_of_getElem? (i := 99) rfl), fun _ => hk6 (List.mem_of_getElem? (i := 100) rfl), fun h => absurd h (by decide)⟩
theorem mwX9_entriesOf : MW (yX9_entriesOf, cX9_entriesOf, 5, (some .int), 9, 2, 1, 28, 1) := ⟨hk6 (List.mem_of_getElem? (i := 109) rfl), hk1 (List.mem_of_getElem? (i := 11) rfl), fun h => absurd h (by decide), fun _ => hk6 (List.mem_of_getElem? (i := 108) rfl), fun _ => @hps (_, 55) (List.mem_append_right _ (List.mem_append_right _ (List.mem_append_right _ (List.mem_append_right _ (List.mem_append_right _ (List.mem_append_right _ (List.mem_of_getElem? (i := 5) rfl))))))), fun h => absurd h (by decide)⟩
theorem mwX9_audit : MW (yX9_audit, cX9_audit, 5, (some .int), 9, 1, 4, 101, 1) := ⟨hk6 (List.mem_of_getElem? (i := 105) rfl), hk1 (List.mem_of_getElem? (i := 11) rfl), fun h => absurd h (by decide), fun _ => hk6 (List.mem_of_getElem? (i := 103) rfl), fun _ => hk6 (List.mem_of_getElem? (i := 104) rfl), fun h => absurd h (by decide)⟩
theorem mwJ7_fill_53178 : MW (yJ7_fill_53178, cJ7_fill_53178, 4, none, 12, 2, 0, 0, 0) := ⟨hk1 (List.mem_of_getElem? (i := 41) rfl), hk1 (List.mem_of_getElem? (i := 4) rfl), fun _ => hk1 (List.mem_of_getElem? (i := 40) rfl), fun h => absurd h (by decide), fun h => absurd h (by decide), fun h => absurd h (by decide)⟩
theorem mw_0 : ∀ q ∈ mT0, MW q := List.forall_mem_cons.mpr ⟨mwX0_init, List.forall_mem_cons.mpr ⟨mwX0_word, List.forall_mem_cons.mpr ⟨mwX0_set, List.forall_mem_cons.mpr ⟨mwX0_copy, List.forall_mem_cons.mpr ⟨mwX0_compare, List.forall_mem_cons.mpr ⟨mwX1_init, List.forall_mem_cons.mpr ⟨mwX1_has, List.forall_mem_cons.mpr ⟨mwX1_valueOf, List.forall_mem_cons.mpr ⟨mwX1_set, List.forall_mem_cons.mpr ⟨mwX1_put, List.forall_mem_cons.mpr ⟨mwX1_clear, List.forall_mem_cons.mpr ⟨mwX1_copy, List.forall_mem_cons.mpr ⟨mwX1_copyAll, List.forall_mem_cons.mpr ⟨mwX2_init, List.forall_mem_cons.mpr ⟨mwX2_start, List.forall_mem_cons.mpr ⟨mwX2_forgetEntries, List.forall_mem_cons.mpr ⟨mwX2_isBuilding, List.forall_mem_cons.mpr ⟨mwX2_isGuard, List.forall_mem_cons.mpr ⟨mwX2_haveOneKey, List.forall_mem_cons.mpr ⟨mwX2_makeEntry, List.forall_mem_cons.mpr ⟨mwX2_hasKeyOf, List.forall_mem_cons.mpr ⟨mwX2_makeComing, List.forall_mem_cons.mpr ⟨mwX2_makeGoing, List.forall_mem_cons.mpr ⟨mwX2_takeMade, List.forall_mem_cons.mpr ⟨mwX2_fail, List.forall_mem_cons.mpr ⟨mwX2_takeStep, List.forall_mem_cons.mpr ⟨mwX2_scanPage, List.forall_mem_cons.mpr ⟨mwX2_loadSome, List.forall_mem_cons.mpr ⟨mwX2_catchUp, List.forall_mem_cons.mpr ⟨mwX2_finish, (fun _ h => absurd h List.not_mem_nil)⟩⟩⟩⟩⟩⟩⟩⟩⟩⟩⟩⟩⟩⟩⟩⟩⟩⟩⟩⟩⟩⟩⟩⟩⟩⟩⟩⟩⟩⟩
theorem mx_0 : ∀ q ∈ mT0, MX q = true := by decide +kernel
theorem mw_1 : ∀ q ∈ mT1, MW q := List.forall_mem_cons.mpr ⟨mwX2_leastWithClash, List.forall_mem_cons.mpr ⟨mwX2_leastClashWith, List.forall_mem_cons.mpr ⟨mwX2_isClash, List.forall_mem_cons.mpr ⟨mwX2_rangeSize, List.forall_mem_cons.mpr ⟨mwX2_isInRange, List.forall_mem_cons.mpr ⟨mwX2_faults, List.forall_mem_cons.mpr ⟨mwX2_missing, List.forall_mem_cons.mpr ⟨mwX3_init, List.forall_mem_cons.mpr ⟨mwX3_clear, List.forall_mem_cons.mpr ⟨mwX3_isFull, List.forall_mem_cons.mpr ⟨mwX3_add, List.forall_mem_cons.mpr ⟨mwX3_firstSlot, List.forall_mem_cons.mpr ⟨mwX3_firstCame, List.forall_mem_cons.mpr ⟨mwX3_takeFirst, List.forall_mem_cons.mpr ⟨mwX4_init, List.forall_mem_cons.mpr ⟨mwX4_clear, List.forall_mem_cons.mpr ⟨mwX4_add, List.forall_mem_cons.mpr ⟨mwX4_slotOf, List.forall_mem_cons.mpr ⟨mwX4_take, List.forall_mem_cons.mpr ⟨mwX5_init, List.forall_mem_cons.mpr ⟨mwX5_copyFrom, List.forall_mem_cons.mpr ⟨mwX5_isFree, List.forall_mem_cons.mpr ⟨mwX5_placesInUse, List.forall_mem_cons.mpr ⟨mwX5_seenBy, List.forall_mem_cons.mpr ⟨mwX6_init, List.forall_mem_cons.mpr ⟨mwX6_isFull, List.forall_mem_cons.mpr ⟨mwX6_add, List.forall_mem_cons.mpr ⟨mwX6_putBack, List.forall_mem_cons.mpr ⟨mwX7_init, List.forall_mem_cons.mpr ⟨mwX7_empty, (fun _ h => absurd h List.not_mem_nil)⟩⟩⟩⟩⟩⟩⟩⟩⟩⟩⟩⟩⟩⟩⟩⟩⟩⟩⟩⟩⟩⟩⟩⟩⟩⟩⟩⟩⟩⟩
theorem mx_1 : ∀ q ∈ mT1, MX q = true := by decide +kernel
theorem mw_2 : ∀ q ∈ mT2, MW q := List.forall_mem_cons.mpr ⟨mwX7_size, List.forall_mem_cons.mpr ⟨mwX7_nodes, List.forall_mem_cons.mpr ⟨mwX7_height, List.forall_mem_cons.mpr ⟨mwX7_wordAt, List.forall_mem_cons.mpr ⟨mwX7_depthAt, List.forall_mem_cons.mpr ⟨mwX7_holds, List.forall_mem_cons.mpr ⟨mwX7_add, List.forall_mem_cons.mpr ⟨mwX7_cut, List.forall_mem_cons.mpr ⟨mwX7_isLowest, List.forall_mem_cons.mpr ⟨mwX7_takeNode, List.forall_mem_cons.mpr ⟨mwX7_giveNode, List.forall_mem_cons.mpr ⟨mwX7_find, List.forall_mem_cons.mpr ⟨mwX7_goToGreatestBelow, List.forall_mem_cons.mpr ⟨mwX7_putInto, List.forall_mem_cons.mpr ⟨mwX7_takeOut, List.forall_mem_cons.mpr ⟨mwX7_splitUpwards, List.forall_mem_cons.mpr ⟨mwX7_halve, List.forall_mem_cons.mpr ⟨mwX7_mendUpwards, List.forall_mem_cons.mpr ⟨mwX7_takeFromLeft, List.forall_mem_cons.mpr ⟨mwX7_takeFromRight, List.forall_mem_cons.mpr ⟨mwX7_joinAround, List.forall_mem_cons.mpr ⟨mwX7_walkAll, List.forall_mem_cons.mpr ⟨mwX7_noteWalked, List.forall_mem_cons.mpr ⟨mwX7_faults, List.forall_mem_cons.mpr ⟨mwX7_nodeFaults, List.forall_mem_cons.mpr ⟨mwX8_init, List.forall_mem_cons.mpr ⟨mwX8_begin, List.forall_mem_cons.mpr ⟨mwX8_insert, List.forall_mem_cons.mpr ⟨mwX8_update, List.forall_mem_cons.mpr ⟨mwX8_remove, (fun _ h => absurd h List.not_mem_nil)⟩⟩⟩⟩⟩⟩⟩⟩⟩⟩⟩⟩⟩⟩⟩⟩⟩⟩⟩⟩⟩⟩⟩⟩⟩⟩⟩⟩⟩⟩
theorem mx_2 : ∀ q ∈ mT2, MX q = true := by decide +kernel
theorem mw_3 : ∀ q ∈ mT3, MW q := List.forall_mem_cons.mpr ⟨mwX8_records, List.forall_mem_cons.mpr ⟨mwX8_undo, List.forall_mem_cons.mpr ⟨mwX8_commit, List.forall_mem_cons.mpr ⟨mwX8_abort, List.forall_mem_cons.mpr ⟨mwX8_isActive, List.forall_mem_cons.mpr ⟨mwX8_isPlace, List.forall_mem_cons.mpr ⟨mwX8_isField, List.forall_mem_cons.mpr ⟨mwX8_isLocked, List.forall_mem_cons.mpr ⟨mwX8_hasRow, List.forall_mem_cons.mpr ⟨mwX8_leastFreePlace, List.forall_mem_cons.mpr ⟨mwX8_write, List.forall_mem_cons.mpr ⟨mwX8_undoTo, List.forall_mem_cons.mpr ⟨mwX8_tellIndexes, List.forall_mem_cons.mpr ⟨mwX8_wouldClash, List.forall_mem_cons.mpr ⟨mwX8_undoWouldClash, List.forall_mem_cons.mpr ⟨mwX8_hasGuard, List.forall_mem_cons.mpr ⟨mwX8_clashesIn, List.forall_mem_cons.mpr ⟨mwX8_index, List.forall_mem_cons.mpr ⟨mwX8_drop, List.forall_mem_cons.mpr ⟨mwX8_step, List.forall_mem_cons.mpr ⟨mwX8_info, List.forall_mem_cons.mpr ⟨mwX8_entry, List.forall_mem_cons.mpr ⟨mwX8_isIndex, List.forall_mem_cons.mpr ⟨mwX8_isKey, List.forall_mem_cons.mpr ⟨mwX8_where, List.forall_mem_cons.mpr ⟨mwX8_ask, List.forall_mem_cons.mpr ⟨mwX8_answer, List.forall_mem_cons.mpr ⟨mwX8_asked, List.forall_mem_cons.mpr ⟨mwX8_cost, List.forall_mem_cons.mpr ⟨mwX8_isReady, (fun _ h => absurd h List.not_mem_nil)⟩⟩⟩⟩⟩⟩⟩⟩⟩⟩⟩⟩⟩⟩⟩⟩⟩⟩⟩⟩⟩⟩⟩⟩⟩⟩⟩⟩⟩⟩
theorem mx_3 : ∀ q ∈ mT3, MX q = true := by decide +kernel
theorem mw_4 : ∀ q ∈ mT4, MW q := List.forall_mem_cons.mpr ⟨mwX8_cheapestWay, List.forall_mem_cons.mpr ⟨mwX8_costOf, List.forall_mem_cons.mpr ⟨mwX8_pagesInUse, List.forall_mem_cons.mpr ⟨mwX8_answerByScan, List.forall_mem_cons.mpr ⟨mwX8_answerByIndex, List.forall_mem_cons.mpr ⟨mwX8_fits, List.forall_mem_cons.mpr ⟨mwX8_tell, List.forall_mem_cons.mpr ⟨mwX8_sees, List.forall_mem_cons.mpr ⟨mwX8_field, List.forall_mem_cons.mpr ⟨mwX8_writer, List.forall_mem_cons.mpr ⟨mwX8_count, List.forall_mem_cons.mpr ⟨mwX8_audit, List.forall_mem_cons.mpr ⟨mwX8_activeTransactions, List.forall_mem_cons.mpr ⟨mwX8_indexesFrom, List.forall_mem_cons.mpr ⟨mwX9_init, List.forall_mem_cons.mpr ⟨mwX9_in, List.forall_mem_cons.mpr ⟨mwX9_isActive, List.forall_mem_cons.mpr ⟨mwX9_isIndex, List.forall_mem_cons.mpr ⟨mwX9_isReady, List.forall_mem_cons.mpr ⟨mwX9_isPlace, List.forall_mem_cons.mpr ⟨mwX9_isFree, List.forall_mem_cons.mpr ⟨mwX9_entryOf, List.forall_mem_cons.mpr ⟨mwX9_compare, List.forall_mem_cons.mpr ⟨mwX9_copySlot, List.forall_mem_cons.mpr ⟨mwX9_fillSlot, List.forall_mem_cons.mpr ⟨mwX9_node, List.forall_mem_cons.mpr ⟨mwX9_emptyTree, List.forall_mem_cons.mpr ⟨mwX9_isLowest, List.forall_mem_cons.mpr ⟨mwX9_slotFor, List.forall_mem_cons.mpr ⟨mwX9_find, (fun _ h => absurd h List.not_mem_nil)⟩⟩⟩⟩⟩⟩⟩⟩⟩⟩⟩⟩⟩⟩⟩⟩⟩⟩⟩⟩⟩⟩⟩⟩⟩⟩⟩⟩⟩⟩
theorem mx_4 : ∀ q ∈ mT4, MX q = true := by decide +kernel
theorem mw_5 : ∀ q ∈ mT5, MW q := List.forall_mem_cons.mpr ⟨mwX9_addAt, List.forall_mem_cons.mpr ⟨mwX9_takeSlot, List.forall_mem_cons.mpr ⟨mwX9_comesToTree, List.forall_mem_cons.mpr ⟨mwX9_takeOut, List.forall_mem_cons.mpr ⟨mwX9_goesFromTree, List.forall_mem_cons.mpr ⟨mwX9_settle, List.forall_mem_cons.mpr ⟨mwX9_join, List.forall_mem_cons.mpr ⟨mwX9_goThrough, List.forall_mem_cons.mpr ⟨mwX9_heightOf, List.forall_mem_cons.mpr ⟨mwX9_nodesOf, List.forall_mem_cons.mpr ⟨mwX9_fail, List.forall_mem_cons.mpr ⟨mwX9_note, List.forall_mem_cons.mpr ⟨mwX9_keepBefore, List.forall_mem_cons.mpr ⟨mwX9_sameKey, List.forall_mem_cons.mpr ⟨mwX9_hadKey, List.forall_mem_cons.mpr ⟨mwX9_hasKey, List.forall_mem_cons.mpr ⟨mwX9_changed, List.forall_mem_cons.mpr ⟨mwX9_sharesKey, List.forall_mem_cons.mpr ⟨mwX9_clash, List.forall_mem_cons.mpr ⟨mwX9_clashOf, List.forall_mem_cons.mpr ⟨mwX9_begin, List.forall_mem_cons.mpr ⟨mwX9_write, List.forall_mem_cons.mpr ⟨mwX9_insert, List.forall_mem_cons.mpr ⟨mwX9_isLocked, List.forall_mem_cons.mpr ⟨mwX9_update, List.forall_mem_cons.mpr ⟨mwX9_remove, List.forall_mem_cons.mpr ⟨mwX9_records, List.forall_mem_cons.mpr ⟨mwX9_undoOne, List.forall_mem_cons.mpr ⟨mwX9_undo, List.forall_mem_cons.mpr ⟨mwX9_undoTo, (fun _ h => absurd h List.not_mem_nil)⟩⟩⟩⟩⟩⟩⟩⟩⟩⟩⟩⟩⟩⟩⟩⟩⟩⟩⟩⟩⟩⟩⟩⟩⟩⟩⟩⟩⟩⟩
theorem mx_5 : ∀ q ∈ mT5, MX q = true := by decide +kernel
theorem mw_6 : ∀ q ∈ mT6, MW q := List.forall_mem_cons.mpr ⟨mwX9_wouldClash, List.forall_mem_cons.mpr ⟨mwX9_commit, List.forall_mem_cons.mpr ⟨mwX9_abort, List.forall_mem_cons.mpr ⟨mwX9_index, List.forall_mem_cons.mpr ⟨mwX9_drop, List.forall_mem_cons.mpr ⟨mwX9_pick, List.forall_mem_cons.mpr ⟨mwX9_isBefore, List.forall_mem_cons.mpr ⟨mwX9_scanStep, List.forall_mem_cons.mpr ⟨mwX9_loadStep, List.forall_mem_cons.mpr ⟨mwX9_catchStep, List.forall_mem_cons.mpr ⟨mwX9_step, List.forall_mem_cons.mpr ⟨mwX9_info, List.forall_mem_cons.mpr ⟨mwX9_entry, List.forall_mem_cons.mpr ⟨mwX9_where, List.forall_mem_cons.mpr ⟨mwX9_seesAny, List.forall_mem_cons.mpr ⟨mwX9_seen, List.forall_mem_cons.mpr ⟨mwX9_fits, List.forall_mem_cons.mpr ⟨mwX9_isInRange, List.forall_mem_cons.mpr ⟨mwX9_rangeOf, List.forall_mem_cons.mpr ⟨mwX9_costOf, List.forall_mem_cons.mpr ⟨mwX9_hasSeenKey, List.forall_mem_cons.mpr ⟨mwX9_isSeer, List.forall_mem_cons.mpr ⟨mwX9_ask, List.forall_mem_cons.mpr ⟨mwX9_answer, List.forall_mem_cons.mpr ⟨mwX9_asked, List.forall_mem_cons.mpr ⟨mwX9_cost, List.forall_mem_cons.mpr ⟨mwX9_sees, List.forall_mem_cons.mpr ⟨mwX9_field, List.forall_mem_cons.mpr ⟨mwX9_writer, List.forall_mem_cons.mpr ⟨mwX9_count, (fun _ h => absurd h List.not_mem_nil)⟩⟩⟩⟩⟩⟩⟩⟩⟩⟩⟩⟩⟩⟩⟩⟩⟩⟩⟩⟩⟩⟩⟩⟩⟩⟩⟩⟩⟩⟩
theorem mx_6 : ∀ q ∈ mT6, MX q = true := by decide +kernel
theorem mw_7 : ∀ q ∈ mT7.take 3, MW q := List.forall_mem_cons.mpr ⟨mwX9_entriesOf, List.forall_mem_cons.mpr ⟨mwX9_audit, List.forall_mem_cons.mpr ⟨mwJ7_fill_53178, (fun _ h => absurd h List.not_mem_nil)⟩⟩⟩
theorem mx_7 : ∀ q ∈ mT7.take 3, MX q = true := by decide +kernel
def nMeth : Nat := 213
theorem hin0 : ∀ w ∈ wsX00, w ∈ lw_tbl := by
  show ∀ w ∈ [u_lay RX0 TX0 0], w ∈ lw_tbl
  exact List.forall_mem_cons.mpr ⟨hk1 (List.mem_of_getElem? (i := 110) rfl), (fun _ h => absurd h List.not_mem_nil)⟩
theorem hin1 : ∀ w ∈ wsX10, w ∈ lw_tbl := by
  show ∀ w ∈ [u_lay RX1 TX1 0], w ∈ lw_tbl
  exact List.forall_mem_cons.mpr ⟨hk1 (List.mem_of_getElem? (i := 35) rfl), (fun _ h => absurd h List.not_mem_nil)⟩
theorem hin2 : ∀ w ∈ wsX20, w ∈ lw_tbl := by
  show ∀ w ∈ [u_lay RX2 TX2 0, u_lay RX2 TX2 1, u_lay RX2 TX2 2, u_lay RX2 TX2 3, u_lay RX2 TX2 4, u_lay RX2 TX2 5, u_lay RX2 TX2 6, u_lay RX2 TX2 7, u_lay RX2 TX2 8, u_lay RX2 TX2 9, u_lay RX2 TX2 10, u_lay RX2 TX2 11, u_lay RX2 TX2 12], w ∈ lw_tbl
  exact List.forall_mem_cons.mpr ⟨hk2 (List.mem_of_getElem? (i := 6) rfl), List.forall_mem_cons.mpr ⟨hk2 (List.mem_of_getElem? (i := 8) rfl), List.forall_mem_cons.mpr ⟨hk2 (List.mem_of_getElem? (i := 10) rfl), List.forall_mem_cons.mpr ⟨hk2 (List.mem_of_getElem? (i := 12) rfl), List.forall_mem_cons.mpr ⟨hk2 (List.mem_of_getElem? (i := 14) rfl), List.forall_mem_cons.mpr ⟨hk2 (List.mem_of_getElem? (i := 16) rfl), List.forall_mem_cons.mpr ⟨hk2 (List.mem_of_getElem? (i := 18) rfl), List.forall_mem_cons.mpr ⟨hk2 (List.mem_of_getElem? (i := 20) rfl), List.forall_mem_cons.mpr ⟨hk2 (List.mem_of_getElem? (i := 22) rfl), List.forall_mem_cons.mpr ⟨hk2 (List.mem_of_getElem? (i := 24) rfl), List.forall_mem_cons.mpr ⟨hk2 (List.mem_of_getElem? (i := 26) rfl), List.forall_mem_cons.mpr ⟨hk2 (List.mem_of_getElem? (i := 28) rfl), List.forall_mem_cons.mpr ⟨hk2 (List.mem_of_getElem? (i := 30) rfl), (fun _ h => absurd h List.not_mem_nil)⟩⟩⟩⟩⟩⟩⟩⟩⟩⟩⟩⟩⟩
theorem hin3 : ∀ w ∈ wsX30, w ∈ lw_tbl := by
  show ∀ w ∈ [u_lay RX3 TX3 0, u_lay RX3 TX3 1, u_lay RX3 TX3 2, u_lay RX3 TX3 3], w ∈ lw_tbl
  exact List.forall_mem_cons.mpr ⟨hk1 (List.mem_of_getElem? (i := 188) rfl), List.forall_mem_cons.mpr ⟨hk1 (List.mem_of_getElem? (i := 190) rfl), List.forall_mem_cons.mpr ⟨hk1 (List.mem_of_getElem? (i := 192) rfl), List.forall_mem_cons.mpr ⟨hk1 (List.mem_of_getElem? (i := 194) rfl), (fun _ h => absurd h List.not_mem_nil)⟩⟩⟩⟩
theorem hin4 : ∀ w ∈ wsX40, w ∈ lw_tbl := by
  show ∀ w ∈ [u_lay RX4 TX4 0, u_lay RX4 TX4 1, u_lay RX4 TX4 2, u_lay RX4 TX4 3], w ∈ lw_tbl
  exact List.forall_mem_cons.mpr ⟨hk1 (List.mem_of_getElem? (i := 211) rfl), List.forall_mem_cons.mpr ⟨hk1 (List.mem_of_getElem? (i := 213) rfl), List.forall_mem_cons.mpr ⟨hk1 (List.mem_of_getElem? (i := 215) rfl), List.forall_mem_cons.mpr ⟨hk1 (List.mem_of_getElem? (i := 217) rfl), (fun _ h => absurd h List.not_mem_nil)⟩⟩⟩⟩
theorem hin5 : ∀ w ∈ wsX50, w ∈ lw_tbl := by
  show ∀ w ∈ [u_lay RX5 TX5 0, u_lay RX5 TX5 1, u_lay RX5 TX5 2], w ∈ lw_tbl
  exact List.forall_mem_cons.mpr ⟨hk1 (List.mem_of_getElem? (i := 53) rfl), List.forall_mem_cons.mpr ⟨hk1 (List.mem_of_getElem? (i := 55) rfl), List.forall_mem_cons.mpr ⟨hk1 (List.mem_of_getElem? (i := 57) rfl), (fun _ h => absurd h List.not_mem_nil)⟩⟩⟩
theorem hin6 : ∀ w ∈ wsX60, w ∈ lw_tbl := by
  show ∀ w ∈ [u_lay RX6 TX6 0, u_lay RX6 TX6 1, u_lay RX6 TX6 2, u_lay RX6 TX6 3, u_lay RX6 TX6 4], w ∈ lw_tbl
  exact List.forall_mem_cons.mpr ⟨hk1 (List.mem_of_getElem? (i := 81) rfl), List.forall_mem_cons.mpr ⟨hk1 (List.mem_of_getElem? (i := 83) rfl), List.forall_mem_cons.mpr ⟨hk1 (List.mem_of_getElem? (i := 85) rfl), List.forall_mem_cons.mpr ⟨hk1 (List.mem_of_getElem? (i := 87) rfl), List.forall_mem_cons.mpr ⟨hk1 (List.mem_of_getElem? (i := 89) rfl), (fun _ h => absurd h List.not_mem_nil)⟩⟩⟩⟩⟩
theorem hin7 : ∀ w ∈ wsX70, w ∈ lw_tbl := by
  show ∀ w ∈ [u_lay RX7 TX7 0, u_lay RX7 TX7 1, u_lay RX7 TX7 2, u_lay RX7 TX7 3, u_lay RX7 TX7 4, u_lay RX7 TX7 5, u_lay RX7 TX7 6, u_lay RX7 TX7 7, u_lay RX7 TX7 8, u_lay RX7 TX7 9, u_lay RX7 TX7 10, u_lay RX7 TX7 11, u_lay RX7 TX7 12, u_lay RX7 TX7 13, u_lay RX7 TX7 14, u_lay RX7 TX7 15, u_lay RX7 TX7 16], w ∈ lw_tbl
  exact List.forall_mem_cons.mpr ⟨hk1 (List.mem_of_getElem? (i := 138) rfl), List.forall_mem_cons.mpr ⟨hk1 (List.mem_of_getElem? (i := 140) rfl), List.forall_mem_cons.mpr ⟨hk1 (List.mem_of_getElem? (i := 142) rfl), List.forall_mem_cons.mpr ⟨hk1 (List.mem_of_getElem? (i := 144) rfl), List.forall_mem_cons.mpr ⟨hk1 (List.mem_of_getElem? (i := 146) rfl), List.forall_mem_cons.mpr ⟨hk1 (List.mem_of_getElem? (i := 148) rfl), List.forall_mem_cons.mpr ⟨hk1 (List.mem_of_getElem? (i := 150) rfl), List.forall_mem_cons.mpr ⟨hk1 (List.mem_of_getElem? (i := 152) rfl), List.forall_mem_cons.mpr ⟨hk1 (List.mem_of_getElem? (i := 154) rfl), List.forall_mem_cons.mpr ⟨hk1 (List.mem_of_getElem? (i := 156) rfl), List.forall_mem_cons.mpr ⟨hk1 (List.mem_of_getElem? (i := 158) rfl), List.forall_mem_cons.mpr ⟨hk1 (List.mem_of_getElem? (i := 160) rfl), List.forall_mem_cons.mpr ⟨hk1 (List.mem_of_getElem? (i := 162) rfl), List.forall_mem_cons.mpr ⟨hk1 (List.mem_of_getElem? (i := 164) rfl), List.forall_mem_cons.mpr ⟨hk1 (List.mem_of_getElem? (i := 166) rfl), List.forall_mem_cons.mpr ⟨hk1 (List.mem_of_getElem? (i := 168) rfl), List.forall_mem_cons.mpr ⟨hk1 (List.mem_of_getElem? (i := 170) rfl), (fun _ h => absurd h List.not_mem_nil)⟩⟩⟩⟩⟩⟩⟩⟩⟩⟩⟩⟩⟩⟩⟩⟩⟩
theorem hin8 : ∀ w ∈ wsX80, w ∈ lw_tbl := by
  show ∀ w ∈ [u_lay RX8 TX8 0, u_lay RX8 TX8 1, u_lay RX8 TX8 2, u_lay RX8 TX8 3, u_lay RX8 TX8 4, u_lay RX8 TX8 5, u_lay RX8 TX8 6, u_lay RX8 TX8 7, u_lay RX8 TX8 8, u_lay RX8 TX8 9, u_lay RX8 TX8 10, u_lay RX8 TX8 11], w ∈ lw_tbl
  exact List.forall_mem_cons.mpr ⟨hk2 (List.mem_of_getElem? (i := 48) rfl), List.forall_mem_cons.mpr ⟨hk2 (List.mem_of_getElem? (i := 50) rfl), List.forall_mem_cons.mpr ⟨hk2 (List.mem_of_getElem? (i := 52) rfl), List.forall_mem_cons.mpr ⟨hk2 (List.mem_of_getElem? (i := 54) rfl), List.forall_mem_cons.mpr ⟨hk2 (List.mem_of_getElem? (i := 56) rfl), List.forall_mem_cons.mpr ⟨hk2 (List.mem_of_getElem? (i := 58) rfl), List.forall_mem_cons.mpr ⟨hk2 (List.mem_of_getElem? (i := 60) rfl), List.forall_mem_cons.mpr ⟨hk2 (List.mem_of_getElem? (i := 62) rfl), List.forall_mem_cons.mpr ⟨hk2 (List.mem_of_getElem? (i := 64) rfl), List.forall_mem_cons.mpr ⟨hk2 (List.mem_of_getElem? (i := 66) rfl), List.forall_mem_cons.mpr ⟨hk2 (List.mem_of_getElem? (i := 68) rfl), List.forall_mem_cons.mpr ⟨hk2 (List.mem_of_getElem? (i := 70) rfl), (fun _ h => absurd h List.not_mem_nil)⟩⟩⟩⟩⟩⟩⟩⟩⟩⟩⟩⟩
theorem hin9 : ∀ w ∈ wsX90, w ∈ lw_tbl := by
  show ∀ w ∈ [u_lay RX9 TX9 0, u_lay RX9 TX9 1, u_lay RX9 TX9 2, u_lay RX9 TX9 3, u_lay RX9 TX9 4, u_lay RX9 TX9 5, u_lay RX9 TX9 6, u_lay RX9 TX9 7, u_lay RX9 TX9 8, u_lay RX9 TX9 9, u_lay RX9 TX9 10, u_lay RX9 TX9 11, u_lay RX9 TX9 12, u_lay RX9 TX9 13, u_lay RX9 TX9 14, u_lay RX9 TX9 15, u_lay RX9 TX9 16, u_lay RX9 TX9 17, u_lay RX9 TX9 18, u_lay RX9 TX9 19, u_lay RX9 TX9 20, u_lay RX9 TX9 21, u_lay RX9 TX9 22, u_lay RX9 TX9 23, u_lay RX9 TX9 24, u_lay RX9 TX9 25, u_lay RX9 TX9 26, u_lay RX9 TX9 27, u_lay RX9 TX9 28, u_lay RX9 TX9 29, u_lay RX9 TX9 30, u_lay RX9 TX9 31, u_lay RX9 TX9 32, u_lay RX9 TX9 33, u_lay RX9 TX9 34, u_lay RX9 TX9 35, u_lay RX9 TX9 36, u_lay RX9 TX9 37, u_lay RX9 TX9 38, u_lay RX9 TX9 39, u_lay RX9 TX9 40, u_lay RX9 TX9 41, u_lay RX9 TX9 42, u_lay RX9 TX9 43, u_lay RX9 TX9 44, u_lay RX9 TX9 45, u_lay RX9 TX9 46, u_lay RX9 TX9 47, u_lay RX9 TX9 48, u_lay RX9 TX9 49, u_lay RX9 TX9 50, u_lay RX9 TX9 51, u_lay RX9 TX9 52, u_lay RX9 TX9 53, u_lay RX9 TX9 54], w ∈ lw_tbl
  exact List.forall_mem_cons.mpr ⟨hk4 (List.mem_of_getElem? (i := 173) rfl), List.forall_mem_cons.mpr ⟨hk4 (List.mem_of_getElem? (i := 175) rfl), List.forall_mem_cons.mpr ⟨hk4 (List.mem_of_getElem? (i := 177) rfl), List.forall_mem_cons.mpr ⟨hk4 (List.mem_of_getElem? (i := 179) rfl), List.forall_mem_cons.mpr ⟨hk4 (List.mem_of_getElem? (i := 181) rfl), List.forall_mem_cons.mpr ⟨hk4 (List.mem_of_getElem? (i := 183) rfl), List.forall_mem_cons.mpr ⟨hk4 (List.mem_of_getElem? (i := 185) rfl), List.forall_mem_cons.mpr ⟨hk4 (List.mem_of_getElem? (i := 187) rfl), List.forall_mem_cons.mpr ⟨hk4 (List.mem_of_getElem? (i := 189) rfl), List.forall_mem_cons.mpr ⟨hk4 (List.mem_of_getElem? (i := 191) rfl), List.forall_mem_cons.mpr ⟨hk4 (List.mem_of_getElem? (i := 193) rfl), List.forall_mem_cons.mpr ⟨hk4 (List.mem_of_getElem? (i := 195) rfl), List.forall_mem_cons.mpr ⟨hk4 (List.mem_of_getElem? (i := 197) rfl), List.forall_mem_cons.mpr ⟨hk4 (List.mem_of_getElem? (i := 199) rfl), List.forall_mem_cons.mpr ⟨hk4 (List.mem_of_getElem? (i := 201) rfl), List.forall_mem_cons.mpr ⟨hk4 (List.mem_of_getElem? (i := 203) rfl), List.forall_mem_cons.mpr ⟨hk4 (List.mem_of_getElem? (i := 205) rfl), List.forall_mem_cons.mpr ⟨hk4 (List.mem_of_getElem? (i := 207) rfl), List.forall_mem_cons.mpr ⟨hk4 (List.mem_of_getElem? (i := 209) rfl), List.forall_mem_cons.mpr ⟨hk4 (List.mem_of_getElem? (i := 211) rfl), List.forall_mem_cons.mpr ⟨hk4 (List.mem_of_getElem? (i := 213) rfl), List.forall_mem_cons.mpr ⟨hk4 (List.mem_of_getElem? (i := 215) rfl), List.forall_mem_cons.mpr ⟨hk4 (List.mem_of_getElem? (i := 217) rfl), List.forall_mem_cons.mpr ⟨hk4 (List.mem_of_getElem? (i := 219) rfl), List.forall_mem_cons.mpr ⟨hk4 (List.mem_of_getElem? (i := 221) rfl), List.forall_mem_cons.mpr ⟨hk4 (List.mem_of_getElem? (i := 223) rfl), List.forall_mem_cons.mpr ⟨hk4 (List.mem_of_getElem? (i := 225) rfl), List.forall_mem_cons.mpr ⟨hk4 (List.mem_of_getElem? (i := 227) rfl), List.forall_mem_cons.mpr ⟨hk4 (List.mem_of_getElem? (i := 229) rfl), List.forall_mem_cons.mpr ⟨hk4 (List.mem_of_getElem? (i := 231) rfl), List.forall_mem_cons.mpr ⟨hk4 (List.mem_of_getElem? (i := 233) rfl), List.forall_mem_cons.mpr ⟨hk4 (List.mem_of_getElem? (i := 235) rfl), List.forall_mem_cons.mpr ⟨hk4 (List.mem_of_getElem? (i := 237) rfl), List.forall_mem_cons.mpr ⟨hk4 (List.mem_of_getElem? (i := 239) rfl), List.forall_mem_cons.mpr ⟨hk5 (List.mem_of_getElem? (i := 1) rfl), List.forall_mem_cons.mpr ⟨hk5 (List.mem_of_getElem? (i := 3) rfl), List.forall_mem_cons.mpr ⟨hk5 (List.mem_of_getElem? (i := 5) rfl), List.forall_mem_cons.mpr ⟨hk5 (List.mem_of_getElem? (i := 7) rfl), List.forall_mem_cons.mpr ⟨hk5 (List.mem_of_getElem? (i := 9) rfl), List.forall_mem_cons.mpr ⟨hk5 (List.mem_of_getElem? (i := 11) rfl), List.forall_mem_cons.mpr ⟨hk5 (List.mem_of_getElem? (i := 13) rfl), List.forall_mem_cons.mpr ⟨hk5 (List.mem_of_getElem? (i := 15) rfl), List.forall_mem_cons.mpr ⟨hk5 (List.mem_of_getElem? (i := 17) rfl), List.forall_mem_cons.mpr ⟨hk5 (List.mem_of_getElem? (i := 19) rfl), List.forall_mem_cons.mpr ⟨hk5 (List.mem_of_getElem? (i := 21) rfl), List.forall_mem_cons.mpr ⟨hk5 (List.mem_of_getElem? (i := 23) rfl), List.forall_mem_cons.mpr ⟨hk5 (List.mem_of_getElem? (i := 25) rfl), List.forall_mem_cons.mpr ⟨hk5 (List.mem_of_getElem? (i := 27) rfl), List.forall_mem_cons.mpr ⟨hk5 (List.mem_of_getElem? (i := 29) rfl), List.forall_mem_cons.mpr ⟨hk5 (List.mem_of_getElem? (i := 31) rfl), List.forall_mem_cons.mpr ⟨hk5 (List.mem_of_getElem? (i := 33) rfl), List.forall_mem_cons.mpr ⟨hk5 (List.mem_of_getElem? (i := 35) rfl), List.forall_mem_cons.mpr ⟨hk5 (List.mem_of_getElem? (i := 37) rfl), List.forall_mem_cons.mpr ⟨hk5 (List.mem_of_getElem? (i := 39) rfl), List.forall_mem_cons.mpr ⟨hk5 (List.mem_of_getElem? (i := 41) rfl), (fun _ h => absurd h List.not_mem_nil)⟩⟩⟩⟩⟩⟩⟩⟩⟩⟩⟩⟩⟩⟩⟩⟩⟩⟩⟩⟩⟩⟩⟩⟩⟩⟩⟩⟩⟩⟩⟩⟩⟩⟩⟩⟩⟩⟩⟩⟩⟩⟩⟩⟩⟩⟩⟩⟩⟩⟩⟩⟩⟩⟩⟩
theorem hnew0 : Cond.instantiable RX0 1 ∈ lw_tbl := hk1 (List.mem_of_getElem? (i := 104) rfl)
theorem hnew1 : Cond.instantiable RX1 1 ∈ lw_tbl := hk1 (List.mem_of_getElem? (i := 29) rfl)
theorem hnew2 : Cond.instantiable RX2 13 ∈ lw_tbl := hk1 (List.mem_of_getElem? (i := 92) rfl)
theorem hnew3 : Cond.instantiable RX3 4 ∈ lw_tbl := hk1 (List.mem_of_getElem? (i := 174) rfl)
theorem hnew4 : Cond.instantiable RX4 4 ∈ lw_tbl := hk1 (List.mem_of_getElem? (i := 199) rfl)
theorem hnew5 : Cond.instantiable RX5 3 ∈ lw_tbl := hk1 (List.mem_of_getElem? (i := 23) rfl)
theorem hnew6 : Cond.instantiable RX6 5 ∈ lw_tbl := hk1 (List.mem_of_getElem? (i := 66) rfl)
theorem hnew7 : Cond.instantiable RX7 17 ∈ lw_tbl := hk1 (List.mem_of_getElem? (i := 98) rfl)
theorem hnew8 : Cond.instantiable RX8 12 ∈ lw_tbl := hk1 (List.mem_of_getElem? (i := 15) rfl)
theorem hnew9 : Cond.instantiable RX9 55 ∈ lw_tbl := hk4 (List.mem_of_getElem? (i := 112) rfl)
theorem hini0 : Cond.initialized RX0 ∈ lw_tbl := hk1 (List.mem_of_getElem? (i := 8) rfl)
theorem hini1 : Cond.initialized RX1 ∈ lw_tbl := hk1 (List.mem_of_getElem? (i := 3) rfl)
theorem hini2 : Cond.initialized RX2 ∈ lw_tbl := hk1 (List.mem_of_getElem? (i := 6) rfl)
theorem hini3 : Cond.initialized RX3 ∈ lw_tbl := hk1 (List.mem_of_getElem? (i := 9) rfl)
theorem hini4 : Cond.initialized RX4 ∈ lw_tbl := hk1 (List.mem_of_getElem? (i := 10) rfl)
theorem hini5 : Cond.initialized RX5 ∈ lw_tbl := hk1 (List.mem_of_getElem? (i := 2) rfl)
theorem hini6 : Cond.initialized RX6 ∈ lw_tbl := hk1 (List.mem_of_getElem? (i := 5) rfl)
theorem hini7 : Cond.initialized RX7 ∈ lw_tbl := hk1 (List.mem_of_getElem? (i := 7) rfl)
theorem hini8 : Cond.initialized RX8 ∈ lw_tbl := hk1 (List.mem_of_getElem? (i := 1) rfl)
theorem hini9 : Cond.initialized RX9 ∈ lw_tbl := hk1 (List.mem_of_getElem? (i := 11) rfl)
theorem ww_nat : Cond.native arraycopyName ∈ lw_tbl := hk2 (List.mem_of_getElem? (i := 130) rfl)
theorem ww_sta : Cond.static arraycopyName ∈ lw_tbl := hk2 (List.mem_of_getElem? (i := 129) rfl)
theorem ww_sys : Cond.initialized "java/lang/System" ∈ lw_tbl := hk1 (List.mem_of_getElem? (i := 13) rfl)
theorem ww_mst : Cond.static Lib.Math.min.name ∈ lw_tbl := hk2 (List.mem_of_getElem? (i := 126) rfl)
theorem ww_mini : Cond.initialized "java/lang/Math" ∈ lw_tbl := hk1 (List.mem_of_getElem? (i := 12) rfl)
theorem ww_mco : Cond.code Lib.Math.min.name Lib.Math.min.code 2 (some .int) ∈ lw_tbl := hk2 (List.mem_of_getElem? (i := 127) rfl)
theorem ww_oin : Cond.instanceMethod objectInit ∈ lw_tbl := hk1 (List.mem_of_getElem? (i := 20) rfl)
theorem ww_oco : Cond.code objectInit ⟨#[0xb1]⟩ 1 none ∈ lw_tbl := hk1 (List.mem_of_getElem? (i := 21) rfl)
theorem ww_ari : Cond.arrayClass .int ∈ lw_tbl := hk1 (List.mem_of_getElem? (i := 38) rfl)
theorem ww_arz : Cond.arrayClass .boolean ∈ lw_tbl := hk1 (List.mem_of_getElem? (i := 197) rfl)
theorem ww_ao6 : Cond.arrayOver (.object RX6) ∈ lw_tbl := hk1 (List.mem_of_getElem? (i := 61) rfl)
theorem ww_ao2 : Cond.arrayOver (.object RX2) ∈ lw_tbl := hk1 (List.mem_of_getElem? (i := 63) rfl)
end
section
/-! THE FLAT MACHINE: the bytecode of part 03 over cells of ints and references. A state: how many cells, how many slots, each cell's kind (0..9 an object of that number, 10 int[], 11 boolean[], 12 Transaction[], 13 Index[]), length and references, each cell's ints. A reference is the cell's number here; .retAddr stands for the law's script. -/
abbrev Gm : Type := Nat → Nat × Nat × (Nat → Option Nat)
abbrev Sg : Type := Nat × Nat × Gm × (Nat → Nat → Int32)
abbrev Lc : Type := List (Option Value)
abbrev Rs : Type := Option (Option Value × Sg)
abbrev Kn : Type := Nat → Lc → List Value → Sg → Rs
def okv (N : Nat) (v : Value) : Bool := match v with
  | .int _ => true
  | .ref k => decide (k < N)
  | .retAddr _ => true
  | _ => false
def okl (N : Nat) (ls : Lc) : Bool := ls.all (fun o => match o with
  | none => true
  | some v => okv N v)
def oka (N : Nat) (v : Value) : Bool := match v with
  | .int _ => true
  | .ref k => decide (k < N)
  | _ => false
def wrI (σ : Sg) (a k : Nat) (x : Int32) : Sg := (σ.1, σ.2.1, σ.2.2.1, va_up σ.2.2.2 a (upd (σ.2.2.2 a) k x))
def wrR (σ : Sg) (a k q : Nat) : Sg := (σ.1, σ.2.1, va_up σ.2.2.1 a ((σ.2.2.1 a).1, (σ.2.2.1 a).2.1, va_up (σ.2.2.1 a).2.2 k (some q)), σ.2.2.2)
def cpI (σ : Sg) (r0 r1 sp dp n : Nat) : Sg := (σ.1, σ.2.1, σ.2.2.1, va_up σ.2.2.2 r1 (va_cpy (σ.2.2.2 r0) (σ.2.2.2 r1) sp dp n))
def nwC (σ : Sg) (kd len sl : Nat) : Sg := (σ.1 + 1, σ.2.1 + sl, va_up σ.2.2.1 σ.1 (kd, len, fun _ => none), va_up σ.2.2.2 σ.1 (fun _ => 0))
abbrev hsC (σ : Sg) (r kd : Nat) : Prop := r < σ.1 ∧ (σ.2.2.1 r).1 = kd
abbrev ibd (i : Int32) (n : Nat) : Prop := i < 0 ∨ n ≤ i.toNatClampNeg
def stp (X : Option (Nat × (Nat → Int32))) (cl : Nat → List Value → Sg → Rs) (kn : Kn) (mm : MT) (en : En) (ls : Lc) (st : List Value) (σ : Sg) : Rs :=
  match en with
  | (pc, i, n, v, a, b) =>
  match i with
  | .iconst _ | .bipush _ | .sipush _ | .ldc _ => kn (pc + n) ls (.int v :: st) σ
  | .iload _ | .iload_n _ => match ls[a]? with
    | some (some (.int x)) => kn (pc + n) ls (.int x :: st) σ
    | _ => none
  | .aload _ | .aload_n _ => match ls[a]? with
    | some (some (.ref x)) => kn (pc + n) ls (.ref x :: st) σ
    | some (some (.retAddr x)) => kn (pc + n) ls (.retAddr x :: st) σ
    | _ => none
  | .istore _ | .istore_n _ => match st with
    | .int x :: st => if a < ls.length then kn (pc + n) (ls.set a (some (.int x))) st σ else none
    | _ => none
  | .astore _ | .astore_n _ => match st with
    | .ref x :: st => if a < ls.length then kn (pc + n) (ls.set a (some (.ref x))) st σ else none
    | _ => none
  | .iinc _ _ => match ls[a]? with
    | some (some (.int x)) => kn (pc + n) (ls.set a (some (.int (x + v)))) st σ
    | _ => none
  | .iadd => match st with
    | .int y :: .int x :: st => kn (pc + n) ls (.int (x + y) :: st) σ
    | _ => none
  | .isub => match st with
    | .int y :: .int x :: st => kn (pc + n) ls (.int (x - y) :: st) σ
    | _ => none
  | .imul => match st with
    | .int y :: .int x :: st => kn (pc + n) ls (.int (x * y) :: st) σ
    | _ => none
  | .iand => match st with
    | .int y :: .int x :: st => kn (pc + n) ls (.int (x &&& y) :: st) σ
    | _ => none
  | .ixor => match st with
    | .int y :: .int x :: st => kn (pc + n) ls (.int (x ^^^ y) :: st) σ
    | _ => none
  | .idiv => match st with
    | .int y :: .int x :: st => if y = 0 then none else kn (pc + n) ls (.int (x / y) :: st) σ
    | _ => none
  | .irem => match st with
    | .int y :: .int x :: st => if y = 0 then none else kn (pc + n) ls (.int (x - x / y * y) :: st) σ
    | _ => none
  | .dup => match st with
    | .int x :: st => kn (pc + n) ls (.int x :: .int x :: st) σ
    | .ref x :: st => kn (pc + n) ls (.ref x :: .ref x :: st) σ
    | _ => none
  | .dup2 => match st with
    | .int x :: .ref y :: st => kn (pc + n) ls (.int x :: .ref y :: .int x :: .ref y :: st) σ
    | _ => none
  | .getfield _ => match st with
    | .ref r :: st => if hsC σ r a then (match (ftk a)[b]? with
      | some 2 => (match (σ.2.2.1 r).2.2 b with
        | some q => kn (pc + n) ls (.ref q :: st) σ
        | none => none)
      | some _ => kn (pc + n) ls (.int (σ.2.2.2 r b) :: st) σ
      | none => none) else none
    | _ => none
  | .putfield _ => match st with
    | .int x :: .ref r :: st => if hsC σ r a then (match (ftk a)[b]? with
      | some 0 => kn (pc + n) ls st (wrI σ r b x)
      | some 1 => if x = 0 ∨ x = 1 then kn (pc + n) ls st (wrI σ r b x) else none
      | _ => none) else none
    | .ref q :: .ref r :: st => if hsC σ r a ∧ q < σ.1 ∧ (ftk a)[b]? = some 2 then kn (pc + n) ls st (wrR σ r b q) else none
    | _ => none
  | .iaload => match st with
    | .int i :: .ref r :: st => if hsC σ r 10 then (if ibd i (σ.2.2.1 r).2.1 then none else kn (pc + n) ls (.int (σ.2.2.2 r i.toNatClampNeg) :: st) σ) else none
    | .int i :: .retAddr _ :: st => match X with
      | some (L, xs) => if ibd i L then none else kn (pc + n) ls (.int (xs i.toNatClampNeg) :: st) σ
      | none => none
    | _ => none
  | .baload => match st with
    | .int i :: .ref r :: st => if hsC σ r 11 then (if ibd i (σ.2.2.1 r).2.1 then none else kn (pc + n) ls (.int (σ.2.2.2 r i.toNatClampNeg) :: st) σ) else none
    | _ => none
  | .iastore => match st with
    | .int x :: .int i :: .ref r :: st => if hsC σ r 10 then (if ibd i (σ.2.2.1 r).2.1 then none else kn (pc + n) ls st (wrI σ r i.toNatClampNeg x)) else none
    | _ => none
  | .bastore => match st with
    | .int x :: .int i :: .ref r :: st => if hsC σ r 11 ∧ (x = 0 ∨ x = 1) then (if ibd i (σ.2.2.1 r).2.1 then none else kn (pc + n) ls st (wrI σ r i.toNatClampNeg x)) else none
    | _ => none
  | .aaload => match st with
    | .int i :: .ref r :: st => if hsC σ r 12 ∨ hsC σ r 13 then (if ibd i (σ.2.2.1 r).2.1 then none else (match (σ.2.2.1 r).2.2 i.toNatClampNeg with
      | some q => kn (pc + n) ls (.ref q :: st) σ
      | none => none)) else none
    | _ => none
  | .aastore => match st with
    | .ref q :: .int i :: .ref r :: st => if (hsC σ r 12 ∧ hsC σ q 6) ∨ (hsC σ r 13 ∧ hsC σ q 2) then (if ibd i (σ.2.2.1 r).2.1 then none else kn (pc + n) ls st (wrR σ r i.toNatClampNeg q)) else none
    | _ => none
  | .arraylength => match st with
    | .ref r :: st => if hsC σ r 10 then kn (pc + n) ls (.int (Int32.ofNat (σ.2.2.1 r).2.1) :: st) σ else none
    | .retAddr _ :: st => match X with
      | some (L, _) => kn (pc + n) ls (.int (Int32.ofNat L) :: st) σ
      | none => none
    | _ => none
  | .ifCond c _ => match st with
    | .int x :: st => match c with
      | .eq => if x = 0 then kn a ls st σ else kn (pc + n) ls st σ
      | .ne => if x = 0 then kn (pc + n) ls st σ else kn a ls st σ
      | .lt => if x < 0 then kn a ls st σ else kn (pc + n) ls st σ
      | .ge => if 0 ≤ x then kn a ls st σ else kn (pc + n) ls st σ
      | .gt => if 0 < x then kn a ls st σ else kn (pc + n) ls st σ
      | .le => if x ≤ 0 then kn a ls st σ else kn (pc + n) ls st σ
    | _ => none
  | .if_icmp c _ => match st with
    | .int y :: .int x :: st => match c with
      | .eq => if x = y then kn a ls st σ else kn (pc + n) ls st σ
      | .ne => if x = y then kn (pc + n) ls st σ else kn a ls st σ
      | .lt => if x < y then kn a ls st σ else kn (pc + n) ls st σ
      | .ge => if y ≤ x then kn a ls st σ else kn (pc + n) ls st σ
      | .gt => if y < x then kn a ls st σ else kn (pc + n) ls st σ
      | .le => if x ≤ y then kn a ls st σ else kn (pc + n) ls st σ
    | _ => none
  | .goto _ => kn a ls st σ
  | .tableswitch d lo hi offs => match st with
    | .int x :: st => if x.toInt < lo ∨ hi < x.toInt then kn ((pc : Int) + d).toNat ls st σ else (match offs[(x.toInt - lo).toNat]? with
      | some off => kn ((pc : Int) + off).toNat ls st σ
      | none => none)
    | _ => none
  | .lookupswitch d ps => match st with
    | .int x :: st => kn ((pc : Int) + Op.lookupswitch.offset ps.toList d x.toInt).toNat ls st σ
    | _ => none
  | .invokevirtual _ => match mT a with
    | some g => (match st.drop (g.2.2.2.2.2.1 - 1) with
      | .ref r :: rest => if rest.length ≤ 8 ∧ hsC σ r g.2.2.2.2.1 ∧ (st.take (g.2.2.2.2.2.1 - 1)).all (oka σ.1) = true ∧ okl σ.1 ls = true ∧ rest.all (okv σ.1) = true then (match cl a (.ref r :: (st.take (g.2.2.2.2.2.1 - 1)).reverse) σ with
        | some (rv, σ') => kn (pc + n) ls (rv.toList ++ rest) σ'
        | none => none) else none
      | _ => none)
    | none => none
  | .invokespecial _ => if a = 902 then (match st with
      | .ref _ :: rest => if rest.length ≤ 0 then kn (pc + n) ls rest σ else none
      | _ => none) else (match mT a with
    | some g => (match st.drop (g.2.2.2.2.2.1 - 1) with
      | .ref r :: rest => if rest.length ≤ 8 ∧ hsC σ r g.2.2.2.2.1 ∧ (st.take (g.2.2.2.2.2.1 - 1)).all (oka σ.1) = true ∧ okl σ.1 ls = true ∧ rest.all (okv σ.1) = true then (match cl a (.ref r :: (st.take (g.2.2.2.2.2.1 - 1)).reverse) σ with
        | some (rv, σ') => kn (pc + n) ls (rv.toList ++ rest) σ'
        | none => none) else none
      | _ => none)
    | none => none)
  | .invokestatic _ => if a = 900 then (match st with
      | .int m :: .int dp :: .ref r1 :: .int sp :: .ref r0 :: rest => if hsC σ r0 10 ∧ hsC σ r1 10 ∧ ¬ sp < 0 ∧ ¬ dp < 0 ∧ ¬ m < 0 ∧ sp.toNatClampNeg + m.toNatClampNeg ≤ (σ.2.2.1 r0).2.1 ∧ dp.toNatClampNeg + m.toNatClampNeg ≤ (σ.2.2.1 r1).2.1 ∧ rest.length ≤ 0 then kn (pc + n) ls rest (cpI σ r0 r1 sp.toNatClampNeg dp.toNatClampNeg m.toNatClampNeg) else none
      | _ => none) else if a = 901 then (match st with
      | .int y :: .int x :: rest => if rest.length ≤ 4 ∧ rest.all (okv σ.1) = true then kn (pc + n) ls (.int (if y < x then y else x) :: rest) σ else none
      | _ => none) else (match mT a with
    | some g => if g.2.2.2.2.2.1 ≤ st.length ∧ (st.drop g.2.2.2.2.2.1).length ≤ 8 ∧ (st.take g.2.2.2.2.2.1).all (oka σ.1) = true ∧ okl σ.1 ls = true ∧ (st.drop g.2.2.2.2.2.1).all (okv σ.1) = true then (match cl a (st.take g.2.2.2.2.2.1).reverse σ with
        | some (rv, σ') => kn (pc + n) ls (rv.toList ++ st.drop g.2.2.2.2.2.1) σ'
        | none => none) else none
    | none => none)
  | .ireturn => match st with
    | [.int x] => match mm.2.2.2.1 with
      | some .int => some (some (.int x), σ)
      | some .boolean => if x = 0 ∨ x = 1 then some (some (.int x), σ) else none
      | _ => none
    | _ => none
  | .areturn => match st with
    | [.ref r] => match mm.2.2.2.1 with
      | some (.object _) => if r < σ.1 then some (some (.ref r), σ) else none
      | _ => none
    | _ => none
  | .return_ => match st with
    | [] => match mm.2.2.2.1 with
      | none => some (none, σ)
      | _ => none
    | _ => none
  | .new _ => if okl σ.1 ls = true ∧ st.all (okv σ.1) = true ∧ a < 10 then kn (pc + n) ls (.ref σ.1 :: st) (nwC σ a 0 (NC a)) else none
  | .newarray _ => match st with
    | .int x :: st => if okl σ.1 ls = true ∧ st.all (okv σ.1) = true ∧ ¬ x < 0 ∧ x.toNatClampNeg ≤ 100000 ∧ (a = 10 ∨ a = 11) then kn (pc + n) ls (.ref σ.1 :: st) (nwC σ a x.toNatClampNeg x.toNatClampNeg) else none
    | _ => none
  | .anewarray _ => match st with
    | .int x :: st => if okl σ.1 ls = true ∧ st.all (okv σ.1) = true ∧ ¬ x < 0 ∧ x.toNatClampNeg ≤ 100000 ∧ (a = 12 ∨ a = 13) then kn (pc + n) ls (.ref σ.1 :: st) (nwC σ a x.toNatClampNeg x.toNatClampNeg) else none
    | _ => none
  | _ => none
def lkE : List En → Nat → Option En
  | [], _ => none
  | e :: es, pc => if e.1 = pc then some e else lkE es pc
def entL (g : MT) (as : List Value) : Lc := as.map some ++ List.replicate (g.2.2.1 - as.length) none
def run : Nat → Option (Nat × (Nat → Int32)) → Nat → Nat → Lc → List Value → Sg → Rs
  | 0, _, _, _, _, _, _ => none
  | n + 1, X, f, pc, ls, st, σ => match mT f with
    | none => none
    | some mm => match lkE (cd f) pc with
      | none => none
      | some en => stp X (fun g as τ => match mT g with
        | none => none
        | some mg => run n none g 0 (entL mg as) [] τ) (run n X f) mm en ls st σ
end
section
/-- does a row of part 03 say what the bytes and the words say -/
def okG (mm g : MT) (kd : Nat) : Bool := decide (g.2.2.2.2.2.2.2.2 = kd) && decide (g.2.2.2.2.2.2.1 + 1 ≤ mm.2.2.2.2.2.2.1) && decide (8 + (g.2.2.1 + 11) + g.2.2.2.2.2.2.2.1 ≤ mm.2.2.2.2.2.2.2.1)
def okE (mm : MT) (e : En) : Bool :=
  match e with
  | (pc, i, n, v, a, b) =>
  match i with
  | .iconst z => decide (n = 1) && decide (Int32.ofInt z = v)
  | .bipush z => decide (n = 2) && decide ((Int8.ofInt z).toInt32 = v)
  | .sipush z => decide (n = 3) && decide ((Int16.ofInt z).toInt32 = v)
  | .ldc x => decide (n = 2) && decide ((mm.2.2.2.2.1, x, v) ∈ cnT)
  | .iload k => decide (n = 2) && decide (k = a)
  | .aload k => decide (n = 2) && decide (k = a)
  | .istore k => decide (n = 2) && decide (k = a)
  | .astore k => decide (n = 2) && decide (k = a)
  | .iload_n k => decide (n = 1) && decide (k.val = a)
  | .aload_n k => decide (n = 1) && decide (k.val = a)
  | .istore_n k => decide (n = 1) && decide (k.val = a)
  | .astore_n k => decide (n = 1) && decide (k.val = a)
  | .iinc k z => decide (n = 3) && decide (k = a) && decide (Int32.ofInt z = v)
  | .iadd | .isub | .imul | .iand | .ixor | .idiv | .irem | .dup | .dup2 | .iaload | .baload | .iastore | .bastore | .aaload | .aastore | .arraylength | .ireturn | .areturn | .return_ => decide (n = 1)
  | .getfield x => decide (n = 3) && decide (b < NC a) && decide ((mm.2.2.2.2.1, x, a, b) ∈ flT)
  | .putfield x => decide (n = 3) && decide (b < NC a) && decide ((mm.2.2.2.2.1, x, a, b) ∈ flT) && (decide ((TC a b).2.2.2 = false) || (decide (mm.2.2.2.2.2.2.2.2 = 2) && decide ((TC a b).1 = RC mm.2.2.2.2.1)))
  | .ifCond _ off => decide (n = 3) && decide ((pc : Int) + off = (a : Int))
  | .if_icmp _ off => decide (n = 3) && decide ((pc : Int) + off = (a : Int))
  | .goto off => decide (n = 3) && decide ((pc : Int) + off = (a : Int))
  | .tableswitch d _ _ offs => decide (0 ≤ (pc : Int) + d) && offs.toList.all (fun o => decide (0 ≤ (pc : Int) + o))
  | .lookupswitch d ps => decide (0 ≤ (pc : Int) + d) && ps.toList.all (fun o => decide (0 ≤ (pc : Int) + o.2)) && ((ps.toList.zip (ps.toList.drop 1)).all (fun (a, next) => a.1 < next.1))
  | .invokevirtual x => decide (n = 3) && decide ((mm.2.2.2.2.1, x, a) ∈ mtT) && (match mT a with
    | some g => okG mm g 1
    | none => false)
  | .invokespecial x => decide (n = 3) && (if a = 902 then decide ((mm.2.2.2.2.1, x) ∈ oiT) && decide (1 ≤ mm.2.2.2.2.2.2.1) && decide (12 ≤ mm.2.2.2.2.2.2.2.1) else (decide ((mm.2.2.2.2.1, x, a) ∈ mtT) || decide ((mm.2.2.2.2.1, x, a) ∈ ntT)) && (match mT a with
    | some g => okG mm g 2
    | none => false))
  | .invokestatic x => decide (n = 3) && (if a = 900 then decide ((mm.2.2.2.2.1, x) ∈ acT) && decide (1 ≤ mm.2.2.2.2.2.2.1) && decide (18 ≤ mm.2.2.2.2.2.2.2.1) else if a = 901 then decide ((mm.2.2.2.2.1, x) ∈ mnT) && decide (1 ≤ mm.2.2.2.2.2.2.1) && decide (17 ≤ mm.2.2.2.2.2.2.2.1) else decide ((mm.2.2.2.2.1, x, a) ∈ mtT) && (match mT a with
    | some g => okG mm g 0
    | none => false))
  | .new x => decide (n = 3) && decide ((mm.2.2.2.2.1, x, a) ∈ nwT)
  | .newarray t => decide (n = 2) && ((decide (t = .int) && decide (a = 10)) || (decide (t = .boolean) && decide (a = 11)))
  | .anewarray x => decide (n = 3) && ((decide (a = 12) && decide ((mm.2.2.2.2.1, x, 6) ∈ nwT)) || (decide (a = 13) && decide ((mm.2.2.2.2.1, x, 2) ∈ nwT)))
  | _ => false
def OKM (mm : MT) (k : List En) : Prop := ∀ e ∈ k, decode mm.2.1 e.1 = .ok (e.2.1, e.2.2.1) ∧ okE mm e = true

set_option maxRecDepth 100000 in
theorem okX0_init : OKM (yX0_init, cX0_init, 2, none, 0, 2, 1, 12, 2) kX0_init := by unfold OKM; decide +kernel
set_option maxRecDepth 100000 in
theorem okX0_word : OKM (yX0_word, cX0_word, 3, (some .int), 0, 3, 0, 0, 1) kX0_word := by unfold OKM; decide +kernel
set_option maxRecDepth 100000 in
theorem okX0_set : OKM (yX0_set, cX0_set, 4, none, 0, 4, 0, 0, 1) kX0_set := by unfold OKM; decide +kernel
set_option maxRecDepth 100000 in
theorem okX0_copy : OKM (yX0_copy, cX0_copy, 4, none, 0, 4, 1, 18, 1) kX0_copy := by unfold OKM; decide +kernel
set_option maxRecDepth 100000 in
theorem okX0_compare : OKM (yX0_compare, cX0_compare, 7, (some .int), 0, 4, 0, 0, 1) kX0_compare := by unfold OKM; decide +kernel
set_option maxRecDepth 100000 in
theorem okX1_init : OKM (yX1_init, cX1_init, 2, none, 1, 2, 1, 12, 2) kX1_init := by unfold OKM; decide +kernel
set_option maxRecDepth 100000 in
theorem okX1_has : OKM (yX1_has, cX1_has, 2, (some .boolean), 1, 2, 0, 0, 1) kX1_has := by unfold OKM; decide +kernel
set_option maxRecDepth 100000 in
theorem okX1_valueOf : OKM (yX1_valueOf, cX1_valueOf, 3, (some .int), 1, 3, 0, 0, 1) kX1_valueOf := by unfold OKM; decide +kernel
set_option maxRecDepth 100000 in
theorem okX1_set : OKM (yX1_set, cX1_set, 4, none, 1, 4, 0, 0, 1) kX1_set := by unfold OKM; decide +kernel
set_option maxRecDepth 100000 in
theorem okX1_put : OKM (yX1_put, cX1_put, 7, none, 1, 6, 0, 0, 1) kX1_put := by unfold OKM; decide +kernel
set_option maxRecDepth 100000 in
theorem okX1_clear : OKM (yX1_clear, cX1_clear, 2, none, 1, 2, 0, 0, 1) kX1_clear := by unfold OKM; decide +kernel
set_option maxRecDepth 100000 in
theorem okX1_copy : OKM (yX1_copy, cX1_copy, 4, none, 1, 4, 1, 18, 1) kX1_copy := by unfold OKM; decide +kernel
set_option maxRecDepth 100000 in
theorem okX1_copyAll : OKM (yX1_copyAll, cX1_copyAll, 2, none, 1, 2, 1, 18, 1) kX1_copyAll := by unfold OKM; decide +kernel
set_option maxRecDepth 100000 in
theorem okX2_init : OKM (yX2_init, cX2_init, 1, none, 2, 1, 3, 63, 2) kX2_init := by unfold OKM; decide +kernel
set_option maxRecDepth 100000 in
theorem okX2_start : OKM (yX2_start, cX2_start, 5, none, 2, 5, 3, 63, 1) kX2_start := by unfold OKM; decide +kernel
set_option maxRecDepth 100000 in
theorem okX2_forgetEntries : OKM (yX2_forgetEntries, cX2_forgetEntries, 1, none, 2, 1, 2, 43, 1) kX2_forgetEntries := by unfold OKM; decide +kernel
set_option maxRecDepth 100000 in
theorem okX2_isBuilding : OKM (yX2_isBuilding, cX2_isBuilding, 1, (some .boolean), 2, 1, 0, 0, 1) kX2_isBuilding := by unfold OKM; decide +kernel
set_option maxRecDepth 100000 in
theorem okX2_isGuard : OKM (yX2_isGuard, cX2_isGuard, 1, (some .boolean), 2, 1, 0, 0, 1) kX2_isGuard := by unfold OKM; decide +kernel
set_option maxRecDepth 100000 in
theorem okX2_haveOneKey : OKM (yX2_haveOneKey, cX2_haveOneKey, 6, (some .boolean), 2, 5, 1, 22, 1) kX2_haveOneKey := by unfold OKM; decide +kernel
set_option maxRecDepth 100000 in
theorem okX2_makeEntry : OKM (yX2_makeEntry, cX2_makeEntry, 5, none, 2, 4, 1, 23, 1) kX2_makeEntry := by unfold OKM; decide +kernel
set_option maxRecDepth 100000 in
theorem okX2_hasKeyOf : OKM (yX2_hasKeyOf, cX2_hasKeyOf, 5, (some .boolean), 2, 3, 3, 68, 1) kX2_hasKeyOf := by unfold OKM; decide +kernel
set_option maxRecDepth 100000 in
theorem okX2_makeComing : OKM (yX2_makeComing, cX2_makeComing, 5, (some .boolean), 2, 4, 2, 47, 1) kX2_makeComing := by unfold OKM; decide +kernel
set_option maxRecDepth 100000 in
theorem okX2_makeGoing : OKM (yX2_makeGoing, cX2_makeGoing, 4, (some .boolean), 2, 4, 2, 47, 1) kX2_makeGoing := by unfold OKM; decide +kernel
set_option maxRecDepth 100000 in
theorem okX2_takeMade : OKM (yX2_takeMade, cX2_takeMade, 2, none, 2, 2, 4, 96, 1) kX2_takeMade := by unfold OKM; decide +kernel
set_option maxRecDepth 100000 in
theorem okX2_fail : OKM (yX2_fail, cX2_fail, 2, none, 2, 2, 3, 63, 1) kX2_fail := by unfold OKM; decide +kernel
set_option maxRecDepth 100000 in
theorem okX2_takeStep : OKM (yX2_takeStep, cX2_takeStep, 2, none, 2, 2, 6, 137, 1) kX2_takeStep := by unfold OKM; decide +kernel
set_option maxRecDepth 100000 in
theorem okX2_scanPage_1 : OKM (yX2_scanPage, cX2_scanPage, 4, none, 2, 2, 3, 74, 1) (kX2_scanPage.take 60) := by unfold OKM; decide +kernel
set_option maxRecDepth 100000 in
theorem okX2_scanPage_2 : OKM (yX2_scanPage, cX2_scanPage, 4, none, 2, 2, 3, 74, 1) ((kX2_scanPage.drop 60).take 60) := by unfold OKM; decide +kernel
set_option maxRecDepth 100000 in
theorem okX2_scanPage : OKM (yX2_scanPage, cX2_scanPage, 4, none, 2, 2, 3, 74, 1) kX2_scanPage := by
  have h : kX2_scanPage = kX2_scanPage.take 60 ++ ((kX2_scanPage.drop 60).take 60) := rfl
  unfold OKM
  rw [h]
  exact List.forall_mem_append.mpr ⟨okX2_scanPage_1, okX2_scanPage_2⟩
set_option maxRecDepth 100000 in
theorem okX2_loadSome : OKM (yX2_loadSome, cX2_loadSome, 3, none, 2, 1, 4, 92, 1) kX2_loadSome := by unfold OKM; decide +kernel
set_option maxRecDepth 100000 in
theorem okX2_catchUp : OKM (yX2_catchUp, cX2_catchUp, 1, none, 2, 1, 4, 96, 1) kX2_catchUp := by unfold OKM; decide +kernel
set_option maxRecDepth 100000 in
theorem okX2_finish : OKM (yX2_finish, cX2_finish, 3, none, 2, 2, 5, 115, 1) kX2_finish := by unfold OKM; decide +kernel
set_option maxRecDepth 100000 in
theorem okX2_leastWithClash : OKM (yX2_leastWithClash, cX2_leastWithClash, 3, (some .int), 2, 2, 4, 93, 1) kX2_leastWithClash := by unfold OKM; decide +kernel
set_option maxRecDepth 100000 in
theorem okX2_leastClashWith : OKM (yX2_leastClashWith, cX2_leastClashWith, 4, (some .int), 2, 3, 3, 70, 1) kX2_leastClashWith := by unfold OKM; decide +kernel
set_option maxRecDepth 100000 in
theorem okX2_isClash : OKM (yX2_isClash, cX2_isClash, 4, (some .boolean), 2, 4, 2, 47, 1) kX2_isClash := by unfold OKM; decide +kernel
set_option maxRecDepth 100000 in
theorem okX2_rangeSize : OKM (yX2_rangeSize, cX2_rangeSize, 5, (some .int), 2, 3, 4, 95, 1) kX2_rangeSize := by unfold OKM; decide +kernel
set_option maxRecDepth 100000 in
theorem okX2_isInRange : OKM (yX2_isInRange, cX2_isInRange, 8, (some .boolean), 2, 4, 3, 68, 1) kX2_isInRange := by unfold OKM; decide +kernel
set_option maxRecDepth 100000 in
theorem okX2_faults_1 : OKM (yX2_faults, cX2_faults, 5, (some .int), 2, 2, 5, 115, 1) (kX2_faults.take 60) := by unfold OKM; decide +kernel
set_option maxRecDepth 100000 in
theorem okX2_faults_2 : OKM (yX2_faults, cX2_faults, 5, (some .int), 2, 2, 5, 115, 1) ((kX2_faults.drop 60).take 60) := by unfold OKM; decide +kernel
set_option maxRecDepth 100000 in
theorem okX2_faults : OKM (yX2_faults, cX2_faults, 5, (some .int), 2, 2, 5, 115, 1) kX2_faults := by
  have h : kX2_faults = kX2_faults.take 60 ++ ((kX2_faults.drop 60).take 60) := rfl
  unfold OKM
  rw [h]
  exact List.forall_mem_append.mpr ⟨okX2_faults_1, okX2_faults_2⟩
set_option maxRecDepth 100000 in
theorem okX2_missing : OKM (yX2_missing, cX2_missing, 3, (some .int), 2, 3, 3, 74, 1) kX2_missing := by unfold OKM; decide +kernel
set_option maxRecDepth 100000 in
theorem okX3_init : OKM (yX3_init, cX3_init, 1, none, 3, 1, 2, 33, 2) kX3_init := by unfold OKM; decide +kernel
set_option maxRecDepth 100000 in
theorem okX3_clear : OKM (yX3_clear, cX3_clear, 1, none, 3, 1, 0, 0, 1) kX3_clear := by unfold OKM; decide +kernel
set_option maxRecDepth 100000 in
theorem okX3_isFull : OKM (yX3_isFull, cX3_isFull, 1, (some .boolean), 3, 1, 0, 0, 1) kX3_isFull := by unfold OKM; decide +kernel
set_option maxRecDepth 100000 in
theorem okX3_add : OKM (yX3_add, cX3_add, 5, none, 3, 4, 2, 41, 1) kX3_add := by unfold OKM; decide +kernel
set_option maxRecDepth 100000 in
theorem okX3_firstSlot : OKM (yX3_firstSlot, cX3_firstSlot, 1, (some .int), 3, 1, 0, 0, 1) kX3_firstSlot := by unfold OKM; decide +kernel
set_option maxRecDepth 100000 in
theorem okX3_firstCame : OKM (yX3_firstCame, cX3_firstCame, 1, (some .boolean), 3, 1, 0, 0, 1) kX3_firstCame := by unfold OKM; decide +kernel
set_option maxRecDepth 100000 in
theorem okX3_takeFirst : OKM (yX3_takeFirst, cX3_takeFirst, 1, none, 3, 1, 0, 0, 1) kX3_takeFirst := by unfold OKM; decide +kernel
set_option maxRecDepth 100000 in
theorem okX4_init : OKM (yX4_init, cX4_init, 1, none, 4, 1, 2, 33, 2) kX4_init := by unfold OKM; decide +kernel
set_option maxRecDepth 100000 in
theorem okX4_clear : OKM (yX4_clear, cX4_clear, 1, none, 4, 1, 0, 0, 1) kX4_clear := by unfold OKM; decide +kernel
set_option maxRecDepth 100000 in
theorem okX4_add : OKM (yX4_add, cX4_add, 4, none, 4, 3, 2, 51, 1) kX4_add := by unfold OKM; decide +kernel
set_option maxRecDepth 100000 in
theorem okX4_slotOf : OKM (yX4_slotOf, cX4_slotOf, 6, (some .int), 4, 2, 1, 26, 1) kX4_slotOf := by unfold OKM; decide +kernel
set_option maxRecDepth 100000 in
theorem okX4_take : OKM (yX4_take, cX4_take, 2, (some .int), 4, 1, 0, 0, 1) kX4_take := by unfold OKM; decide +kernel
set_option maxRecDepth 100000 in
theorem okX5_init : OKM (yX5_init, cX5_init, 1, none, 5, 1, 2, 33, 2) kX5_init := by unfold OKM; decide +kernel
set_option maxRecDepth 100000 in
theorem okX5_copyFrom : OKM (yX5_copyFrom, cX5_copyFrom, 2, none, 5, 2, 2, 39, 1) kX5_copyFrom := by unfold OKM; decide +kernel
set_option maxRecDepth 100000 in
theorem okX5_isFree : OKM (yX5_isFree, cX5_isFree, 2, (some .boolean), 5, 2, 1, 21, 1) kX5_isFree := by unfold OKM; decide +kernel
set_option maxRecDepth 100000 in
theorem okX5_placesInUse : OKM (yX5_placesInUse, cX5_placesInUse, 3, (some .int), 5, 1, 2, 42, 1) kX5_placesInUse := by unfold OKM; decide +kernel
set_option maxRecDepth 100000 in
theorem okX5_seenBy : OKM (yX5_seenBy, cX5_seenBy, 3, (some (.object "IndexedTable$Images")), 5, 3, 0, 0, 1) kX5_seenBy := by unfold OKM; decide +kernel
set_option maxRecDepth 100000 in
theorem okX6_init : OKM (yX6_init, cX6_init, 1, none, 6, 1, 2, 33, 2) kX6_init := by unfold OKM; decide +kernel
set_option maxRecDepth 100000 in
theorem okX6_isFull : OKM (yX6_isFull, cX6_isFull, 1, (some .boolean), 6, 1, 0, 0, 1) kX6_isFull := by unfold OKM; decide +kernel
set_option maxRecDepth 100000 in
theorem okX6_add : OKM (yX6_add, cX6_add, 3, none, 6, 3, 2, 41, 1) kX6_add := by unfold OKM; decide +kernel
set_option maxRecDepth 100000 in
theorem okX6_putBack : OKM (yX6_putBack, cX6_putBack, 4, none, 6, 3, 2, 41, 1) kX6_putBack := by unfold OKM; decide +kernel
set_option maxRecDepth 100000 in
theorem okX7_init_1 : OKM (yX7_init, cX7_init, 1, none, 7, 1, 2, 43, 2) (kX7_init.take 60) := by unfold OKM; decide +kernel
set_option maxRecDepth 100000 in
theorem okX7_init_2 : OKM (yX7_init, cX7_init, 1, none, 7, 1, 2, 43, 2) ((kX7_init.drop 60).take 60) := by unfold OKM; decide +kernel
set_option maxRecDepth 100000 in
theorem okX7_init : OKM (yX7_init, cX7_init, 1, none, 7, 1, 2, 43, 2) kX7_init := by
  have h : kX7_init = kX7_init.take 60 ++ ((kX7_init.drop 60).take 60) := rfl
  unfold OKM
  rw [h]
  exact List.forall_mem_append.mpr ⟨okX7_init_1, okX7_init_2⟩
set_option maxRecDepth 100000 in
theorem okX7_empty : OKM (yX7_empty, cX7_empty, 2, none, 7, 1, 1, 22, 1) kX7_empty := by unfold OKM; decide +kernel
set_option maxRecDepth 100000 in
theorem okX7_size : OKM (yX7_size, cX7_size, 1, (some .int), 7, 1, 0, 0, 1) kX7_size := by unfold OKM; decide +kernel
set_option maxRecDepth 100000 in
theorem okX7_nodes : OKM (yX7_nodes, cX7_nodes, 1, (some .int), 7, 1, 0, 0, 1) kX7_nodes := by unfold OKM; decide +kernel
set_option maxRecDepth 100000 in
theorem okX7_height : OKM (yX7_height, cX7_height, 3, (some .int), 7, 1, 1, 21, 1) kX7_height := by unfold OKM; decide +kernel
set_option maxRecDepth 100000 in
theorem okX7_wordAt : OKM (yX7_wordAt, cX7_wordAt, 3, (some .int), 7, 3, 2, 46, 1) kX7_wordAt := by unfold OKM; decide +kernel
set_option maxRecDepth 100000 in
theorem okX7_depthAt : OKM (yX7_depthAt, cX7_depthAt, 2, (some .int), 7, 2, 2, 46, 1) kX7_depthAt := by unfold OKM; decide +kernel
set_option maxRecDepth 100000 in
theorem okX7_holds : OKM (yX7_holds, cX7_holds, 3, (some .boolean), 7, 3, 2, 52, 1) kX7_holds := by unfold OKM; decide +kernel
set_option maxRecDepth 100000 in
theorem okX7_add : OKM (yX7_add, cX7_add, 4, none, 7, 3, 3, 69, 1) kX7_add := by unfold OKM; decide +kernel
set_option maxRecDepth 100000 in
theorem okX7_cut_1 : OKM (yX7_cut, cX7_cut, 7, none, 7, 3, 3, 70, 1) (kX7_cut.take 60) := by unfold OKM; decide +kernel
set_option maxRecDepth 100000 in
theorem okX7_cut_2 : OKM (yX7_cut, cX7_cut, 7, none, 7, 3, 3, 70, 1) ((kX7_cut.drop 60).take 60) := by unfold OKM; decide +kernel
set_option maxRecDepth 100000 in
theorem okX7_cut : OKM (yX7_cut, cX7_cut, 7, none, 7, 3, 3, 70, 1) kX7_cut := by
  have h : kX7_cut = kX7_cut.take 60 ++ ((kX7_cut.drop 60).take 60) := rfl
  unfold OKM
  rw [h]
  exact List.forall_mem_append.mpr ⟨okX7_cut_1, okX7_cut_2⟩
set_option maxRecDepth 100000 in
theorem okX7_isLowest : OKM (yX7_isLowest, cX7_isLowest, 2, (some .boolean), 7, 2, 0, 0, 1) kX7_isLowest := by unfold OKM; decide +kernel
set_option maxRecDepth 100000 in
theorem okX7_takeNode : OKM (yX7_takeNode, cX7_takeNode, 3, (some .int), 7, 1, 0, 0, 1) kX7_takeNode := by unfold OKM; decide +kernel
set_option maxRecDepth 100000 in
theorem okX7_giveNode : OKM (yX7_giveNode, cX7_giveNode, 2, none, 7, 2, 0, 0, 1) kX7_giveNode := by unfold OKM; decide +kernel
set_option maxRecDepth 100000 in
theorem okX7_find_1 : OKM (yX7_find, cX7_find, 7, (some .boolean), 7, 3, 1, 26, 1) (kX7_find.take 60) := by unfold OKM; decide +kernel
set_option maxRecDepth 100000 in
theorem okX7_find_2 : OKM (yX7_find, cX7_find, 7, (some .boolean), 7, 3, 1, 26, 1) ((kX7_find.drop 60).take 60) := by unfold OKM; decide +kernel
set_option maxRecDepth 100000 in
theorem okX7_find : OKM (yX7_find, cX7_find, 7, (some .boolean), 7, 3, 1, 26, 1) kX7_find := by
  have h : kX7_find = kX7_find.take 60 ++ ((kX7_find.drop 60).take 60) := rfl
  unfold OKM
  rw [h]
  exact List.forall_mem_append.mpr ⟨okX7_find_1, okX7_find_2⟩
set_option maxRecDepth 100000 in
theorem okX7_goToGreatestBelow_1 : OKM (yX7_goToGreatestBelow, cX7_goToGreatestBelow, 3, none, 7, 1, 1, 21, 1) (kX7_goToGreatestBelow.take 60) := by unfold OKM; decide +kernel
set_option maxRecDepth 100000 in
theorem okX7_goToGreatestBelow_2 : OKM (yX7_goToGreatestBelow, cX7_goToGreatestBelow, 3, none, 7, 1, 1, 21, 1) ((kX7_goToGreatestBelow.drop 60).take 60) := by unfold OKM; decide +kernel
set_option maxRecDepth 100000 in
theorem okX7_goToGreatestBelow : OKM (yX7_goToGreatestBelow, cX7_goToGreatestBelow, 3, none, 7, 1, 1, 21, 1) kX7_goToGreatestBelow := by
  have h : kX7_goToGreatestBelow = kX7_goToGreatestBelow.take 60 ++ ((kX7_goToGreatestBelow.drop 60).take 60) := rfl
  unfold OKM
  rw [h]
  exact List.forall_mem_append.mpr ⟨okX7_goToGreatestBelow_1, okX7_goToGreatestBelow_2⟩
set_option maxRecDepth 100000 in
theorem okX7_putInto : OKM (yX7_putInto, cX7_putInto, 8, none, 7, 5, 1, 18, 1) kX7_putInto := by unfold OKM; decide +kernel
set_option maxRecDepth 100000 in
theorem okX7_takeOut : OKM (yX7_takeOut, cX7_takeOut, 6, none, 7, 3, 1, 18, 1) kX7_takeOut := by unfold OKM; decide +kernel
set_option maxRecDepth 100000 in
theorem okX7_splitUpwards_1 : OKM (yX7_splitUpwards, cX7_splitUpwards, 5, none, 7, 1, 2, 45, 1) (kX7_splitUpwards.take 60) := by unfold OKM; decide +kernel
set_option maxRecDepth 100000 in
theorem okX7_splitUpwards_2 : OKM (yX7_splitUpwards, cX7_splitUpwards, 5, none, 7, 1, 2, 45, 1) ((kX7_splitUpwards.drop 60).take 60) := by unfold OKM; decide +kernel
set_option maxRecDepth 100000 in
theorem okX7_splitUpwards : OKM (yX7_splitUpwards, cX7_splitUpwards, 5, none, 7, 1, 2, 45, 1) kX7_splitUpwards := by
  have h : kX7_splitUpwards = kX7_splitUpwards.take 60 ++ ((kX7_splitUpwards.drop 60).take 60) := rfl
  unfold OKM
  rw [h]
  exact List.forall_mem_append.mpr ⟨okX7_splitUpwards_1, okX7_splitUpwards_2⟩
set_option maxRecDepth 100000 in
theorem okX7_halve : OKM (yX7_halve, cX7_halve, 3, none, 7, 3, 1, 18, 1) kX7_halve := by unfold OKM; decide +kernel
set_option maxRecDepth 100000 in
theorem okX7_mendUpwards_1 : OKM (yX7_mendUpwards, cX7_mendUpwards, 5, none, 7, 1, 2, 46, 1) (kX7_mendUpwards.take 60) := by unfold OKM; decide +kernel
set_option maxRecDepth 100000 in
theorem okX7_mendUpwards_2 : OKM (yX7_mendUpwards, cX7_mendUpwards, 5, none, 7, 1, 2, 46, 1) ((kX7_mendUpwards.drop 60).take 60) := by unfold OKM; decide +kernel
set_option maxRecDepth 100000 in
theorem okX7_mendUpwards : OKM (yX7_mendUpwards, cX7_mendUpwards, 5, none, 7, 1, 2, 46, 1) kX7_mendUpwards := by
  have h : kX7_mendUpwards = kX7_mendUpwards.take 60 ++ ((kX7_mendUpwards.drop 60).take 60) := rfl
  unfold OKM
  rw [h]
  exact List.forall_mem_append.mpr ⟨okX7_mendUpwards_1, okX7_mendUpwards_2⟩
set_option maxRecDepth 100000 in
theorem okX7_takeFromLeft_1 : OKM (yX7_takeFromLeft, cX7_takeFromLeft, 6, none, 7, 3, 1, 18, 1) (kX7_takeFromLeft.take 60) := by unfold OKM; decide +kernel
set_option maxRecDepth 100000 in
theorem okX7_takeFromLeft_2 : OKM (yX7_takeFromLeft, cX7_takeFromLeft, 6, none, 7, 3, 1, 18, 1) ((kX7_takeFromLeft.drop 60).take 60) := by unfold OKM; decide +kernel
set_option maxRecDepth 100000 in
theorem okX7_takeFromLeft_3 : OKM (yX7_takeFromLeft, cX7_takeFromLeft, 6, none, 7, 3, 1, 18, 1) ((kX7_takeFromLeft.drop 120).take 60) := by unfold OKM; decide +kernel
set_option maxRecDepth 100000 in
theorem okX7_takeFromLeft : OKM (yX7_takeFromLeft, cX7_takeFromLeft, 6, none, 7, 3, 1, 18, 1) kX7_takeFromLeft := by
  have h : kX7_takeFromLeft = kX7_takeFromLeft.take 60 ++ ((kX7_takeFromLeft.drop 60).take 60 ++ ((kX7_takeFromLeft.drop 120).take 60)) := rfl
  unfold OKM
  rw [h]
  exact List.forall_mem_append.mpr ⟨okX7_takeFromLeft_1, List.forall_mem_append.mpr ⟨okX7_takeFromLeft_2, okX7_takeFromLeft_3⟩⟩
set_option maxRecDepth 100000 in
theorem okX7_takeFromRight_1 : OKM (yX7_takeFromRight, cX7_takeFromRight, 6, none, 7, 3, 1, 18, 1) (kX7_takeFromRight.take 60) := by unfold OKM; decide +kernel
set_option maxRecDepth 100000 in
theorem okX7_takeFromRight_2 : OKM (yX7_takeFromRight, cX7_takeFromRight, 6, none, 7, 3, 1, 18, 1) ((kX7_takeFromRight.drop 60).take 60) := by unfold OKM; decide +kernel
set_option maxRecDepth 100000 in
theorem okX7_takeFromRight_3 : OKM (yX7_takeFromRight, cX7_takeFromRight, 6, none, 7, 3, 1, 18, 1) ((kX7_takeFromRight.drop 120).take 60) := by unfold OKM; decide +kernel
set_option maxRecDepth 100000 in
theorem okX7_takeFromRight : OKM (yX7_takeFromRight, cX7_takeFromRight, 6, none, 7, 3, 1, 18, 1) kX7_takeFromRight := by
  have h : kX7_takeFromRight = kX7_takeFromRight.take 60 ++ ((kX7_takeFromRight.drop 60).take 60 ++ ((kX7_takeFromRight.drop 120).take 60)) := rfl
  unfold OKM
  rw [h]
  exact List.forall_mem_append.mpr ⟨okX7_takeFromRight_1, List.forall_mem_append.mpr ⟨okX7_takeFromRight_2, okX7_takeFromRight_3⟩⟩
set_option maxRecDepth 100000 in
theorem okX7_joinAround_1 : OKM (yX7_joinAround, cX7_joinAround, 6, none, 7, 3, 1, 21, 1) (kX7_joinAround.take 60) := by unfold OKM; decide +kernel
set_option maxRecDepth 100000 in
theorem okX7_joinAround_2 : OKM (yX7_joinAround, cX7_joinAround, 6, none, 7, 3, 1, 21, 1) ((kX7_joinAround.drop 60).take 60) := by unfold OKM; decide +kernel
set_option maxRecDepth 100000 in
theorem okX7_joinAround : OKM (yX7_joinAround, cX7_joinAround, 6, none, 7, 3, 1, 21, 1) kX7_joinAround := by
  have h : kX7_joinAround = kX7_joinAround.take 60 ++ ((kX7_joinAround.drop 60).take 60) := rfl
  unfold OKM
  rw [h]
  exact List.forall_mem_append.mpr ⟨okX7_joinAround_1, okX7_joinAround_2⟩
set_option maxRecDepth 100000 in
theorem okX7_walkAll_1 : OKM (yX7_walkAll, cX7_walkAll, 5, none, 7, 1, 1, 22, 1) (kX7_walkAll.take 60) := by unfold OKM; decide +kernel
set_option maxRecDepth 100000 in
theorem okX7_walkAll_2 : OKM (yX7_walkAll, cX7_walkAll, 5, none, 7, 1, 1, 22, 1) ((kX7_walkAll.drop 60).take 60) := by unfold OKM; decide +kernel
set_option maxRecDepth 100000 in
theorem okX7_walkAll : OKM (yX7_walkAll, cX7_walkAll, 5, none, 7, 1, 1, 22, 1) kX7_walkAll := by
  have h : kX7_walkAll = kX7_walkAll.take 60 ++ ((kX7_walkAll.drop 60).take 60) := rfl
  unfold OKM
  rw [h]
  exact List.forall_mem_append.mpr ⟨okX7_walkAll_1, okX7_walkAll_2⟩
set_option maxRecDepth 100000 in
theorem okX7_noteWalked : OKM (yX7_noteWalked, cX7_noteWalked, 3, none, 7, 3, 0, 0, 1) kX7_noteWalked := by unfold OKM; decide +kernel
set_option maxRecDepth 100000 in
theorem okX7_faults : OKM (yX7_faults, cX7_faults, 3, (some .int), 7, 1, 2, 48, 1) kX7_faults := by unfold OKM; decide +kernel
set_option maxRecDepth 100000 in
theorem okX7_nodeFaults_1 : OKM (yX7_nodeFaults, cX7_nodeFaults, 8, (some .int), 7, 1, 1, 21, 1) (kX7_nodeFaults.take 60) := by unfold OKM; decide +kernel
set_option maxRecDepth 100000 in
theorem okX7_nodeFaults_2 : OKM (yX7_nodeFaults, cX7_nodeFaults, 8, (some .int), 7, 1, 1, 21, 1) ((kX7_nodeFaults.drop 60).take 60) := by unfold OKM; decide +kernel
set_option maxRecDepth 100000 in
theorem okX7_nodeFaults : OKM (yX7_nodeFaults, cX7_nodeFaults, 8, (some .int), 7, 1, 1, 21, 1) kX7_nodeFaults := by
  have h : kX7_nodeFaults = kX7_nodeFaults.take 60 ++ ((kX7_nodeFaults.drop 60).take 60) := rfl
  unfold OKM
  rw [h]
  exact List.forall_mem_append.mpr ⟨okX7_nodeFaults_1, okX7_nodeFaults_2⟩
set_option maxRecDepth 100000 in
theorem okX8_init_1 : OKM (yX8_init, cX8_init, 2, none, 8, 1, 4, 83, 2) (kX8_init.take 60) := by unfold OKM; decide +kernel
set_option maxRecDepth 100000 in
theorem okX8_init_2 : OKM (yX8_init, cX8_init, 2, none, 8, 1, 4, 83, 2) ((kX8_init.drop 60).take 60) := by unfold OKM; decide +kernel
set_option maxRecDepth 100000 in
theorem okX8_init : OKM (yX8_init, cX8_init, 2, none, 8, 1, 4, 83, 2) kX8_init := by
  have h : kX8_init = kX8_init.take 60 ++ ((kX8_init.drop 60).take 60) := rfl
  unfold OKM
  rw [h]
  exact List.forall_mem_append.mpr ⟨okX8_init_1, okX8_init_2⟩
set_option maxRecDepth 100000 in
theorem okX8_begin : OKM (yX8_begin, cX8_begin, 2, (some .int), 8, 1, 0, 0, 1) kX8_begin := by unfold OKM; decide +kernel
set_option maxRecDepth 100000 in
theorem okX8_insert : OKM (yX8_insert, cX8_insert, 7, (some .int), 8, 6, 7, 161, 1) kX8_insert := by unfold OKM; decide +kernel
set_option maxRecDepth 100000 in
theorem okX8_update_1 : OKM (yX8_update, cX8_update, 5, (some .int), 8, 5, 7, 161, 1) (kX8_update.take 60) := by unfold OKM; decide +kernel
set_option maxRecDepth 100000 in
theorem okX8_update_2 : OKM (yX8_update, cX8_update, 5, (some .int), 8, 5, 7, 161, 1) ((kX8_update.drop 60).take 60) := by unfold OKM; decide +kernel
set_option maxRecDepth 100000 in
theorem okX8_update : OKM (yX8_update, cX8_update, 5, (some .int), 8, 5, 7, 161, 1) kX8_update := by
  have h : kX8_update = kX8_update.take 60 ++ ((kX8_update.drop 60).take 60) := rfl
  unfold OKM
  rw [h]
  exact List.forall_mem_append.mpr ⟨okX8_update_1, okX8_update_2⟩
set_option maxRecDepth 100000 in
theorem okX8_remove : OKM (yX8_remove, cX8_remove, 3, (some .int), 8, 3, 7, 161, 1) kX8_remove := by unfold OKM; decide +kernel
set_option maxRecDepth 100000 in
theorem okX8_records : OKM (yX8_records, cX8_records, 2, (some .int), 8, 2, 1, 21, 1) kX8_records := by unfold OKM; decide +kernel
set_option maxRecDepth 100000 in
theorem okX8_undo : OKM (yX8_undo, cX8_undo, 3, (some .int), 8, 3, 7, 165, 1) kX8_undo := by unfold OKM; decide +kernel
set_option maxRecDepth 100000 in
theorem okX8_commit : OKM (yX8_commit, cX8_commit, 4, (some .int), 8, 2, 6, 139, 1) kX8_commit := by unfold OKM; decide +kernel
set_option maxRecDepth 100000 in
theorem okX8_abort : OKM (yX8_abort, cX8_abort, 3, (some .int), 8, 2, 7, 165, 1) kX8_abort := by unfold OKM; decide +kernel
set_option maxRecDepth 100000 in
theorem okX8_isActive : OKM (yX8_isActive, cX8_isActive, 2, (some .boolean), 8, 2, 0, 0, 1) kX8_isActive := by unfold OKM; decide +kernel
set_option maxRecDepth 100000 in
theorem okX8_isPlace : OKM (yX8_isPlace, cX8_isPlace, 1, (some .boolean), 8, 1, 0, 0, 0) kX8_isPlace := by unfold OKM; decide +kernel
set_option maxRecDepth 100000 in
theorem okX8_isField : OKM (yX8_isField, cX8_isField, 1, (some .boolean), 8, 1, 0, 0, 0) kX8_isField := by unfold OKM; decide +kernel
set_option maxRecDepth 100000 in
theorem okX8_isLocked : OKM (yX8_isLocked, cX8_isLocked, 3, (some .boolean), 8, 3, 1, 20, 1) kX8_isLocked := by unfold OKM; decide +kernel
set_option maxRecDepth 100000 in
theorem okX8_hasRow : OKM (yX8_hasRow, cX8_hasRow, 2, (some .boolean), 8, 2, 1, 21, 1) kX8_hasRow := by unfold OKM; decide +kernel
set_option maxRecDepth 100000 in
theorem okX8_leastFreePlace : OKM (yX8_leastFreePlace, cX8_leastFreePlace, 2, (some .int), 8, 1, 2, 42, 1) kX8_leastFreePlace := by unfold OKM; decide +kernel
set_option maxRecDepth 100000 in
theorem okX8_write : OKM (yX8_write, cX8_write, 3, none, 8, 3, 6, 139, 1) kX8_write := by unfold OKM; decide +kernel
set_option maxRecDepth 100000 in
theorem okX8_undoTo : OKM (yX8_undoTo, cX8_undoTo, 7, (some .int), 8, 3, 6, 139, 1) kX8_undoTo := by unfold OKM; decide +kernel
set_option maxRecDepth 100000 in
theorem okX8_tellIndexes : OKM (yX8_tellIndexes, cX8_tellIndexes, 3, none, 8, 2, 5, 117, 1) kX8_tellIndexes := by unfold OKM; decide +kernel
set_option maxRecDepth 100000 in
theorem okX8_wouldClash : OKM (yX8_wouldClash, cX8_wouldClash, 3, (some .boolean), 8, 3, 5, 116, 1) kX8_wouldClash := by unfold OKM; decide +kernel
set_option maxRecDepth 100000 in
theorem okX8_undoWouldClash : OKM (yX8_undoWouldClash, cX8_undoWouldClash, 4, (some .boolean), 8, 3, 5, 116, 1) kX8_undoWouldClash := by unfold OKM; decide +kernel
set_option maxRecDepth 100000 in
theorem okX8_hasGuard : OKM (yX8_hasGuard, cX8_hasGuard, 2, (some .boolean), 8, 1, 1, 20, 1) kX8_hasGuard := by unfold OKM; decide +kernel
set_option maxRecDepth 100000 in
theorem okX8_clashesIn : OKM (yX8_clashesIn, cX8_clashesIn, 4, (some .boolean), 8, 3, 4, 93, 1) kX8_clashesIn := by unfold OKM; decide +kernel
set_option maxRecDepth 100000 in
theorem okX8_index : OKM (yX8_index, cX8_index, 6, (some .int), 8, 5, 4, 87, 1) kX8_index := by unfold OKM; decide +kernel
set_option maxRecDepth 100000 in
theorem okX8_drop : OKM (yX8_drop, cX8_drop, 2, (some .int), 8, 2, 1, 21, 1) kX8_drop := by unfold OKM; decide +kernel
set_option maxRecDepth 100000 in
theorem okX8_step : OKM (yX8_step, cX8_step, 4, (some .int), 8, 3, 7, 158, 1) kX8_step := by unfold OKM; decide +kernel
set_option maxRecDepth 100000 in
theorem okX8_info_1 : OKM (yX8_info, cX8_info, 4, (some .int), 8, 3, 2, 43, 1) (kX8_info.take 60) := by unfold OKM; decide +kernel
set_option maxRecDepth 100000 in
theorem okX8_info_2 : OKM (yX8_info, cX8_info, 4, (some .int), 8, 3, 2, 43, 1) ((kX8_info.drop 60).take 60) := by unfold OKM; decide +kernel
set_option maxRecDepth 100000 in
theorem okX8_info : OKM (yX8_info, cX8_info, 4, (some .int), 8, 3, 2, 43, 1) kX8_info := by
  have h : kX8_info = kX8_info.take 60 ++ ((kX8_info.drop 60).take 60) := rfl
  unfold OKM
  rw [h]
  exact List.forall_mem_append.mpr ⟨okX8_info_1, okX8_info_2⟩
set_option maxRecDepth 100000 in
theorem okX8_entry : OKM (yX8_entry, cX8_entry, 5, (some .int), 8, 4, 3, 68, 1) kX8_entry := by unfold OKM; decide +kernel
set_option maxRecDepth 100000 in
theorem okX8_isIndex : OKM (yX8_isIndex, cX8_isIndex, 2, (some .boolean), 8, 2, 0, 0, 1) kX8_isIndex := by unfold OKM; decide +kernel
set_option maxRecDepth 100000 in
theorem okX8_isKey : OKM (yX8_isKey, cX8_isKey, 3, (some .boolean), 8, 3, 1, 20, 0) kX8_isKey := by unfold OKM; decide +kernel
set_option maxRecDepth 100000 in
theorem okX8_where : OKM (yX8_where, cX8_where, 4, (some .int), 8, 4, 1, 20, 1) kX8_where := by unfold OKM; decide +kernel
set_option maxRecDepth 100000 in
theorem okX8_ask_1 : OKM (yX8_ask, cX8_ask, 3, (some .int), 8, 3, 7, 164, 1) (kX8_ask.take 60) := by unfold OKM; decide +kernel
set_option maxRecDepth 100000 in
theorem okX8_ask_2 : OKM (yX8_ask, cX8_ask, 3, (some .int), 8, 3, 7, 164, 1) ((kX8_ask.drop 60).take 60) := by unfold OKM; decide +kernel
set_option maxRecDepth 100000 in
theorem okX8_ask : OKM (yX8_ask, cX8_ask, 3, (some .int), 8, 3, 7, 164, 1) kX8_ask := by
  have h : kX8_ask = kX8_ask.take 60 ++ ((kX8_ask.drop 60).take 60) := rfl
  unfold OKM
  rw [h]
  exact List.forall_mem_append.mpr ⟨okX8_ask_1, okX8_ask_2⟩
set_option maxRecDepth 100000 in
theorem okX8_answer : OKM (yX8_answer, cX8_answer, 2, (some .int), 8, 2, 0, 0, 1) kX8_answer := by unfold OKM; decide +kernel
set_option maxRecDepth 100000 in
theorem okX8_asked : OKM (yX8_asked, cX8_asked, 2, (some .int), 8, 2, 0, 0, 1) kX8_asked := by unfold OKM; decide +kernel
set_option maxRecDepth 100000 in
theorem okX8_cost : OKM (yX8_cost, cX8_cost, 2, (some .int), 8, 2, 6, 141, 1) kX8_cost := by unfold OKM; decide +kernel
set_option maxRecDepth 100000 in
theorem okX8_isReady : OKM (yX8_isReady, cX8_isReady, 2, (some .boolean), 8, 2, 1, 21, 1) kX8_isReady := by unfold OKM; decide +kernel
set_option maxRecDepth 100000 in
theorem okX8_cheapestWay : OKM (yX8_cheapestWay, cX8_cheapestWay, 4, (some .int), 8, 1, 6, 141, 1) kX8_cheapestWay := by unfold OKM; decide +kernel
set_option maxRecDepth 100000 in
theorem okX8_costOf : OKM (yX8_costOf, cX8_costOf, 3, (some .int), 8, 2, 5, 119, 1) kX8_costOf := by unfold OKM; decide +kernel
set_option maxRecDepth 100000 in
theorem okX8_pagesInUse : OKM (yX8_pagesInUse, cX8_pagesInUse, 5, (some .int), 8, 1, 2, 42, 1) kX8_pagesInUse := by unfold OKM; decide +kernel
set_option maxRecDepth 100000 in
theorem okX8_answerByScan : OKM (yX8_answerByScan, cX8_answerByScan, 3, none, 8, 2, 2, 46, 1) kX8_answerByScan := by unfold OKM; decide +kernel
set_option maxRecDepth 100000 in
theorem okX8_answerByIndex : OKM (yX8_answerByIndex, cX8_answerByIndex, 6, none, 8, 3, 4, 95, 1) kX8_answerByIndex := by unfold OKM; decide +kernel
set_option maxRecDepth 100000 in
theorem okX8_fits : OKM (yX8_fits, cX8_fits, 5, (some .boolean), 8, 3, 1, 22, 1) kX8_fits := by unfold OKM; decide +kernel
set_option maxRecDepth 100000 in
theorem okX8_tell : OKM (yX8_tell, cX8_tell, 2, none, 8, 2, 0, 0, 1) kX8_tell := by unfold OKM; decide +kernel
set_option maxRecDepth 100000 in
theorem okX8_sees : OKM (yX8_sees, cX8_sees, 3, (some .int), 8, 3, 1, 22, 1) kX8_sees := by unfold OKM; decide +kernel
set_option maxRecDepth 100000 in
theorem okX8_field : OKM (yX8_field, cX8_field, 5, (some .int), 8, 4, 1, 22, 1) kX8_field := by unfold OKM; decide +kernel
set_option maxRecDepth 100000 in
theorem okX8_writer : OKM (yX8_writer, cX8_writer, 2, (some .int), 8, 2, 1, 20, 1) kX8_writer := by unfold OKM; decide +kernel
set_option maxRecDepth 100000 in
theorem okX8_count : OKM (yX8_count, cX8_count, 2, (some .int), 8, 2, 3, 64, 1) kX8_count := by unfold OKM; decide +kernel
set_option maxRecDepth 100000 in
theorem okX8_audit : OKM (yX8_audit, cX8_audit, 3, (some .int), 8, 1, 6, 139, 1) kX8_audit := by unfold OKM; decide +kernel
set_option maxRecDepth 100000 in
theorem okX8_activeTransactions : OKM (yX8_activeTransactions, cX8_activeTransactions, 3, (some .int), 8, 1, 0, 0, 1) kX8_activeTransactions := by unfold OKM; decide +kernel
set_option maxRecDepth 100000 in
theorem okX8_indexesFrom : OKM (yX8_indexesFrom, cX8_indexesFrom, 4, (some .int), 8, 2, 0, 0, 1) kX8_indexesFrom := by unfold OKM; decide +kernel
set_option maxRecDepth 100000 in
theorem okX9_init_1 : OKM (yX9_init, cX9_init, 2, none, 9, 1, 1, 12, 2) (kX9_init.take 60) := by unfold OKM; decide +kernel
set_option maxRecDepth 100000 in
theorem okX9_init_2 : OKM (yX9_init, cX9_init, 2, none, 9, 1, 1, 12, 2) ((kX9_init.drop 60).take 60) := by unfold OKM; decide +kernel
set_option maxRecDepth 100000 in
theorem okX9_init_3 : OKM (yX9_init, cX9_init, 2, none, 9, 1, 1, 12, 2) ((kX9_init.drop 120).take 60) := by unfold OKM; decide +kernel
set_option maxRecDepth 100000 in
theorem okX9_init_4 : OKM (yX9_init, cX9_init, 2, none, 9, 1, 1, 12, 2) ((kX9_init.drop 180).take 60) := by unfold OKM; decide +kernel
set_option maxRecDepth 100000 in
theorem okX9_init : OKM (yX9_init, cX9_init, 2, none, 9, 1, 1, 12, 2) kX9_init := by
  have h : kX9_init = kX9_init.take 60 ++ ((kX9_init.drop 60).take 60 ++ ((kX9_init.drop 120).take 60 ++ ((kX9_init.drop 180).take 60))) := rfl
  unfold OKM
  rw [h]
  exact List.forall_mem_append.mpr ⟨okX9_init_1, List.forall_mem_append.mpr ⟨okX9_init_2, List.forall_mem_append.mpr ⟨okX9_init_3, okX9_init_4⟩⟩⟩
set_option maxRecDepth 100000 in
theorem okX9_in : OKM (yX9_in, cX9_in, 3, (some .boolean), 9, 3, 0, 0, 0) kX9_in := by unfold OKM; decide +kernel
set_option maxRecDepth 100000 in
theorem okX9_isActive : OKM (yX9_isActive, cX9_isActive, 2, (some .boolean), 9, 2, 1, 22, 1) kX9_isActive := by unfold OKM; decide +kernel
set_option maxRecDepth 100000 in
theorem okX9_isIndex : OKM (yX9_isIndex, cX9_isIndex, 2, (some .boolean), 9, 2, 1, 22, 1) kX9_isIndex := by unfold OKM; decide +kernel
set_option maxRecDepth 100000 in
theorem okX9_isReady : OKM (yX9_isReady, cX9_isReady, 2, (some .boolean), 9, 2, 2, 43, 1) kX9_isReady := by unfold OKM; decide +kernel
set_option maxRecDepth 100000 in
theorem okX9_isPlace : OKM (yX9_isPlace, cX9_isPlace, 1, (some .boolean), 9, 1, 1, 22, 0) kX9_isPlace := by unfold OKM; decide +kernel
set_option maxRecDepth 100000 in
theorem okX9_isFree : OKM (yX9_isFree, cX9_isFree, 2, (some .boolean), 9, 2, 0, 0, 1) kX9_isFree := by unfold OKM; decide +kernel
set_option maxRecDepth 100000 in
theorem okX9_entryOf : OKM (yX9_entryOf, cX9_entryOf, 6, none, 9, 5, 0, 0, 1) kX9_entryOf := by unfold OKM; decide +kernel
set_option maxRecDepth 100000 in
theorem okX9_compare : OKM (yX9_compare, cX9_compare, 3, (some .int), 9, 2, 0, 0, 1) kX9_compare := by unfold OKM; decide +kernel
set_option maxRecDepth 100000 in
theorem okX9_copySlot : OKM (yX9_copySlot, cX9_copySlot, 4, none, 9, 3, 0, 0, 1) kX9_copySlot := by unfold OKM; decide +kernel
set_option maxRecDepth 100000 in
theorem okX9_fillSlot : OKM (yX9_fillSlot, cX9_fillSlot, 3, none, 9, 2, 0, 0, 1) kX9_fillSlot := by unfold OKM; decide +kernel
set_option maxRecDepth 100000 in
theorem okX9_node : OKM (yX9_node, cX9_node, 4, (some .int), 9, 2, 0, 0, 1) kX9_node := by unfold OKM; decide +kernel
set_option maxRecDepth 100000 in
theorem okX9_emptyTree : OKM (yX9_emptyTree, cX9_emptyTree, 3, none, 9, 2, 1, 23, 1) kX9_emptyTree := by unfold OKM; decide +kernel
set_option maxRecDepth 100000 in
theorem okX9_isLowest : OKM (yX9_isLowest, cX9_isLowest, 2, (some .boolean), 9, 2, 0, 0, 1) kX9_isLowest := by unfold OKM; decide +kernel
set_option maxRecDepth 100000 in
theorem okX9_slotFor : OKM (yX9_slotFor, cX9_slotFor, 3, (some .int), 9, 2, 1, 22, 1) kX9_slotFor := by unfold OKM; decide +kernel
set_option maxRecDepth 100000 in
theorem okX9_find_1 : OKM (yX9_find, cX9_find, 4, (some .boolean), 9, 2, 2, 44, 1) (kX9_find.take 60) := by unfold OKM; decide +kernel
set_option maxRecDepth 100000 in
theorem okX9_find_2 : OKM (yX9_find, cX9_find, 4, (some .boolean), 9, 2, 2, 44, 1) ((kX9_find.drop 60).take 60) := by unfold OKM; decide +kernel
set_option maxRecDepth 100000 in
theorem okX9_find : OKM (yX9_find, cX9_find, 4, (some .boolean), 9, 2, 2, 44, 1) kX9_find := by
  have h : kX9_find = kX9_find.take 60 ++ ((kX9_find.drop 60).take 60) := rfl
  unfold OKM
  rw [h]
  exact List.forall_mem_append.mpr ⟨okX9_find_1, okX9_find_2⟩
set_option maxRecDepth 100000 in
theorem okX9_addAt_1 : OKM (yX9_addAt, cX9_addAt, 5, none, 9, 4, 1, 23, 1) (kX9_addAt.take 60) := by unfold OKM; decide +kernel
set_option maxRecDepth 100000 in
theorem okX9_addAt_2 : OKM (yX9_addAt, cX9_addAt, 5, none, 9, 4, 1, 23, 1) ((kX9_addAt.drop 60).take 60) := by unfold OKM; decide +kernel
set_option maxRecDepth 100000 in
theorem okX9_addAt : OKM (yX9_addAt, cX9_addAt, 5, none, 9, 4, 1, 23, 1) kX9_addAt := by
  have h : kX9_addAt = kX9_addAt.take 60 ++ ((kX9_addAt.drop 60).take 60) := rfl
  unfold OKM
  rw [h]
  exact List.forall_mem_append.mpr ⟨okX9_addAt_1, okX9_addAt_2⟩
set_option maxRecDepth 100000 in
theorem okX9_takeSlot : OKM (yX9_takeSlot, cX9_takeSlot, 3, none, 9, 2, 0, 0, 1) kX9_takeSlot := by unfold OKM; decide +kernel
set_option maxRecDepth 100000 in
theorem okX9_comesToTree_1 : OKM (yX9_comesToTree, cX9_comesToTree, 5, none, 9, 2, 3, 67, 1) (kX9_comesToTree.take 60) := by unfold OKM; decide +kernel
set_option maxRecDepth 100000 in
theorem okX9_comesToTree_2 : OKM (yX9_comesToTree, cX9_comesToTree, 5, none, 9, 2, 3, 67, 1) ((kX9_comesToTree.drop 60).take 60) := by unfold OKM; decide +kernel
set_option maxRecDepth 100000 in
theorem okX9_comesToTree_3 : OKM (yX9_comesToTree, cX9_comesToTree, 5, none, 9, 2, 3, 67, 1) ((kX9_comesToTree.drop 120).take 60) := by unfold OKM; decide +kernel
set_option maxRecDepth 100000 in
theorem okX9_comesToTree : OKM (yX9_comesToTree, cX9_comesToTree, 5, none, 9, 2, 3, 67, 1) kX9_comesToTree := by
  have h : kX9_comesToTree = kX9_comesToTree.take 60 ++ ((kX9_comesToTree.drop 60).take 60 ++ ((kX9_comesToTree.drop 120).take 60)) := rfl
  unfold OKM
  rw [h]
  exact List.forall_mem_append.mpr ⟨okX9_comesToTree_1, List.forall_mem_append.mpr ⟨okX9_comesToTree_2, okX9_comesToTree_3⟩⟩
set_option maxRecDepth 100000 in
theorem okX9_takeOut_1 : OKM (yX9_takeOut, cX9_takeOut, 5, none, 9, 4, 1, 23, 1) (kX9_takeOut.take 60) := by unfold OKM; decide +kernel
set_option maxRecDepth 100000 in
theorem okX9_takeOut_2 : OKM (yX9_takeOut, cX9_takeOut, 5, none, 9, 4, 1, 23, 1) ((kX9_takeOut.drop 60).take 60) := by unfold OKM; decide +kernel
set_option maxRecDepth 100000 in
theorem okX9_takeOut : OKM (yX9_takeOut, cX9_takeOut, 5, none, 9, 4, 1, 23, 1) kX9_takeOut := by
  have h : kX9_takeOut = kX9_takeOut.take 60 ++ ((kX9_takeOut.drop 60).take 60) := rfl
  unfold OKM
  rw [h]
  exact List.forall_mem_append.mpr ⟨okX9_takeOut_1, okX9_takeOut_2⟩
set_option maxRecDepth 100000 in
theorem okX9_goesFromTree_1 : OKM (yX9_goesFromTree, cX9_goesFromTree, 6, none, 9, 2, 4, 98, 1) (kX9_goesFromTree.take 60) := by unfold OKM; decide +kernel
set_option maxRecDepth 100000 in
theorem okX9_goesFromTree_2 : OKM (yX9_goesFromTree, cX9_goesFromTree, 6, none, 9, 2, 4, 98, 1) ((kX9_goesFromTree.drop 60).take 60) := by unfold OKM; decide +kernel
set_option maxRecDepth 100000 in
theorem okX9_goesFromTree_3 : OKM (yX9_goesFromTree, cX9_goesFromTree, 6, none, 9, 2, 4, 98, 1) ((kX9_goesFromTree.drop 120).take 60) := by unfold OKM; decide +kernel
set_option maxRecDepth 100000 in
theorem okX9_goesFromTree : OKM (yX9_goesFromTree, cX9_goesFromTree, 6, none, 9, 2, 4, 98, 1) kX9_goesFromTree := by
  have h : kX9_goesFromTree = kX9_goesFromTree.take 60 ++ ((kX9_goesFromTree.drop 60).take 60 ++ ((kX9_goesFromTree.drop 120).take 60)) := rfl
  unfold OKM
  rw [h]
  exact List.forall_mem_append.mpr ⟨okX9_goesFromTree_1, List.forall_mem_append.mpr ⟨okX9_goesFromTree_2, okX9_goesFromTree_3⟩⟩
set_option maxRecDepth 100000 in
theorem okX9_settle_1 : OKM (yX9_settle, cX9_settle, 6, none, 9, 1, 3, 73, 1) (kX9_settle.take 60) := by unfold OKM; decide +kernel
set_option maxRecDepth 100000 in
theorem okX9_settle_2 : OKM (yX9_settle, cX9_settle, 6, none, 9, 1, 3, 73, 1) ((kX9_settle.drop 60).take 60) := by unfold OKM; decide +kernel
set_option maxRecDepth 100000 in
theorem okX9_settle_3 : OKM (yX9_settle, cX9_settle, 6, none, 9, 1, 3, 73, 1) ((kX9_settle.drop 120).take 60) := by unfold OKM; decide +kernel
set_option maxRecDepth 100000 in
theorem okX9_settle_4 : OKM (yX9_settle, cX9_settle, 6, none, 9, 1, 3, 73, 1) ((kX9_settle.drop 180).take 60) := by unfold OKM; decide +kernel
set_option maxRecDepth 100000 in
theorem okX9_settle_5 : OKM (yX9_settle, cX9_settle, 6, none, 9, 1, 3, 73, 1) ((kX9_settle.drop 240).take 60) := by unfold OKM; decide +kernel
set_option maxRecDepth 100000 in
theorem okX9_settle : OKM (yX9_settle, cX9_settle, 6, none, 9, 1, 3, 73, 1) kX9_settle := by
  have h : kX9_settle = kX9_settle.take 60 ++ ((kX9_settle.drop 60).take 60 ++ ((kX9_settle.drop 120).take 60 ++ ((kX9_settle.drop 180).take 60 ++ ((kX9_settle.drop 240).take 60)))) := rfl
  unfold OKM
  rw [h]
  exact List.forall_mem_append.mpr ⟨okX9_settle_1, List.forall_mem_append.mpr ⟨okX9_settle_2, List.forall_mem_append.mpr ⟨okX9_settle_3, List.forall_mem_append.mpr ⟨okX9_settle_4, okX9_settle_5⟩⟩⟩⟩
set_option maxRecDepth 100000 in
theorem okX9_join_1 : OKM (yX9_join, cX9_join, 7, none, 9, 5, 2, 47, 1) (kX9_join.take 60) := by unfold OKM; decide +kernel
set_option maxRecDepth 100000 in
theorem okX9_join_2 : OKM (yX9_join, cX9_join, 7, none, 9, 5, 2, 47, 1) ((kX9_join.drop 60).take 60) := by unfold OKM; decide +kernel
set_option maxRecDepth 100000 in
theorem okX9_join : OKM (yX9_join, cX9_join, 7, none, 9, 5, 2, 47, 1) kX9_join := by
  have h : kX9_join = kX9_join.take 60 ++ ((kX9_join.drop 60).take 60) := rfl
  unfold OKM
  rw [h]
  exact List.forall_mem_append.mpr ⟨okX9_join_1, okX9_join_2⟩
set_option maxRecDepth 100000 in
theorem okX9_goThrough_1 : OKM (yX9_goThrough, cX9_goThrough, 4, none, 9, 2, 1, 21, 1) (kX9_goThrough.take 60) := by unfold OKM; decide +kernel
set_option maxRecDepth 100000 in
theorem okX9_goThrough_2 : OKM (yX9_goThrough, cX9_goThrough, 4, none, 9, 2, 1, 21, 1) ((kX9_goThrough.drop 60).take 60) := by unfold OKM; decide +kernel
set_option maxRecDepth 100000 in
theorem okX9_goThrough_3 : OKM (yX9_goThrough, cX9_goThrough, 4, none, 9, 2, 1, 21, 1) ((kX9_goThrough.drop 120).take 60) := by unfold OKM; decide +kernel
set_option maxRecDepth 100000 in
theorem okX9_goThrough : OKM (yX9_goThrough, cX9_goThrough, 4, none, 9, 2, 1, 21, 1) kX9_goThrough := by
  have h : kX9_goThrough = kX9_goThrough.take 60 ++ ((kX9_goThrough.drop 60).take 60 ++ ((kX9_goThrough.drop 120).take 60)) := rfl
  unfold OKM
  rw [h]
  exact List.forall_mem_append.mpr ⟨okX9_goThrough_1, List.forall_mem_append.mpr ⟨okX9_goThrough_2, okX9_goThrough_3⟩⟩
set_option maxRecDepth 100000 in
theorem okX9_heightOf : OKM (yX9_heightOf, cX9_heightOf, 4, (some .int), 9, 2, 1, 21, 1) kX9_heightOf := by unfold OKM; decide +kernel
set_option maxRecDepth 100000 in
theorem okX9_nodesOf : OKM (yX9_nodesOf, cX9_nodesOf, 4, (some .int), 9, 2, 0, 0, 1) kX9_nodesOf := by unfold OKM; decide +kernel
set_option maxRecDepth 100000 in
theorem okX9_fail : OKM (yX9_fail, cX9_fail, 3, none, 9, 3, 2, 45, 1) kX9_fail := by unfold OKM; decide +kernel
set_option maxRecDepth 100000 in
theorem okX9_note_1 : OKM (yX9_note, cX9_note, 5, none, 9, 3, 5, 123, 1) (kX9_note.take 60) := by unfold OKM; decide +kernel
set_option maxRecDepth 100000 in
theorem okX9_note_2 : OKM (yX9_note, cX9_note, 5, none, 9, 3, 5, 123, 1) ((kX9_note.drop 60).take 60) := by unfold OKM; decide +kernel
set_option maxRecDepth 100000 in
theorem okX9_note : OKM (yX9_note, cX9_note, 5, none, 9, 3, 5, 123, 1) kX9_note := by
  have h : kX9_note = kX9_note.take 60 ++ ((kX9_note.drop 60).take 60) := rfl
  unfold OKM
  rw [h]
  exact List.forall_mem_append.mpr ⟨okX9_note_1, okX9_note_2⟩
set_option maxRecDepth 100000 in
theorem okX9_keepBefore : OKM (yX9_keepBefore, cX9_keepBefore, 3, none, 9, 2, 0, 0, 1) kX9_keepBefore := by unfold OKM; decide +kernel
set_option maxRecDepth 100000 in
theorem okX9_sameKey : OKM (yX9_sameKey, cX9_sameKey, 9, (some .boolean), 9, 6, 0, 0, 1) kX9_sameKey := by unfold OKM; decide +kernel
set_option maxRecDepth 100000 in
theorem okX9_hadKey : OKM (yX9_hadKey, cX9_hadKey, 4, (some .boolean), 9, 4, 1, 28, 1) kX9_hadKey := by unfold OKM; decide +kernel
set_option maxRecDepth 100000 in
theorem okX9_hasKey : OKM (yX9_hasKey, cX9_hasKey, 5, (some .boolean), 9, 5, 1, 28, 1) kX9_hasKey := by unfold OKM; decide +kernel
set_option maxRecDepth 100000 in
theorem okX9_changed_1 : OKM (yX9_changed, cX9_changed, 3, none, 9, 2, 6, 147, 1) (kX9_changed.take 60) := by unfold OKM; decide +kernel
set_option maxRecDepth 100000 in
theorem okX9_changed_2 : OKM (yX9_changed, cX9_changed, 3, none, 9, 2, 6, 147, 1) ((kX9_changed.drop 60).take 60) := by unfold OKM; decide +kernel
set_option maxRecDepth 100000 in
theorem okX9_changed : OKM (yX9_changed, cX9_changed, 3, none, 9, 2, 6, 147, 1) kX9_changed := by
  have h : kX9_changed = kX9_changed.take 60 ++ ((kX9_changed.drop 60).take 60) := rfl
  unfold OKM
  rw [h]
  exact List.forall_mem_append.mpr ⟨okX9_changed_1, okX9_changed_2⟩
set_option maxRecDepth 100000 in
theorem okX9_sharesKey : OKM (yX9_sharesKey, cX9_sharesKey, 7, (some .boolean), 9, 6, 1, 28, 1) kX9_sharesKey := by unfold OKM; decide +kernel
set_option maxRecDepth 100000 in
theorem okX9_clash_1 : OKM (yX9_clash, cX9_clash, 5, (some .boolean), 9, 4, 2, 54, 1) (kX9_clash.take 60) := by unfold OKM; decide +kernel
set_option maxRecDepth 100000 in
theorem okX9_clash_2 : OKM (yX9_clash, cX9_clash, 5, (some .boolean), 9, 4, 2, 54, 1) ((kX9_clash.drop 60).take 60) := by unfold OKM; decide +kernel
set_option maxRecDepth 100000 in
theorem okX9_clash : OKM (yX9_clash, cX9_clash, 5, (some .boolean), 9, 4, 2, 54, 1) kX9_clash := by
  have h : kX9_clash = kX9_clash.take 60 ++ ((kX9_clash.drop 60).take 60) := rfl
  unfold OKM
  rw [h]
  exact List.forall_mem_append.mpr ⟨okX9_clash_1, okX9_clash_2⟩
set_option maxRecDepth 100000 in
theorem okX9_clashOf : OKM (yX9_clashOf, cX9_clashOf, 4, (some .int), 9, 3, 3, 78, 1) kX9_clashOf := by unfold OKM; decide +kernel
set_option maxRecDepth 100000 in
theorem okX9_begin : OKM (yX9_begin, cX9_begin, 2, (some .int), 9, 1, 0, 0, 1) kX9_begin := by unfold OKM; decide +kernel
set_option maxRecDepth 100000 in
theorem okX9_write_1 : OKM (yX9_write, cX9_write, 8, (some .int), 9, 4, 7, 169, 1) (kX9_write.take 60) := by unfold OKM; decide +kernel
set_option maxRecDepth 100000 in
theorem okX9_write_2 : OKM (yX9_write, cX9_write, 8, (some .int), 9, 4, 7, 169, 1) ((kX9_write.drop 60).take 60) := by unfold OKM; decide +kernel
set_option maxRecDepth 100000 in
theorem okX9_write_3 : OKM (yX9_write, cX9_write, 8, (some .int), 9, 4, 7, 169, 1) ((kX9_write.drop 120).take 60) := by unfold OKM; decide +kernel
set_option maxRecDepth 100000 in
theorem okX9_write : OKM (yX9_write, cX9_write, 8, (some .int), 9, 4, 7, 169, 1) kX9_write := by
  have h : kX9_write = kX9_write.take 60 ++ ((kX9_write.drop 60).take 60 ++ ((kX9_write.drop 120).take 60)) := rfl
  unfold OKM
  rw [h]
  exact List.forall_mem_append.mpr ⟨okX9_write_1, List.forall_mem_append.mpr ⟨okX9_write_2, okX9_write_3⟩⟩
set_option maxRecDepth 100000 in
theorem okX9_insert : OKM (yX9_insert, cX9_insert, 8, (some .int), 9, 6, 8, 196, 1) kX9_insert := by unfold OKM; decide +kernel
set_option maxRecDepth 100000 in
theorem okX9_isLocked : OKM (yX9_isLocked, cX9_isLocked, 3, (some .boolean), 9, 3, 2, 42, 1) kX9_isLocked := by unfold OKM; decide +kernel
set_option maxRecDepth 100000 in
theorem okX9_update_1 : OKM (yX9_update, cX9_update, 6, (some .int), 9, 5, 8, 196, 1) (kX9_update.take 60) := by unfold OKM; decide +kernel
set_option maxRecDepth 100000 in
theorem okX9_update_2 : OKM (yX9_update, cX9_update, 6, (some .int), 9, 5, 8, 196, 1) ((kX9_update.drop 60).take 60) := by unfold OKM; decide +kernel
set_option maxRecDepth 100000 in
theorem okX9_update : OKM (yX9_update, cX9_update, 6, (some .int), 9, 5, 8, 196, 1) kX9_update := by
  have h : kX9_update = kX9_update.take 60 ++ ((kX9_update.drop 60).take 60) := rfl
  unfold OKM
  rw [h]
  exact List.forall_mem_append.mpr ⟨okX9_update_1, okX9_update_2⟩
set_option maxRecDepth 100000 in
theorem okX9_remove : OKM (yX9_remove, cX9_remove, 3, (some .int), 9, 3, 8, 196, 1) kX9_remove := by unfold OKM; decide +kernel
set_option maxRecDepth 100000 in
theorem okX9_records : OKM (yX9_records, cX9_records, 2, (some .int), 9, 2, 2, 43, 1) kX9_records := by unfold OKM; decide +kernel
set_option maxRecDepth 100000 in
theorem okX9_undoOne_1 : OKM (yX9_undoOne, cX9_undoOne, 5, none, 9, 2, 7, 169, 1) (kX9_undoOne.take 60) := by unfold OKM; decide +kernel
set_option maxRecDepth 100000 in
theorem okX9_undoOne_2 : OKM (yX9_undoOne, cX9_undoOne, 5, none, 9, 2, 7, 169, 1) ((kX9_undoOne.drop 60).take 60) := by unfold OKM; decide +kernel
set_option maxRecDepth 100000 in
theorem okX9_undoOne : OKM (yX9_undoOne, cX9_undoOne, 5, none, 9, 2, 7, 169, 1) kX9_undoOne := by
  have h : kX9_undoOne = kX9_undoOne.take 60 ++ ((kX9_undoOne.drop 60).take 60) := rfl
  unfold OKM
  rw [h]
  exact List.forall_mem_append.mpr ⟨okX9_undoOne_1, okX9_undoOne_2⟩
set_option maxRecDepth 100000 in
theorem okX9_undo : OKM (yX9_undo, cX9_undo, 3, (some .int), 9, 3, 9, 216, 1) kX9_undo := by unfold OKM; decide +kernel
set_option maxRecDepth 100000 in
theorem okX9_undoTo : OKM (yX9_undoTo, cX9_undoTo, 4, (some .int), 9, 3, 8, 193, 1) kX9_undoTo := by unfold OKM; decide +kernel
set_option maxRecDepth 100000 in
theorem okX9_wouldClash_1 : OKM (yX9_wouldClash, cX9_wouldClash, 7, (some .boolean), 9, 3, 4, 101, 1) (kX9_wouldClash.take 60) := by unfold OKM; decide +kernel
set_option maxRecDepth 100000 in
theorem okX9_wouldClash_2 : OKM (yX9_wouldClash, cX9_wouldClash, 7, (some .boolean), 9, 3, 4, 101, 1) ((kX9_wouldClash.drop 60).take 60) := by unfold OKM; decide +kernel
set_option maxRecDepth 100000 in
theorem okX9_wouldClash_3 : OKM (yX9_wouldClash, cX9_wouldClash, 7, (some .boolean), 9, 3, 4, 101, 1) ((kX9_wouldClash.drop 120).take 60) := by unfold OKM; decide +kernel
set_option maxRecDepth 100000 in
theorem okX9_wouldClash_4 : OKM (yX9_wouldClash, cX9_wouldClash, 7, (some .boolean), 9, 3, 4, 101, 1) ((kX9_wouldClash.drop 180).take 60) := by unfold OKM; decide +kernel
set_option maxRecDepth 100000 in
theorem okX9_wouldClash : OKM (yX9_wouldClash, cX9_wouldClash, 7, (some .boolean), 9, 3, 4, 101, 1) kX9_wouldClash := by
  have h : kX9_wouldClash = kX9_wouldClash.take 60 ++ ((kX9_wouldClash.drop 60).take 60 ++ ((kX9_wouldClash.drop 120).take 60 ++ ((kX9_wouldClash.drop 180).take 60))) := rfl
  unfold OKM
  rw [h]
  exact List.forall_mem_append.mpr ⟨okX9_wouldClash_1, List.forall_mem_append.mpr ⟨okX9_wouldClash_2, List.forall_mem_append.mpr ⟨okX9_wouldClash_3, okX9_wouldClash_4⟩⟩⟩
set_option maxRecDepth 100000 in
theorem okX9_commit_1 : OKM (yX9_commit, cX9_commit, 5, (some .int), 9, 2, 7, 169, 1) (kX9_commit.take 60) := by unfold OKM; decide +kernel
set_option maxRecDepth 100000 in
theorem okX9_commit_2 : OKM (yX9_commit, cX9_commit, 5, (some .int), 9, 2, 7, 169, 1) ((kX9_commit.drop 60).take 60) := by unfold OKM; decide +kernel
set_option maxRecDepth 100000 in
theorem okX9_commit : OKM (yX9_commit, cX9_commit, 5, (some .int), 9, 2, 7, 169, 1) kX9_commit := by
  have h : kX9_commit = kX9_commit.take 60 ++ ((kX9_commit.drop 60).take 60) := rfl
  unfold OKM
  rw [h]
  exact List.forall_mem_append.mpr ⟨okX9_commit_1, okX9_commit_2⟩
set_option maxRecDepth 100000 in
theorem okX9_abort : OKM (yX9_abort, cX9_abort, 3, (some .int), 9, 2, 9, 216, 1) kX9_abort := by unfold OKM; decide +kernel
set_option maxRecDepth 100000 in
theorem okX9_index_1 : OKM (yX9_index, cX9_index, 7, (some .int), 9, 5, 2, 45, 1) (kX9_index.take 60) := by unfold OKM; decide +kernel
set_option maxRecDepth 100000 in
theorem okX9_index_2 : OKM (yX9_index, cX9_index, 7, (some .int), 9, 5, 2, 45, 1) ((kX9_index.drop 60).take 60) := by unfold OKM; decide +kernel
set_option maxRecDepth 100000 in
theorem okX9_index_3 : OKM (yX9_index, cX9_index, 7, (some .int), 9, 5, 2, 45, 1) ((kX9_index.drop 120).take 60) := by unfold OKM; decide +kernel
set_option maxRecDepth 100000 in
theorem okX9_index : OKM (yX9_index, cX9_index, 7, (some .int), 9, 5, 2, 45, 1) kX9_index := by
  have h : kX9_index = kX9_index.take 60 ++ ((kX9_index.drop 60).take 60 ++ ((kX9_index.drop 120).take 60)) := rfl
  unfold OKM
  rw [h]
  exact List.forall_mem_append.mpr ⟨okX9_index_1, List.forall_mem_append.mpr ⟨okX9_index_2, okX9_index_3⟩⟩
set_option maxRecDepth 100000 in
theorem okX9_drop : OKM (yX9_drop, cX9_drop, 2, (some .int), 9, 2, 2, 43, 1) kX9_drop := by unfold OKM; decide +kernel
set_option maxRecDepth 100000 in
theorem okX9_pick_1 : OKM (yX9_pick, cX9_pick, 4, none, 9, 2, 1, 22, 1) (kX9_pick.take 60) := by unfold OKM; decide +kernel
set_option maxRecDepth 100000 in
theorem okX9_pick_2 : OKM (yX9_pick, cX9_pick, 4, none, 9, 2, 1, 22, 1) ((kX9_pick.drop 60).take 60) := by unfold OKM; decide +kernel
set_option maxRecDepth 100000 in
theorem okX9_pick : OKM (yX9_pick, cX9_pick, 4, none, 9, 2, 1, 22, 1) kX9_pick := by
  have h : kX9_pick = kX9_pick.take 60 ++ ((kX9_pick.drop 60).take 60) := rfl
  unfold OKM
  rw [h]
  exact List.forall_mem_append.mpr ⟨okX9_pick_1, okX9_pick_2⟩
set_option maxRecDepth 100000 in
theorem okX9_isBefore : OKM (yX9_isBefore, cX9_isBefore, 3, (some .boolean), 9, 2, 0, 0, 1) kX9_isBefore := by unfold OKM; decide +kernel
set_option maxRecDepth 100000 in
theorem okX9_scanStep_1 : OKM (yX9_scanStep, cX9_scanStep, 3, none, 9, 2, 2, 45, 1) (kX9_scanStep.take 60) := by unfold OKM; decide +kernel
set_option maxRecDepth 100000 in
theorem okX9_scanStep_2 : OKM (yX9_scanStep, cX9_scanStep, 3, none, 9, 2, 2, 45, 1) ((kX9_scanStep.drop 60).take 60) := by unfold OKM; decide +kernel
set_option maxRecDepth 100000 in
theorem okX9_scanStep : OKM (yX9_scanStep, cX9_scanStep, 3, none, 9, 2, 2, 45, 1) kX9_scanStep := by
  have h : kX9_scanStep = kX9_scanStep.take 60 ++ ((kX9_scanStep.drop 60).take 60) := rfl
  unfold OKM
  rw [h]
  exact List.forall_mem_append.mpr ⟨okX9_scanStep_1, okX9_scanStep_2⟩
set_option maxRecDepth 100000 in
theorem okX9_loadStep_1 : OKM (yX9_loadStep, cX9_loadStep, 5, none, 9, 2, 4, 91, 1) (kX9_loadStep.take 60) := by unfold OKM; decide +kernel
set_option maxRecDepth 100000 in
theorem okX9_loadStep_2 : OKM (yX9_loadStep, cX9_loadStep, 5, none, 9, 2, 4, 91, 1) ((kX9_loadStep.drop 60).take 60) := by unfold OKM; decide +kernel
set_option maxRecDepth 100000 in
theorem okX9_loadStep : OKM (yX9_loadStep, cX9_loadStep, 5, none, 9, 2, 4, 91, 1) kX9_loadStep := by
  have h : kX9_loadStep = kX9_loadStep.take 60 ++ ((kX9_loadStep.drop 60).take 60) := rfl
  unfold OKM
  rw [h]
  exact List.forall_mem_append.mpr ⟨okX9_loadStep_1, okX9_loadStep_2⟩
set_option maxRecDepth 100000 in
theorem okX9_catchStep_1 : OKM (yX9_catchStep, cX9_catchStep, 6, none, 9, 2, 5, 123, 1) (kX9_catchStep.take 60) := by unfold OKM; decide +kernel
set_option maxRecDepth 100000 in
theorem okX9_catchStep_2 : OKM (yX9_catchStep, cX9_catchStep, 6, none, 9, 2, 5, 123, 1) ((kX9_catchStep.drop 60).take 60) := by unfold OKM; decide +kernel
set_option maxRecDepth 100000 in
theorem okX9_catchStep_3 : OKM (yX9_catchStep, cX9_catchStep, 6, none, 9, 2, 5, 123, 1) ((kX9_catchStep.drop 120).take 60) := by unfold OKM; decide +kernel
set_option maxRecDepth 100000 in
theorem okX9_catchStep : OKM (yX9_catchStep, cX9_catchStep, 6, none, 9, 2, 5, 123, 1) kX9_catchStep := by
  have h : kX9_catchStep = kX9_catchStep.take 60 ++ ((kX9_catchStep.drop 60).take 60 ++ ((kX9_catchStep.drop 120).take 60)) := rfl
  unfold OKM
  rw [h]
  exact List.forall_mem_append.mpr ⟨okX9_catchStep_1, List.forall_mem_append.mpr ⟨okX9_catchStep_2, okX9_catchStep_3⟩⟩
set_option maxRecDepth 100000 in
theorem okX9_step : OKM (yX9_step, cX9_step, 4, (some .int), 9, 3, 6, 148, 1) kX9_step := by unfold OKM; decide +kernel
set_option maxRecDepth 100000 in
theorem okX9_info_1 : OKM (yX9_info, cX9_info, 3, (some .int), 9, 3, 2, 44, 1) (kX9_info.take 60) := by unfold OKM; decide +kernel
set_option maxRecDepth 100000 in
theorem okX9_info_2 : OKM (yX9_info, cX9_info, 3, (some .int), 9, 3, 2, 44, 1) ((kX9_info.drop 60).take 60) := by unfold OKM; decide +kernel
set_option maxRecDepth 100000 in
theorem okX9_info : OKM (yX9_info, cX9_info, 3, (some .int), 9, 3, 2, 44, 1) kX9_info := by
  have h : kX9_info = kX9_info.take 60 ++ ((kX9_info.drop 60).take 60) := rfl
  unfold OKM
  rw [h]
  exact List.forall_mem_append.mpr ⟨okX9_info_1, okX9_info_2⟩
set_option maxRecDepth 100000 in
theorem okX9_entry : OKM (yX9_entry, cX9_entry, 4, (some .int), 9, 4, 2, 44, 1) kX9_entry := by unfold OKM; decide +kernel
set_option maxRecDepth 100000 in
theorem okX9_where : OKM (yX9_where, cX9_where, 4, (some .int), 9, 4, 1, 22, 1) kX9_where := by unfold OKM; decide +kernel
set_option maxRecDepth 100000 in
theorem okX9_seesAny : OKM (yX9_seesAny, cX9_seesAny, 3, (some .boolean), 9, 3, 0, 0, 1) kX9_seesAny := by unfold OKM; decide +kernel
set_option maxRecDepth 100000 in
theorem okX9_seen : OKM (yX9_seen, cX9_seen, 4, (some .int), 9, 4, 0, 0, 1) kX9_seen := by unfold OKM; decide +kernel
set_option maxRecDepth 100000 in
theorem okX9_fits : OKM (yX9_fits, cX9_fits, 5, (some .boolean), 9, 3, 1, 23, 1) kX9_fits := by unfold OKM; decide +kernel
set_option maxRecDepth 100000 in
theorem okX9_isInRange : OKM (yX9_isInRange, cX9_isInRange, 6, (some .boolean), 9, 3, 1, 22, 1) kX9_isInRange := by unfold OKM; decide +kernel
set_option maxRecDepth 100000 in
theorem okX9_rangeOf : OKM (yX9_rangeOf, cX9_rangeOf, 4, (some .int), 9, 2, 2, 47, 1) kX9_rangeOf := by unfold OKM; decide +kernel
set_option maxRecDepth 100000 in
theorem okX9_costOf_1 : OKM (yX9_costOf, cX9_costOf, 6, (some .int), 9, 2, 3, 70, 1) (kX9_costOf.take 60) := by unfold OKM; decide +kernel
set_option maxRecDepth 100000 in
theorem okX9_costOf_2 : OKM (yX9_costOf, cX9_costOf, 6, (some .int), 9, 2, 3, 70, 1) ((kX9_costOf.drop 60).take 60) := by unfold OKM; decide +kernel
set_option maxRecDepth 100000 in
theorem okX9_costOf : OKM (yX9_costOf, cX9_costOf, 6, (some .int), 9, 2, 3, 70, 1) kX9_costOf := by
  have h : kX9_costOf = kX9_costOf.take 60 ++ ((kX9_costOf.drop 60).take 60) := rfl
  unfold OKM
  rw [h]
  exact List.forall_mem_append.mpr ⟨okX9_costOf_1, okX9_costOf_2⟩
set_option maxRecDepth 100000 in
theorem okX9_hasSeenKey : OKM (yX9_hasSeenKey, cX9_hasSeenKey, 7, (some .boolean), 9, 4, 1, 23, 1) kX9_hasSeenKey := by unfold OKM; decide +kernel
set_option maxRecDepth 100000 in
theorem okX9_isSeer : OKM (yX9_isSeer, cX9_isSeer, 2, (some .boolean), 9, 2, 2, 43, 1) kX9_isSeer := by unfold OKM; decide +kernel
set_option maxRecDepth 100000 in
theorem okX9_ask_1 : OKM (yX9_ask, cX9_ask, 7, (some .int), 9, 3, 4, 95, 1) (kX9_ask.take 60) := by unfold OKM; decide +kernel
set_option maxRecDepth 100000 in
theorem okX9_ask_2 : OKM (yX9_ask, cX9_ask, 7, (some .int), 9, 3, 4, 95, 1) ((kX9_ask.drop 60).take 60) := by unfold OKM; decide +kernel
set_option maxRecDepth 100000 in
theorem okX9_ask_3 : OKM (yX9_ask, cX9_ask, 7, (some .int), 9, 3, 4, 95, 1) ((kX9_ask.drop 120).take 60) := by unfold OKM; decide +kernel
set_option maxRecDepth 100000 in
theorem okX9_ask : OKM (yX9_ask, cX9_ask, 7, (some .int), 9, 3, 4, 95, 1) kX9_ask := by
  have h : kX9_ask = kX9_ask.take 60 ++ ((kX9_ask.drop 60).take 60 ++ ((kX9_ask.drop 120).take 60)) := rfl
  unfold OKM
  rw [h]
  exact List.forall_mem_append.mpr ⟨okX9_ask_1, List.forall_mem_append.mpr ⟨okX9_ask_2, okX9_ask_3⟩⟩
set_option maxRecDepth 100000 in
theorem okX9_answer : OKM (yX9_answer, cX9_answer, 2, (some .int), 9, 2, 1, 22, 1) kX9_answer := by unfold OKM; decide +kernel
set_option maxRecDepth 100000 in
theorem okX9_asked : OKM (yX9_asked, cX9_asked, 2, (some .int), 9, 2, 0, 0, 1) kX9_asked := by unfold OKM; decide +kernel
set_option maxRecDepth 100000 in
theorem okX9_cost : OKM (yX9_cost, cX9_cost, 2, (some .int), 9, 2, 4, 95, 1) kX9_cost := by unfold OKM; decide +kernel
set_option maxRecDepth 100000 in
theorem okX9_sees : OKM (yX9_sees, cX9_sees, 3, (some .int), 9, 3, 3, 64, 1) kX9_sees := by unfold OKM; decide +kernel
set_option maxRecDepth 100000 in
theorem okX9_field : OKM (yX9_field, cX9_field, 4, (some .int), 9, 4, 3, 64, 1) kX9_field := by unfold OKM; decide +kernel
set_option maxRecDepth 100000 in
theorem okX9_writer : OKM (yX9_writer, cX9_writer, 2, (some .int), 9, 2, 2, 42, 1) kX9_writer := by unfold OKM; decide +kernel
set_option maxRecDepth 100000 in
theorem okX9_count_1 : OKM (yX9_count, cX9_count, 4, (some .int), 9, 2, 3, 64, 1) (kX9_count.take 60) := by unfold OKM; decide +kernel
set_option maxRecDepth 100000 in
theorem okX9_count_2 : OKM (yX9_count, cX9_count, 4, (some .int), 9, 2, 3, 64, 1) ((kX9_count.drop 60).take 60) := by unfold OKM; decide +kernel
set_option maxRecDepth 100000 in
theorem okX9_count : OKM (yX9_count, cX9_count, 4, (some .int), 9, 2, 3, 64, 1) kX9_count := by
  have h : kX9_count = kX9_count.take 60 ++ ((kX9_count.drop 60).take 60) := rfl
  unfold OKM
  rw [h]
  exact List.forall_mem_append.mpr ⟨okX9_count_1, okX9_count_2⟩
set_option maxRecDepth 100000 in
theorem okX9_entriesOf_1 : OKM (yX9_entriesOf, cX9_entriesOf, 5, (some .int), 9, 2, 1, 28, 1) (kX9_entriesOf.take 60) := by unfold OKM; decide +kernel
set_option maxRecDepth 100000 in
theorem okX9_entriesOf_2 : OKM (yX9_entriesOf, cX9_entriesOf, 5, (some .int), 9, 2, 1, 28, 1) ((kX9_entriesOf.drop 60).take 60) := by unfold OKM; decide +kernel
set_option maxRecDepth 100000 in
theorem okX9_entriesOf : OKM (yX9_entriesOf, cX9_entriesOf, 5, (some .int), 9, 2, 1, 28, 1) kX9_entriesOf := by
  have h : kX9_entriesOf = kX9_entriesOf.take 60 ++ ((kX9_entriesOf.drop 60).take 60) := rfl
  unfold OKM
  rw [h]
  exact List.forall_mem_append.mpr ⟨okX9_entriesOf_1, okX9_entriesOf_2⟩
set_option maxRecDepth 100000 in
theorem okX9_audit_1 : OKM (yX9_audit, cX9_audit, 5, (some .int), 9, 1, 4, 101, 1) (kX9_audit.take 60) := by unfold OKM; decide +kernel
set_option maxRecDepth 100000 in
theorem okX9_audit_2 : OKM (yX9_audit, cX9_audit, 5, (some .int), 9, 1, 4, 101, 1) ((kX9_audit.drop 60).take 60) := by unfold OKM; decide +kernel
set_option maxRecDepth 100000 in
theorem okX9_audit : OKM (yX9_audit, cX9_audit, 5, (some .int), 9, 1, 4, 101, 1) kX9_audit := by
  have h : kX9_audit = kX9_audit.take 60 ++ ((kX9_audit.drop 60).take 60) := rfl
  unfold OKM
  rw [h]
  exact List.forall_mem_append.mpr ⟨okX9_audit_1, okX9_audit_2⟩
set_option maxRecDepth 100000 in
theorem okJ7_fill_53178 : OKM (yJ7_fill_53178, cJ7_fill_53178, 4, none, 12, 2, 0, 0, 0) kJ7_fill_53178 := by unfold OKM; decide +kernel
set_option maxRecDepth 100000 in
theorem okL_law_1 : OKM (yL_law, code, 4, (some .boolean), 10, 1, 10, 238, 0) (kL_law.take 60) := by unfold OKM; decide +kernel
set_option maxRecDepth 100000 in
theorem okL_law_2 : OKM (yL_law, code, 4, (some .boolean), 10, 1, 10, 238, 0) ((kL_law.drop 60).take 60) := by unfold OKM; decide +kernel
set_option maxRecDepth 100000 in
theorem okL_law_3 : OKM (yL_law, code, 4, (some .boolean), 10, 1, 10, 238, 0) ((kL_law.drop 120).take 60) := by unfold OKM; decide +kernel
set_option maxRecDepth 100000 in
theorem okL_law_4 : OKM (yL_law, code, 4, (some .boolean), 10, 1, 10, 238, 0) ((kL_law.drop 180).take 60) := by unfold OKM; decide +kernel
set_option maxRecDepth 100000 in
theorem okL_law_5 : OKM (yL_law, code, 4, (some .boolean), 10, 1, 10, 238, 0) ((kL_law.drop 240).take 60) := by unfold OKM; decide +kernel
set_option maxRecDepth 100000 in
theorem okL_law_6 : OKM (yL_law, code, 4, (some .boolean), 10, 1, 10, 238, 0) ((kL_law.drop 300).take 60) := by unfold OKM; decide +kernel
set_option maxRecDepth 100000 in
theorem okL_law_7 : OKM (yL_law, code, 4, (some .boolean), 10, 1, 10, 238, 0) ((kL_law.drop 360).take 60) := by unfold OKM; decide +kernel
set_option maxRecDepth 100000 in
theorem okL_law_8 : OKM (yL_law, code, 4, (some .boolean), 10, 1, 10, 238, 0) ((kL_law.drop 420).take 60) := by unfold OKM; decide +kernel
set_option maxRecDepth 100000 in
theorem okL_law_9 : OKM (yL_law, code, 4, (some .boolean), 10, 1, 10, 238, 0) ((kL_law.drop 480).take 60) := by unfold OKM; decide +kernel
set_option maxRecDepth 100000 in
theorem okL_law_10 : OKM (yL_law, code, 4, (some .boolean), 10, 1, 10, 238, 0) ((kL_law.drop 540).take 60) := by unfold OKM; decide +kernel
set_option maxRecDepth 100000 in
theorem okL_law_11 : OKM (yL_law, code, 4, (some .boolean), 10, 1, 10, 238, 0) ((kL_law.drop 600).take 60) := by unfold OKM; decide +kernel
set_option maxRecDepth 100000 in
theorem okL_law : OKM (yL_law, code, 4, (some .boolean), 10, 1, 10, 238, 0) kL_law := by
  have h : kL_law = kL_law.take 60 ++ ((kL_law.drop 60).take 60 ++ ((kL_law.drop 120).take 60 ++ ((kL_law.drop 180).take 60 ++ ((kL_law.drop 240).take 60 ++ ((kL_law.drop 300).take 60 ++ ((kL_law.drop 360).take 60 ++ ((kL_law.drop 420).take 60 ++ ((kL_law.drop 480).take 60 ++ ((kL_law.drop 540).take 60 ++ ((kL_law.drop 600).take 60)))))))))) := rfl
  unfold OKM
  rw [h]
  exact List.forall_mem_append.mpr ⟨okL_law_1, List.forall_mem_append.mpr ⟨okL_law_2, List.forall_mem_append.mpr ⟨okL_law_3, List.forall_mem_append.mpr ⟨okL_law_4, List.forall_mem_append.mpr ⟨okL_law_5, List.forall_mem_append.mpr ⟨okL_law_6, List.forall_mem_append.mpr ⟨okL_law_7, List.forall_mem_append.mpr ⟨okL_law_8, List.forall_mem_append.mpr ⟨okL_law_9, List.forall_mem_append.mpr ⟨okL_law_10, okL_law_11⟩⟩⟩⟩⟩⟩⟩⟩⟩⟩
theorem okz_0 : ∀ p ∈ mT0.zip cd0, OKM p.1 p.2 := List.forall_mem_cons.mpr ⟨okX0_init, List.forall_mem_cons.mpr ⟨okX0_word, List.forall_mem_cons.mpr ⟨okX0_set, List.forall_mem_cons.mpr ⟨okX0_copy, List.forall_mem_cons.mpr ⟨okX0_compare, List.forall_mem_cons.mpr ⟨okX1_init, List.forall_mem_cons.mpr ⟨okX1_has, List.forall_mem_cons.mpr ⟨okX1_valueOf, List.forall_mem_cons.mpr ⟨okX1_set, List.forall_mem_cons.mpr ⟨okX1_put, List.forall_mem_cons.mpr ⟨okX1_clear, List.forall_mem_cons.mpr ⟨okX1_copy, List.forall_mem_cons.mpr ⟨okX1_copyAll, List.forall_mem_cons.mpr ⟨okX2_init, List.forall_mem_cons.mpr ⟨okX2_start, List.forall_mem_cons.mpr ⟨okX2_forgetEntries, List.forall_mem_cons.mpr ⟨okX2_isBuilding, List.forall_mem_cons.mpr ⟨okX2_isGuard, List.forall_mem_cons.mpr ⟨okX2_haveOneKey, List.forall_mem_cons.mpr ⟨okX2_makeEntry, List.forall_mem_cons.mpr ⟨okX2_hasKeyOf, List.forall_mem_cons.mpr ⟨okX2_makeComing, List.forall_mem_cons.mpr ⟨okX2_makeGoing, List.forall_mem_cons.mpr ⟨okX2_takeMade, List.forall_mem_cons.mpr ⟨okX2_fail, List.forall_mem_cons.mpr ⟨okX2_takeStep, List.forall_mem_cons.mpr ⟨okX2_scanPage, List.forall_mem_cons.mpr ⟨okX2_loadSome, List.forall_mem_cons.mpr ⟨okX2_catchUp, List.forall_mem_cons.mpr ⟨okX2_finish, (fun _ h => absurd h List.not_mem_nil)⟩⟩⟩⟩⟩⟩⟩⟩⟩⟩⟩⟩⟩⟩⟩⟩⟩⟩⟩⟩⟩⟩⟩⟩⟩⟩⟩⟩⟩⟩
theorem okz_1 : ∀ p ∈ mT1.zip cd1, OKM p.1 p.2 := List.forall_mem_cons.mpr ⟨okX2_leastWithClash, List.forall_mem_cons.mpr ⟨okX2_leastClashWith, List.forall_mem_cons.mpr ⟨okX2_isClash, List.forall_mem_cons.mpr ⟨okX2_rangeSize, List.forall_mem_cons.mpr ⟨okX2_isInRange, List.forall_mem_cons.mpr ⟨okX2_faults, List.forall_mem_cons.mpr ⟨okX2_missing, List.forall_mem_cons.mpr ⟨okX3_init, List.forall_mem_cons.mpr ⟨okX3_clear, List.forall_mem_cons.mpr ⟨okX3_isFull, List.forall_mem_cons.mpr ⟨okX3_add, List.forall_mem_cons.mpr ⟨okX3_firstSlot, List.forall_mem_cons.mpr ⟨okX3_firstCame, List.forall_mem_cons.mpr ⟨okX3_takeFirst, List.forall_mem_cons.mpr ⟨okX4_init, List.forall_mem_cons.mpr ⟨okX4_clear, List.forall_mem_cons.mpr ⟨okX4_add, List.forall_mem_cons.mpr ⟨okX4_slotOf, List.forall_mem_cons.mpr ⟨okX4_take, List.forall_mem_cons.mpr ⟨okX5_init, List.forall_mem_cons.mpr ⟨okX5_copyFrom, List.forall_mem_cons.mpr ⟨okX5_isFree, List.forall_mem_cons.mpr ⟨okX5_placesInUse, List.forall_mem_cons.mpr ⟨okX5_seenBy, List.forall_mem_cons.mpr ⟨okX6_init, List.forall_mem_cons.mpr ⟨okX6_isFull, List.forall_mem_cons.mpr ⟨okX6_add, List.forall_mem_cons.mpr ⟨okX6_putBack, List.forall_mem_cons.mpr ⟨okX7_init, List.forall_mem_cons.mpr ⟨okX7_empty, (fun _ h => absurd h List.not_mem_nil)⟩⟩⟩⟩⟩⟩⟩⟩⟩⟩⟩⟩⟩⟩⟩⟩⟩⟩⟩⟩⟩⟩⟩⟩⟩⟩⟩⟩⟩⟩
theorem okz_2 : ∀ p ∈ mT2.zip cd2, OKM p.1 p.2 := List.forall_mem_cons.mpr ⟨okX7_size, List.forall_mem_cons.mpr ⟨okX7_nodes, List.forall_mem_cons.mpr ⟨okX7_height, List.forall_mem_cons.mpr ⟨okX7_wordAt, List.forall_mem_cons.mpr ⟨okX7_depthAt, List.forall_mem_cons.mpr ⟨okX7_holds, List.forall_mem_cons.mpr ⟨okX7_add, List.forall_mem_cons.mpr ⟨okX7_cut, List.forall_mem_cons.mpr ⟨okX7_isLowest, List.forall_mem_cons.mpr ⟨okX7_takeNode, List.forall_mem_cons.mpr ⟨okX7_giveNode, List.forall_mem_cons.mpr ⟨okX7_find, List.forall_mem_cons.mpr ⟨okX7_goToGreatestBelow, List.forall_mem_cons.mpr ⟨okX7_putInto, List.forall_mem_cons.mpr ⟨okX7_takeOut, List.forall_mem_cons.mpr ⟨okX7_splitUpwards, List.forall_mem_cons.mpr ⟨okX7_halve, List.forall_mem_cons.mpr ⟨okX7_mendUpwards, List.forall_mem_cons.mpr ⟨okX7_takeFromLeft, List.forall_mem_cons.mpr ⟨okX7_takeFromRight, List.forall_mem_cons.mpr ⟨okX7_joinAround, List.forall_mem_cons.mpr ⟨okX7_walkAll, List.forall_mem_cons.mpr ⟨okX7_noteWalked, List.forall_mem_cons.mpr ⟨okX7_faults, List.forall_mem_cons.mpr ⟨okX7_nodeFaults, List.forall_mem_cons.mpr ⟨okX8_init, List.forall_mem_cons.mpr ⟨okX8_begin, List.forall_mem_cons.mpr ⟨okX8_insert, List.forall_mem_cons.mpr ⟨okX8_update, List.forall_mem_cons.mpr ⟨okX8_remove, (fun _ h => absurd h List.not_mem_nil)⟩⟩⟩⟩⟩⟩⟩⟩⟩⟩⟩⟩⟩⟩⟩⟩⟩⟩⟩⟩⟩⟩⟩⟩⟩⟩⟩⟩⟩⟩
theorem okz_3 : ∀ p ∈ mT3.zip cd3, OKM p.1 p.2 := List.forall_mem_cons.mpr ⟨okX8_records, List.forall_mem_cons.mpr ⟨okX8_undo, List.forall_mem_cons.mpr ⟨okX8_commit, List.forall_mem_cons.mpr ⟨okX8_abort, List.forall_mem_cons.mpr ⟨okX8_isActive, List.forall_mem_cons.mpr ⟨okX8_isPlace, List.forall_mem_cons.mpr ⟨okX8_isField, List.forall_mem_cons.mpr ⟨okX8_isLocked, List.forall_mem_cons.mpr ⟨okX8_hasRow, List.forall_mem_cons.mpr ⟨okX8_leastFreePlace, List.forall_mem_cons.mpr ⟨okX8_write, List.forall_mem_cons.mpr ⟨okX8_undoTo, List.forall_mem_cons.mpr ⟨okX8_tellIndexes, List.forall_mem_cons.mpr ⟨okX8_wouldClash, List.forall_mem_cons.mpr ⟨okX8_undoWouldClash, List.forall_mem_cons.mpr ⟨okX8_hasGuard, List.forall_mem_cons.mpr ⟨okX8_clashesIn, List.forall_mem_cons.mpr ⟨okX8_index, List.forall_mem_cons.mpr ⟨okX8_drop, List.forall_mem_cons.mpr ⟨okX8_step, List.forall_mem_cons.mpr ⟨okX8_info, List.forall_mem_cons.mpr ⟨okX8_entry, List.forall_mem_cons.mpr ⟨okX8_isIndex, List.forall_mem_cons.mpr ⟨okX8_isKey, List.forall_mem_cons.mpr ⟨okX8_where, List.forall_mem_cons.mpr ⟨okX8_ask, List.forall_mem_cons.mpr ⟨okX8_answer, List.forall_mem_cons.mpr ⟨okX8_asked, List.forall_mem_cons.mpr ⟨okX8_cost, List.forall_mem_cons.mpr ⟨okX8_isReady, (fun _ h => absurd h List.not_mem_nil)⟩⟩⟩⟩⟩⟩⟩⟩⟩⟩⟩⟩⟩⟩⟩⟩⟩⟩⟩⟩⟩⟩⟩⟩⟩⟩⟩⟩⟩⟩
theorem okz_4 : ∀ p ∈ mT4.zip cd4, OKM p.1 p.2 := List.forall_mem_cons.mpr ⟨okX8_cheapestWay, List.forall_mem_cons.mpr ⟨okX8_costOf, List.forall_mem_cons.mpr ⟨okX8_pagesInUse, List.forall_mem_cons.mpr ⟨okX8_answerByScan, List.forall_mem_cons.mpr ⟨okX8_answerByIndex, List.forall_mem_cons.mpr ⟨okX8_fits, List.forall_mem_cons.mpr ⟨okX8_tell, List.forall_mem_cons.mpr ⟨okX8_sees, List.forall_mem_cons.mpr ⟨okX8_field, List.forall_mem_cons.mpr ⟨okX8_writer, List.forall_mem_cons.mpr ⟨okX8_count, List.forall_mem_cons.mpr ⟨okX8_audit, List.forall_mem_cons.mpr ⟨okX8_activeTransactions, List.forall_mem_cons.mpr ⟨okX8_indexesFrom, List.forall_mem_cons.mpr ⟨okX9_init, List.forall_mem_cons.mpr ⟨okX9_in, List.forall_mem_cons.mpr ⟨okX9_isActive, List.forall_mem_cons.mpr ⟨okX9_isIndex, List.forall_mem_cons.mpr ⟨okX9_isReady, List.forall_mem_cons.mpr ⟨okX9_isPlace, List.forall_mem_cons.mpr ⟨okX9_isFree, List.forall_mem_cons.mpr ⟨okX9_entryOf, List.forall_mem_cons.mpr ⟨okX9_compare, List.forall_mem_cons.mpr ⟨okX9_copySlot, List.forall_mem_cons.mpr ⟨okX9_fillSlot, List.forall_mem_cons.mpr ⟨okX9_node, List.forall_mem_cons.mpr ⟨okX9_emptyTree, List.forall_mem_cons.mpr ⟨okX9_isLowest, List.forall_mem_cons.mpr ⟨okX9_slotFor, List.forall_mem_cons.mpr ⟨okX9_find, (fun _ h => absurd h List.not_mem_nil)⟩⟩⟩⟩⟩⟩⟩⟩⟩⟩⟩⟩⟩⟩⟩⟩⟩⟩⟩⟩⟩⟩⟩⟩⟩⟩⟩⟩⟩⟩
theorem okz_5 : ∀ p ∈ mT5.zip cd5, OKM p.1 p.2 := List.forall_mem_cons.mpr ⟨okX9_addAt, List.forall_mem_cons.mpr ⟨okX9_takeSlot, List.forall_mem_cons.mpr ⟨okX9_comesToTree, List.forall_mem_cons.mpr ⟨okX9_takeOut, List.forall_mem_cons.mpr ⟨okX9_goesFromTree, List.forall_mem_cons.mpr ⟨okX9_settle, List.forall_mem_cons.mpr ⟨okX9_join, List.forall_mem_cons.mpr ⟨okX9_goThrough, List.forall_mem_cons.mpr ⟨okX9_heightOf, List.forall_mem_cons.mpr ⟨okX9_nodesOf, List.forall_mem_cons.mpr ⟨okX9_fail, List.forall_mem_cons.mpr ⟨okX9_note, List.forall_mem_cons.mpr ⟨okX9_keepBefore, List.forall_mem_cons.mpr ⟨okX9_sameKey, List.forall_mem_cons.mpr ⟨okX9_hadKey, List.forall_mem_cons.mpr ⟨okX9_hasKey, List.forall_mem_cons.mpr ⟨okX9_changed, List.forall_mem_cons.mpr ⟨okX9_sharesKey, List.forall_mem_cons.mpr ⟨okX9_clash, List.forall_mem_cons.mpr ⟨okX9_clashOf, List.forall_mem_cons.mpr ⟨okX9_begin, List.forall_mem_cons.mpr ⟨okX9_write, List.forall_mem_cons.mpr ⟨okX9_insert, List.forall_mem_cons.mpr ⟨okX9_isLocked, List.forall_mem_cons.mpr ⟨okX9_update, List.forall_mem_cons.mpr ⟨okX9_remove, List.forall_mem_cons.mpr ⟨okX9_records, List.forall_mem_cons.mpr ⟨okX9_undoOne, List.forall_mem_cons.mpr ⟨okX9_undo, List.forall_mem_cons.mpr ⟨okX9_undoTo, (fun _ h => absurd h List.not_mem_nil)⟩⟩⟩⟩⟩⟩⟩⟩⟩⟩⟩⟩⟩⟩⟩⟩⟩⟩⟩⟩⟩⟩⟩⟩⟩⟩⟩⟩⟩⟩
theorem okz_6 : ∀ p ∈ mT6.zip cd6, OKM p.1 p.2 := List.forall_mem_cons.mpr ⟨okX9_wouldClash, List.forall_mem_cons.mpr ⟨okX9_commit, List.forall_mem_cons.mpr ⟨okX9_abort, List.forall_mem_cons.mpr ⟨okX9_index, List.forall_mem_cons.mpr ⟨okX9_drop, List.forall_mem_cons.mpr ⟨okX9_pick, List.forall_mem_cons.mpr ⟨okX9_isBefore, List.forall_mem_cons.mpr ⟨okX9_scanStep, List.forall_mem_cons.mpr ⟨okX9_loadStep, List.forall_mem_cons.mpr ⟨okX9_catchStep, List.forall_mem_cons.mpr ⟨okX9_step, List.forall_mem_cons.mpr ⟨okX9_info, List.forall_mem_cons.mpr ⟨okX9_entry, List.forall_mem_cons.mpr ⟨okX9_where, List.forall_mem_cons.mpr ⟨okX9_seesAny, List.forall_mem_cons.mpr ⟨okX9_seen, List.forall_mem_cons.mpr ⟨okX9_fits, List.forall_mem_cons.mpr ⟨okX9_isInRange, List.forall_mem_cons.mpr ⟨okX9_rangeOf, List.forall_mem_cons.mpr ⟨okX9_costOf, List.forall_mem_cons.mpr ⟨okX9_hasSeenKey, List.forall_mem_cons.mpr ⟨okX9_isSeer, List.forall_mem_cons.mpr ⟨okX9_ask, List.forall_mem_cons.mpr ⟨okX9_answer, List.forall_mem_cons.mpr ⟨okX9_asked, List.forall_mem_cons.mpr ⟨okX9_cost, List.forall_mem_cons.mpr ⟨okX9_sees, List.forall_mem_cons.mpr ⟨okX9_field, List.forall_mem_cons.mpr ⟨okX9_writer, List.forall_mem_cons.mpr ⟨okX9_count, (fun _ h => absurd h List.not_mem_nil)⟩⟩⟩⟩⟩⟩⟩⟩⟩⟩⟩⟩⟩⟩⟩⟩⟩⟩⟩⟩⟩⟩⟩⟩⟩⟩⟩⟩⟩⟩
theorem okz_7 : ∀ p ∈ mT7.zip cd7, OKM p.1 p.2 := List.forall_mem_cons.mpr ⟨okX9_entriesOf, List.forall_mem_cons.mpr ⟨okX9_audit, List.forall_mem_cons.mpr ⟨okJ7_fill_53178, List.forall_mem_cons.mpr ⟨okL_law, (fun _ h => absurd h List.not_mem_nil)⟩⟩⟩⟩
theorem zipG {α β : Type} {l : List α} {r : List β} {i : Nat} {x : α} {y : β} (h1 : l[i]? = some x) (h2 : r[i]? = some y) : (x, y) ∈ l.zip r := by
  refine List.mem_of_getElem? (i := i) ?_
  rw [List.getElem?_zip_eq_some]
  exact ⟨h1, h2⟩
theorem okAll {f : Nat} {mm : MT} (h : mT f = some mm) : OKM mm (cd f) := by
  unfold mT at h
  unfold cd
  split at h
  · show OKM mm ((cd0[f % 30]?).getD [])
    cases hc : cd0[f % 30]? with
    | none => exact fun e he => absurd he List.not_mem_nil
    | some k => exact okz_0 (mm, k) (zipG h hc)
  · show OKM mm ((cd1[f % 30]?).getD [])
    cases hc : cd1[f % 30]? with
    | none => exact fun e he => absurd he List.not_mem_nil
    | some k => exact okz_1 (mm, k) (zipG h hc)
  · show OKM mm ((cd2[f % 30]?).getD [])
    cases hc : cd2[f % 30]? with
    | none => exact fun e he => absurd he List.not_mem_nil
    | some k => exact okz_2 (mm, k) (zipG h hc)
  · show OKM mm ((cd3[f % 30]?).getD [])
    cases hc : cd3[f % 30]? with
    | none => exact fun e he => absurd he List.not_mem_nil
    | some k => exact okz_3 (mm, k) (zipG h hc)
  · show OKM mm ((cd4[f % 30]?).getD [])
    cases hc : cd4[f % 30]? with
    | none => exact fun e he => absurd he List.not_mem_nil
    | some k => exact okz_4 (mm, k) (zipG h hc)
  · show OKM mm ((cd5[f % 30]?).getD [])
    cases hc : cd5[f % 30]? with
    | none => exact fun e he => absurd he List.not_mem_nil
    | some k => exact okz_5 (mm, k) (zipG h hc)
  · show OKM mm ((cd6[f % 30]?).getD [])
    cases hc : cd6[f % 30]? with
    | none => exact fun e he => absurd he List.not_mem_nil
    | some k => exact okz_6 (mm, k) (zipG h hc)
  · show OKM mm ((cd7[f % 30]?).getD [])
    cases hc : cd7[f % 30]? with
    | none => exact fun e he => absurd he List.not_mem_nil
    | some k => exact okz_7 (mm, k) (zipG h hc)
  · cases h
theorem mwAll {f : Nat} {mm : MT} (h : mT f = some mm) (hf : f < 213) : MW mm ∧ MX mm = true := by
  unfold mT at h
  split at h
  · exact ⟨mw_0 mm (List.mem_of_getElem? h), mx_0 mm (List.mem_of_getElem? h)⟩
  · exact ⟨mw_1 mm (List.mem_of_getElem? h), mx_1 mm (List.mem_of_getElem? h)⟩
  · exact ⟨mw_2 mm (List.mem_of_getElem? h), mx_2 mm (List.mem_of_getElem? h)⟩
  · exact ⟨mw_3 mm (List.mem_of_getElem? h), mx_3 mm (List.mem_of_getElem? h)⟩
  · exact ⟨mw_4 mm (List.mem_of_getElem? h), mx_4 mm (List.mem_of_getElem? h)⟩
  · exact ⟨mw_5 mm (List.mem_of_getElem? h), mx_5 mm (List.mem_of_getElem? h)⟩
  · exact ⟨mw_6 mm (List.mem_of_getElem? h), mx_6 mm (List.mem_of_getElem? h)⟩
  · rename_i hj
    have hm : mm ∈ mT7.take 3 := by
      refine List.mem_of_getElem? (i := f % 30) ?_
      rw [List.getElem?_take_of_lt (by omega)]
      exact h
    exact ⟨mw_7 mm hm, mx_7 mm hm⟩
  · cases h
end
section
/-! THE FLAT MACHINE AND THE MACHINE: worlds, locals, words -/
def fvL (ad : Nat → Nat) (rf : Nat → Option Nat) (iv : Nat → Int32) : List Nat → Nat → List Value
  | [], _ => []
  | b :: bs, j => (if b = 2 then va_rf ((rf j).map ad) else .int (iv j)) :: fvL ad rf iv bs (j + 1)
def cE (cy : Nat → ClassId) (ad : Nat → Nat) (g : Nat × Nat × (Nat → Option Nat)) (iv : Nat → Int32) : va_E :=
  if g.1 = 10 then .inl (cy 0, g.2.1, .inl iv) else if g.1 = 11 then .inl (cy 1, g.2.1, .inl iv)
  else if g.1 = 12 then .inl (cy 2, g.2.1, .inr (.inr (.inr (.inr (fun j => (g.2.2 j).map ad)))))
  else if g.1 = 13 then .inl (cy 3, g.2.1, .inr (.inr (.inr (.inr (fun j => (g.2.2 j).map ad)))))
  else .inr (g.1, fvL ad g.2.2 iv (ftk g.1) 0)
def wsO (cy : Nat → ClassId) (ad : Nat → Nat) (σ : Sg) : va_W := (List.range σ.1).map (fun k => (ad k, cE cy ad (σ.2.2.1 k) (σ.2.2.2 k)))
def tysO (cy : Nat → ClassId) : List (ClassId × FieldType) := [(cy 0, .int), (cy 1, .boolean), (cy 2, .object RX6), (cy 3, .object RX2)]
def WS : List Cond := lw_tbl.filter goodWord
def wfG (σ : Sg) : Prop := ∀ k, k < σ.1 → ∀ j q, (σ.2.2.1 k).2.2 j = some q → q < σ.1
theorem fvL_get (ad : Nat → Nat) (rf : Nat → Option Nat) (iv : Nat → Int32) : ∀ (bs : List Nat) (j k : Nat), (fvL ad rf iv bs j)[k]? = (bs[k]?).map (fun b => if b = 2 then va_rf ((rf (j + k)).map ad) else .int (iv (j + k)))
  | [], j, k => by simp [fvL]
  | b :: bs, j, 0 => by simp [fvL]
  | b :: bs, j, k + 1 => by
    simp only [fvL, List.getElem?_cons_succ]
    rw [fvL_get ad rf iv bs (j + 1) k]
    rw [show j + 1 + k = j + (k + 1) by omega]
theorem fvL_len (ad : Nat → Nat) (rf : Nat → Option Nat) (iv : Nat → Int32) : ∀ (bs : List Nat) (j : Nat), (fvL ad rf iv bs j).length = bs.length
  | [], _ => rfl
  | b :: bs, j => by simp [fvL, fvL_len ad rf iv bs (j + 1)]
theorem fvL_setI (ad : Nat → Nat) (rf : Nat → Option Nat) (iv : Nat → Int32) (bs : List Nat) (k b : Nat) (x : Int32) (h : bs[k]? = some b) (hb : b ≠ 2) : (fvL ad rf iv bs 0).set k (.int x) = fvL ad rf (upd iv k x) bs 0 := by
  apply List.ext_getElem?
  intro i
  rw [List.getElem?_set, fvL_get, fvL_get, fvL_len]
  have hl : k < bs.length := (List.getElem?_eq_some_iff.mp h).1
  by_cases hi : k = i
  · subst hi
    rw [if_pos rfl, if_pos hl, h]
    simp [hb, upd]
  · rw [if_neg hi]
    cases hc : bs[i]? with
    | none => simp
    | some c =>
      by_cases h2 : c = 2
      · simp [h2]
      · simp [h2, upd, Ne.symm hi]
theorem fvL_setR (ad : Nat → Nat) (rf : Nat → Option Nat) (iv : Nat → Int32) (bs : List Nat) (k q : Nat) (h : bs[k]? = some 2) : (fvL ad rf iv bs 0).set k (.ref (ad q)) = fvL ad (va_up rf k (some q)) iv bs 0 := by
  apply List.ext_getElem?
  intro i
  rw [List.getElem?_set, fvL_get, fvL_get, fvL_len]
  have hl : k < bs.length := (List.getElem?_eq_some_iff.mp h).1
  by_cases hi : k = i
  · subst hi
    rw [if_pos rfl, if_pos hl, h]
    simp [va_up, va_rf]
  · rw [if_neg hi]
    cases hc : bs[i]? with
    | none => simp
    | some c =>
      by_cases h2 : c = 2
      · simp [h2, va_up, Ne.symm hi]
      · simp [h2]
theorem fvL_congr {ad ad' : Nat → Nat} {rf : Nat → Option Nat} {iv : Nat → Int32} (h : ∀ j, (rf j).map ad = (rf j).map ad') : ∀ (bs : List Nat) (j : Nat), fvL ad rf iv bs j = fvL ad' rf iv bs j
  | [], _ => rfl
  | b :: bs, j => by simp [fvL, h, fvL_congr h bs (j + 1)]
theorem wsO_len (cy : Nat → ClassId) (ad : Nat → Nat) (σ : Sg) : (wsO cy ad σ).length = σ.1 := by simp [wsO]
theorem wsO_get {cy : Nat → ClassId} {ad : Nat → Nat} {σ : Sg} {k : Nat} (h : k < σ.1) : (wsO cy ad σ)[k]? = some (ad k, cE cy ad (σ.2.2.1 k) (σ.2.2.2 k)) := by
  simp [wsO, h]
theorem wsO_set {cy : Nat → ClassId} {ad : Nat → Nat} {N M : Nat} {G G' : Gm} {I I' : Nat → Nat → Int32} {k : Nat} {e : va_E} (he : e = cE cy ad (G' k) (I' k)) (hG : ∀ j, j ≠ k → G' j = G j) (hI : ∀ j, j ≠ k → I' j = I j) : (wsO cy ad (N, M, G, I)).set k (ad k, e) = wsO cy ad (N, M, G', I') := by
  apply List.ext_getElem?
  intro i
  rw [List.getElem?_set, wsO_len]
  by_cases hN : i < N
  · rw [wsO_get (σ := (N, M, G', I')) hN]
    by_cases hi : k = i
    · subst hi
      simp [hN, he]
    · rw [if_neg hi, wsO_get (σ := (N, M, G, I)) hN]
      simp [hG i (Ne.symm hi), hI i (Ne.symm hi)]
  · rw [List.getElem?_eq_none (by rw [wsO_len]; exact Nat.le_of_not_lt hN), List.getElem?_eq_none (by rw [wsO_len]; exact Nat.le_of_not_lt hN)]
    by_cases hi : k = i
    · subst hi; simp [hN]
    · rw [if_neg hi]
theorem cE_congr {cy : Nat → ClassId} {ad ad' : Nat → Nat} {g : Nat × Nat × (Nat → Option Nat)} {iv : Nat → Int32} (h : ∀ j, (g.2.2 j).map ad = (g.2.2 j).map ad') : cE cy ad g iv = cE cy ad' g iv := by
  unfold cE
  rw [fvL_congr h]
  simp only [h]
theorem wsO_push {cy : Nat → ClassId} {ad : Nat → Nat} {σ : Sg} {q kd len sl : Nat} (hw : wfG σ) : wsO cy (va_up ad σ.1 q) (nwC σ kd len sl) = wsO cy ad σ ++ [(q, cE cy (va_up ad σ.1 q) (kd, len, fun _ => none) (fun _ => 0))] := by
  apply List.ext_getElem?
  intro i
  rcases Nat.lt_trichotomy i σ.1 with h | h | h
  · rw [List.getElem?_append_left (by rw [wsO_len]; exact h), wsO_get h, wsO_get (σ := nwC σ kd len sl) (Nat.lt_succ_of_lt h)]
    have h1 : (nwC σ kd len sl).2.2.1 i = σ.2.2.1 i := va_up_ne _ _ (Nat.ne_of_lt h)
    have h2 : (nwC σ kd len sl).2.2.2 i = σ.2.2.2 i := va_up_ne _ _ (Nat.ne_of_lt h)
    rw [h1, h2, va_up_ne _ _ (Nat.ne_of_lt h)]
    rw [cE_congr (ad := va_up ad σ.1 q) (ad' := ad)]
    intro j
    cases hj : (σ.2.2.1 i).2.2 j with
    | none => rfl
    | some z => simp [va_up_ne _ _ (Nat.ne_of_lt (hw i h j z hj))]
  · subst h
    rw [List.getElem?_append_right (by rw [wsO_len]; exact Nat.le_refl _), wsO_get (σ := nwC σ kd len sl) (Nat.lt_succ_self _), wsO_len]
    have h1 : (nwC σ kd len sl).2.2.1 σ.1 = (kd, len, fun _ => none) := va_up_self _ _ _
    have h2 : (nwC σ kd len sl).2.2.2 σ.1 = (fun _ => 0) := va_up_self _ _ _
    rw [h1, h2, va_up_self]
    simp
  · rw [List.getElem?_eq_none (by rw [wsO_len]; exact h), List.getElem?_eq_none (by simp [wsO_len]; exact h)]
/-! the classes -/
theorem vwC : ∀ a, a < 10 → vwCl[a]? = some (RC a, TC a, NC a)
  | 0, _ => rfl
  | 1, _ => rfl
  | 2, _ => rfl
  | 3, _ => rfl
  | 4, _ => rfl
  | 5, _ => rfl
  | 6, _ => rfl
  | 7, _ => rfl
  | 8, _ => rfl
  | 9, _ => rfl
  | n + 10, h => absurd h (by omega)
theorem hinC : ∀ a, a < 10 → ∀ w ∈ u_ws (RC a) (TC a) (NC a), w ∈ lw_tbl
  | 0, _ => hin0
  | 1, _ => hin1
  | 2, _ => hin2
  | 3, _ => hin3
  | 4, _ => hin4
  | 5, _ => hin5
  | 6, _ => hin6
  | 7, _ => hin7
  | 8, _ => hin8
  | 9, _ => hin9
  | n + 10, h => absurd h (by omega)
theorem hgdC : ∀ a, a < 10 → ∀ w ∈ u_ws (RC a) (TC a) (NC a), goodWord w = true := by decide +kernel
theorem hinW (a : Nat) (h : a < 10) : ∀ w ∈ u_ws (RC a) (TC a) (NC a), w ∈ WS := fun w hw => List.mem_filter.mpr ⟨hinC a h w hw, hgdC a h w hw⟩
theorem tyC_ok : ∀ a, a < 10 → ∀ k, k < NC a → parseFieldDescriptor (TC a k).2.2.1 = some (tyC a k)
  | 0, _ => tyX0_ok
  | 1, _ => tyX1_ok
  | 2, _ => tyX2_ok
  | 3, _ => tyX3_ok
  | 4, _ => tyX4_ok
  | 5, _ => tyX5_ok
  | 6, _ => tyX6_ok
  | 7, _ => tyX7_ok
  | 8, _ => tyX8_ok
  | 9, _ => tyX9_ok
  | n + 10, h => absurd h (by omega)
theorem nmC : ∀ c, c < 10 → ∀ a, a < NC c → ∀ b, b < NC c → a ≠ b → (TC c a).2.1 ≠ (TC c b).2.1
  | 0, _ => nmX0
  | 1, _ => nmX1
  | 2, _ => nmX2
  | 3, _ => nmX3
  | 4, _ => nmX4
  | 5, _ => nmX5
  | 6, _ => nmX6
  | 7, _ => nmX7
  | 8, _ => nmX8
  | 9, _ => nmX9
  | n + 10, h => absurd h (by omega)
theorem instC : ∀ a, a < 10 → Cond.instantiable (RC a) (NC a) ∈ lw_tbl ∧ Cond.initialized (RC a) ∈ lw_tbl
  | 0, _ => ⟨hnew0, hini0⟩
  | 1, _ => ⟨hnew1, hini1⟩
  | 2, _ => ⟨hnew2, hini2⟩
  | 3, _ => ⟨hnew3, hini3⟩
  | 4, _ => ⟨hnew4, hini4⟩
  | 5, _ => ⟨hnew5, hini5⟩
  | 6, _ => ⟨hnew6, hini6⟩
  | 7, _ => ⟨hnew7, hini7⟩
  | 8, _ => ⟨hnew8, hini8⟩
  | 9, _ => ⟨hnew9, hini9⟩
  | n + 10, h => absurd h (by omega)
def isRT (t : FieldType) : Bool := match t with
  | .object _ => true
  | .array _ => true
  | _ => false
theorem ftk_ty : ∀ a, a < 10 → ∀ b, b < NC a → ((ftk a)[b]? = some 0 → tyC a b = .int) ∧ ((ftk a)[b]? = some 1 → tyC a b = .boolean) ∧ ((ftk a)[b]? = some 2 → isRT (tyC a b) = true) ∧ ((ftk a)[b]? = some 2 ↔ (TC a b).2.2.2 = true) ∧ (ftk a).length = NC a := by decide +kernel
theorem NC_pos {a b : Nat} (h : b < NC a) : a < 10 := by
  match a, h with
  | 0, _ => decide
  | 1, _ => decide
  | 2, _ => decide
  | 3, _ => decide
  | 4, _ => decide
  | 5, _ => decide
  | 6, _ => decide
  | 7, _ => decide
  | 8, _ => decide
  | 9, _ => decide
  | n + 10, h => exact absurd h (Nat.not_lt_zero _)
theorem rt_fit {t : FieldType} (h : isRT t = true) (q : Nat) : narrow t (.ref q) = .ref q ∧ fits t (.ref q) = true := by
  cases t <;> first | exact ⟨rfl, rfl⟩ | cases h
theorem bo_fit {x : Int32} (h : x = 0 ∨ x = 1) : narrow .boolean (.int x) = .int x ∧ fits .boolean (.int x) = true ∧ vp_nar .boolean x = x := by
  rcases h with rfl | rfl <;> exact ⟨rfl, rfl, rfl⟩
def dfL : List Nat → List Value := List.map (fun b => if b = 2 then .null else .int 0)
theorem dfL_eq (ad : Nat → Nat) : ∀ (bs : List Nat) (j : Nat), fvL ad (fun _ => none) (fun _ => 0) bs j = dfL bs
  | [], _ => rfl
  | b :: bs, j => by
    simp only [fvL, dfL, List.map_cons, Option.map_none]
    rw [dfL_eq ad bs (j + 1)]
    rfl
theorem dfC : ∀ a, a < 10 → ∀ j, j < NC a → defaultValue (tyC a j) = vp_V (dfL (ftk a)) j := by decide +kernel
/-! locals -/
def vz (ad : Nat → Nat) (b : Nat) (v : Value) : Value := match v with
  | .ref k => .ref (ad k)
  | .retAddr _ => .ref b
  | v => v
def LV (ad : Nat → Nat) (b : Nat) (la : Array Slot) (ls : Lc) : Prop := la.size = ls.length ∧ lv_wf la ∧ ∀ (i : Nat) (v : Value), ls[i]? = some (some v) → la[i]? = some (.val (vz ad b v)) ∧ (vz ad b v).category = 1
def lvP (ad : Nat → Nat) (b : Nat) (ls : Lc) : List (Nat × Value) := (List.range ls.length).filterMap (fun i => match ls[i]? with
  | some (some v) => some (i, vz ad b v)
  | _ => none)
theorem lvP_mem {ad : Nat → Nat} {b : Nat} {ls : Lc} {q : Nat × Value} : q ∈ lvP ad b ls ↔ ∃ v, ls[q.1]? = some (some v) ∧ q.2 = vz ad b v := by
  unfold lvP
  rw [List.mem_filterMap]
  constructor
  · rintro ⟨i, -, h⟩
    split at h
    · rename_i v hv
      cases h
      exact ⟨v, hv, rfl⟩
    · cases h
  · rintro ⟨v, h1, h2⟩
    refine ⟨q.1, List.mem_range.mpr (List.getElem?_eq_some_iff.mp h1).1, ?_⟩
    rw [h1]
    show some (q.1, vz ad b v) = some q
    rw [← h2]
theorem LV.has {ad : Nat → Nat} {b : Nat} {la : Array Slot} {ls : Lc} (h : LV ad b la ls) : lv_has la ls.length (lvP ad b ls) := by
  refine ⟨h.1, h.2.1, fun q hq => ?_⟩
  obtain ⟨v, h1, h2⟩ := lvP_mem.mp hq
  rw [h2]
  exact (h.2.2 _ _ h1).1
theorem LV.put {ad : Nat → Nat} {b : Nat} {la la' : Array Slot} {ls : Lc} {i : Nat} {v : Value} {n : Nat} (h : LV ad b la ls) (hn : n = ls.length) (hc : (vz ad b v).category = 1) (h' : lv_has la' n ((i, vz ad b v) :: (lvP ad b ls).filter (fun q => !(q.1 == i) && !(q.1 + 1 == i && q.2.category == 2)))) : LV ad b la' (ls.set i (some v)) := by
  subst hn
  refine ⟨by rw [h'.1, List.length_set], h'.2.1, fun j w hj => ?_⟩
  rw [List.getElem?_set] at hj
  by_cases hij : i = j
  · subst hij
    by_cases hl : i < ls.length
    · simp [hl] at hj
      subst hj
      exact ⟨h'.2.2 (i, vz ad b v) List.mem_cons_self, hc⟩
    · simp [hl] at hj
  · rw [if_neg hij] at hj
    have hq := h.2.2 j w hj
    refine ⟨h'.2.2 (j, vz ad b w) (List.mem_cons_of_mem _ (List.mem_filter.mpr ⟨lvP_mem.mpr ⟨w, hj, rfl⟩, ?_⟩)), hq.2⟩
    have : ¬ j = i := fun e => hij e.symm
    simp [this, hq.2]
theorem vz_ok {ad ad' : Nat → Nat} {b N : Nat} {v : Value} (h : okv N v = true) (ha : ∀ k, k < N → ad' k = ad k) : vz ad' b v = vz ad b v := by
  cases v <;> first | rfl | (simp [okv] at h; done) | (simp only [okv, decide_eq_true_eq] at h; simp only [vz, ha _ h])
theorem vz_oka {ad : Nat → Nat} {b b' N : Nat} {v : Value} (h : oka N v = true) : vz ad b v = vz ad b' v := by
  cases v <;> first | rfl | (simp [oka] at h; done)
theorem oka_okv {N : Nat} {v : Value} (h : oka N v = true) : okv N v = true := by
  cases v <;> first | exact h | (simp [oka] at h; done)
theorem vz_cat {ad : Nat → Nat} {b N : Nat} {v : Value} (h : okv N v = true) : (vz ad b v).category = 1 := by
  cases v <;> first | rfl | (simp [okv] at h; done)
theorem vz_all {ad ad' : Nat → Nat} {b N : Nat} (ha : ∀ k, k < N → ad' k = ad k) : ∀ {st : List Value}, st.all (okv N) = true → st.map (vz ad' b) = st.map (vz ad b)
  | [], _ => rfl
  | v :: st, h => by
    simp only [List.all_cons, Bool.and_eq_true] at h
    simp only [List.map_cons, vz_ok h.1 ha, vz_all ha h.2]
theorem cat_all {ad : Nat → Nat} {b N : Nat} : ∀ {st : List Value}, st.all (okv N) = true → ((st.map (vz ad b)).map fun v => v.category).sum = st.length
  | [], _ => rfl
  | v :: st, h => by
    simp only [List.all_cons, Bool.and_eq_true] at h
    simp only [List.map_cons, List.sum_cons, List.length_cons, vz_cat h.1, cat_all h.2]
    omega
theorem LV.moved {ad ad' : Nat → Nat} {b N : Nat} {la : Array Slot} {ls : Lc} (h : LV ad b la ls) (hk : okl N ls = true) (ha : ∀ k, k < N → ad' k = ad k) : LV ad' b la ls := by
  refine ⟨h.1, h.2.1, fun i v hv => ?_⟩
  have hm : some v ∈ ls := List.mem_of_getElem? hv
  have h1 := List.all_eq_true.mp hk _ hm
  rw [vz_ok (b := b) h1 ha]
  exact h.2.2 i v hv
end
section
/-! SOUNDNESS: what the flat machine does, the machine does -/
def KO (D : va_G) (cy : Nat → ClassId) (U : State) : Prop := va_K D vwCl (tysO cy) U ∧ va_AO RX6 U ∧ va_AO RX2 U ∧ ∀ e ∈ ntT, va_Nw (Cond.methodLinkNest (RC e.1) e.2.1 (mtY e.2.2) "IndexedTable") U
theorem KO.warm {D : va_G} {cy : Nat → ClassId} {s U : State} (hW : s.WarmedH U.vm) (h : KO D cy s) : KO D cy U := ⟨va_K.moved hW.alike h.1, va_AO.moved hW.alike h.2.1, va_AO.moved hW.alike h.2.2.1, fun e he => va_Nw.warmM hW (h.2.2.2 e he)⟩
theorem KO.blind {D : va_G} {cy : Nat → ClassId} {U V : State} (hv : U.vm = V.vm) (h : KO D cy U) : KO D cy V := ⟨va_K.moved (by rw [← hv]; exact Vm.Alike.refl _) h.1, va_AO.moved (by rw [← hv]; exact Vm.Alike.refl _) h.2.1, va_AO.moved (by rw [← hv]; exact Vm.Alike.refl _) h.2.2.1, fun e he => va_Nw.same rfl hv (h.2.2.2 e he)⟩
def Hld (D : va_G) (cy : Nat → ClassId) (ad : Nat → Nat) (A : Nat → Prop) (H0 H : Heap) (locs : List Loc) (σ : Sg) (s : State) (X : Option (Nat × (Nat → Int32))) (b : Nat) : Prop :=
  va_P D vwCl (wsO cy ad σ) H ∧ va_D A (wsO cy ad σ) ∧ KO D cy s ∧ va_S A H0 H locs ∧ (∀ q, H0.size ≤ q → A q) ∧ (∀ L xs, X = some (L, xs) → va_X b L xs s H0 ∧ b < H0.size ∧ ¬ A b)
def Ctx (p : Program) (R : Room) (s : State) (m : MethodId) (args : Array Value) (meth : Method) (c : Code) (mm : MT) : Prop := p.tables.exec = Jvm.exec ∧ c.code = mm.2.1 ∧ meth.sig.returnType = mm.2.2.2.1 ∧ c.maxLocals = mm.2.2.1 ∧ s.vm.findClass (RC mm.2.2.2.2.1) = some m.cls ∧ (∀ w ∈ WS, w.before args s = true) ∧ mm.2.2.2.2.2.2.1 ≤ R.frames ∧ mm.2.2.2.2.2.2.2.1 ≤ R.locals ∧ meth.locks = false ∧ (mm.2.2.2.2.2.2.2.2 = 2 → meth.name = "<init>")
def RetO (mm : MT) (pc : Nat) (r : Option Value) (N : Nat) : Prop := match r with
  | none => mm.2.2.2.1 = none ∧ decode mm.2.1 pc = .ok (.return_, 1)
  | some (.int x) => (mm.2.2.2.1 = some .int ∨ (mm.2.2.2.1 = some .boolean ∧ (x = 0 ∨ x = 1))) ∧ decode mm.2.1 pc = .ok (.ireturn, 1)
  | some (.ref q) => (∃ nm, mm.2.2.2.1 = some (.object nm)) ∧ decode mm.2.1 pc = .ok (.areturn, 1) ∧ q < N
  | _ => False
def Snd (l : Launch) (X : Option (Nat × (Nat → Int32))) (mm : MT) (pc : Nat) (ls : Lc) (st : List Value) (σ : Sg) (r : Option Value) (σ' : Sg) : Prop :=
  wfG σ → (wfG σ' ∧ σ.1 ≤ σ'.1 ∧ σ.2.1 ≤ σ'.2.1 ∧ (∃ pc', RetO mm pc' r σ'.1) ∧
   ∀ (p : Program) (e : Env) (R : Room) (s : State) (m : MethodId) (args : Array Value) (below : List Frame) (meth : Method) (c : Code) (H0 H : Heap) (locs : List Loc) (cells slots : Nat) (Q : State → Prop) (A : Nat → Prop) (D : va_G) (cy : Nat → ClassId) (ad : Nat → Nat) (b : Nat) (la : Array Slot),
    Ctx p R s m args meth c mm → Hld D cy ad A H0 H locs σ s X b → LV ad b la ls → ls.length = mm.2.2.1 →
    cells + (σ'.1 - σ.1) ≤ R.cells → slots + (σ'.2.1 - σ.2.1) ≤ R.slots →
    (∀ (ad' : Nat → Nat) (H' : Heap) (locs' : List Loc) (pc' : Nat) (la' : Array Slot), (∀ k, k < σ.1 → ad' k = ad k) → Hld D cy ad' A H0 H' locs' σ' s X b → RetO mm pc' r σ'.1 → W p l e R s m args below meth c H' locs' (cells + (σ'.1 - σ.1)) (slots + (σ'.2.1 - σ.2.1)) Q (F0 m pc' la' (r.toList.map (vz ad' b)))) →
    W p l e R s m args below meth c H locs cells slots Q (F0 m pc la (st.map (vz ad b))))
theorem Snd.step {l : Launch} {X : Option (Nat × (Nat → Int32))} {mm : MT} {pc pc' : Nat} {ls ls' : Lc} {st st' : List Value} {σ τ : Sg} {r : Option Value} {σ' : Sg} (hS : Snd l X mm pc' ls' st' τ r σ') (h1 : τ.1 = σ.1) (h2 : τ.2.1 = σ.2.1) (hwf : wfG σ → wfG τ) (hlen : ls'.length = ls.length)
    (hW : ∀ (p : Program) (e : Env) (R : Room) (s : State) (m : MethodId) (args : Array Value) (below : List Frame) (meth : Method) (c : Code) (H0 H : Heap) (locs : List Loc) (cells slots : Nat) (Q : State → Prop) (A : Nat → Prop) (D : va_G) (cy : Nat → ClassId) (ad : Nat → Nat) (b : Nat) (la : Array Slot),
      Ctx p R s m args meth c mm → Hld D cy ad A H0 H locs σ s X b → LV ad b la ls → ls.length = mm.2.2.1 → cells ≤ R.cells ∧ slots ≤ R.slots →
      (∀ (la' : Array Slot) (H' : Heap) (locs' : List Loc), LV ad b la' ls' → Hld D cy ad A H0 H' locs' τ s X b → W p l e R s m args below meth c H' locs' cells slots Q (F0 m pc' la' (st'.map (vz ad b)))) →
      W p l e R s m args below meth c H locs cells slots Q (F0 m pc la (st.map (vz ad b)))) : Snd l X mm pc ls st σ r σ' := by
  intro hw
  obtain ⟨a1, a2, a3, a4, k⟩ := hS (hwf hw)
  rw [h1] at a2
  rw [h2] at a3
  refine ⟨a1, a2, a3, a4, ?_⟩
  intro p e R s m args below meth c H0 H locs cells slots Q A D cy ad b la C Hh hl hln hc hs hQ
  refine hW p e R s m args below meth c H0 H locs cells slots Q A D cy ad b la C Hh hl hln ⟨by omega, by omega⟩ ?_
  intro la' H' locs' hl' Hh'
  refine k p e R s m args below meth c H0 H' locs' cells slots Q A D cy ad b la' C Hh' hl' (hlen.trans hln) ?_ ?_ ?_
  · rw [h1]; exact hc
  · rw [h2]; exact hs
  · rw [h1, h2]; exact hQ
theorem inWS {w : Cond} (h : w ∈ lw_tbl) (hg : goodWord w = true) : w ∈ WS := List.mem_filter.mpr ⟨h, hg⟩
theorem cE_obj {cy : Nat → ClassId} {ad : Nat → Nat} {g : Nat × Nat × (Nat → Option Nat)} {iv : Nat → Int32} {a : Nat} (h : g.1 = a) (ha : a < 10) : cE cy ad g iv = .inr (a, fvL ad g.2.2 iv (ftk a) 0) := by
  subst h
  unfold cE
  rw [if_neg (by omega), if_neg (by omega), if_neg (by omega), if_neg (by omega)]
theorem cE_10 {cy : Nat → ClassId} {ad : Nat → Nat} {g : Nat × Nat × (Nat → Option Nat)} {iv : Nat → Int32} (h : g.1 = 10) : cE cy ad g iv = .inl (cy 0, g.2.1, .inl iv) := by
  unfold cE; rw [if_pos h]
theorem cE_11 {cy : Nat → ClassId} {ad : Nat → Nat} {g : Nat × Nat × (Nat → Option Nat)} {iv : Nat → Int32} (h : g.1 = 11) : cE cy ad g iv = .inl (cy 1, g.2.1, .inl iv) := by
  unfold cE; rw [if_neg (by omega), if_pos h]
theorem cE_12 {cy : Nat → ClassId} {ad : Nat → Nat} {g : Nat × Nat × (Nat → Option Nat)} {iv : Nat → Int32} (h : g.1 = 12) : cE cy ad g iv = .inl (cy 2, g.2.1, .inr (.inr (.inr (.inr (fun j => (g.2.2 j).map ad))))) := by
  unfold cE; rw [if_neg (by omega), if_neg (by omega), if_pos h]
theorem cE_13 {cy : Nat → ClassId} {ad : Nat → Nat} {g : Nat × Nat × (Nat → Option Nat)} {iv : Nat → Int32} (h : g.1 = 13) : cE cy ad g iv = .inl (cy 3, g.2.1, .inr (.inr (.inr (.inr (fun j => (g.2.2 j).map ad))))) := by
  unfold cE; rw [if_neg (by omega), if_neg (by omega), if_neg (by omega), if_pos h]
theorem wf_wrI {σ : Sg} {a k : Nat} {x : Int32} (h : wfG σ) : wfG (wrI σ a k x) := h
theorem wf_cpI {σ : Sg} {a k c d e : Nat} (h : wfG σ) : wfG (cpI σ a k c d e) := h
theorem wf_wrR {σ : Sg} {a k q : Nat} (hq : q < σ.1) (h : wfG σ) : wfG (wrR σ a k q) := by
  intro i hi j z hz
  show z < σ.1
  have hz : (va_up σ.2.2.1 a ((σ.2.2.1 a).1, (σ.2.2.1 a).2.1, va_up (σ.2.2.1 a).2.2 k (some q)) i).2.2 j = some z := hz
  by_cases e1 : i = a
  · subst e1
    rw [va_up_self] at hz
    by_cases e2 : j = k
    · subst e2
      simp only [va_up_self] at hz
      cases hz
      exact hq
    · simp only [va_up_ne _ _ e2] at hz
      exact h i hi j z hz
  · rw [va_up_ne _ _ e1] at hz
    exact h i hi j z hz
theorem wf_nw {σ : Sg} {a k c : Nat} (h : wfG σ) : wfG (nwC σ a k c) := by
  intro i hi j z hz
  have hz : (va_up σ.2.2.1 σ.1 (a, k, fun _ => none) i).2.2 j = some z := hz
  by_cases e1 : i = σ.1
  · subst e1
    rw [va_up_self] at hz
    cases hz
  · rw [va_up_ne _ _ e1] at hz
    have hi : i < σ.1 + 1 := hi
    have := h i (by omega) j z hz
    show z < σ.1 + 1
    omega
/-- a cell's ints become others -/
theorem Hld.setI {D : va_G} {cy : Nat → ClassId} {ad : Nat → Nat} {A : Nat → Prop} {H0 H H' : Heap} {locs locs' : List Loc} {σ τ : Sg} {s : State} {X : Option (Nat × (Nat → Int32))} {b : Nat} {k : Nat} {e' : va_E} (h : Hld D cy ad A H0 H locs σ s X b) (he : (wsO cy ad σ).set k (ad k, e') = wsO cy ad τ)
    (hP : va_P D vwCl ((wsO cy ad σ).set k (ad k, e')) H') (hD : va_D A ((wsO cy ad σ).set k (ad k, e'))) (hS : va_S A H0 H' locs') : Hld D cy ad A H0 H' locs' τ s X b := by
  rw [he] at hP hD
  exact ⟨hP, hD, h.2.2.1, hS, h.2.2.2.2⟩
end
section
set_option maxHeartbeats 1000000 in
theorem sd_iconst {l : Launch} {X : Option (Nat × (Nat → Int32))} {cl : Nat → List Value → Sg → Rs} {kn : Kn} {mm : MT} {pc n a b : Nat} {v : Int32} {ls : Lc} {st : List Value} {σ : Sg} {r : Option Value} {σ' : Sg} (hk : ∀ (pc : Nat) (ls : Lc) (st : List Value) (τ : Sg) (r : Option Value) (σ' : Sg), kn pc ls st τ = some (r, σ') → Snd l X mm pc ls st τ r σ') {z : Int} (hdec : decode mm.2.1 pc = .ok (.iconst z, n)) (hok : okE mm (pc, .iconst z, n, v, a, b) = true) (h : stp X cl kn mm (pc, .iconst z, n, v, a, b) ls st σ = some (r, σ')) : Snd l X mm pc ls st σ r σ' := by
  simp only [okE, Bool.and_eq_true, decide_eq_true_eq] at hok
  obtain rfl : n = 1 := hok.1
  have h : kn (pc + 1) ls (.int v :: st) σ = some (r, σ') := h
  refine (hk _ _ _ _ _ _ h).step rfl rfl id rfl ?_
  intro p e R s m args below meth c H0 H locs cells slots Q A D cy ad bb la C Hh hl hln hcs kk
  exact lv_iconst C.1 C.2.1 hdec hok.2 (kk la H locs hl Hh)
set_option maxHeartbeats 1000000 in
theorem sd_bipush {l : Launch} {X : Option (Nat × (Nat → Int32))} {cl : Nat → List Value → Sg → Rs} {kn : Kn} {mm : MT} {pc n a b : Nat} {v : Int32} {ls : Lc} {st : List Value} {σ : Sg} {r : Option Value} {σ' : Sg} (hk : ∀ (pc : Nat) (ls : Lc) (st : List Value) (τ : Sg) (r : Option Value) (σ' : Sg), kn pc ls st τ = some (r, σ') → Snd l X mm pc ls st τ r σ') {z : Int} (hdec : decode mm.2.1 pc = .ok (.bipush z, n)) (hok : okE mm (pc, .bipush z, n, v, a, b) = true) (h : stp X cl kn mm (pc, .bipush z, n, v, a, b) ls st σ = some (r, σ')) : Snd l X mm pc ls st σ r σ' := by
  simp only [okE, Bool.and_eq_true, decide_eq_true_eq] at hok
  obtain rfl : n = 2 := hok.1
  have h : kn (pc + 2) ls (.int v :: st) σ = some (r, σ') := h
  refine (hk _ _ _ _ _ _ h).step rfl rfl id rfl ?_
  intro p e R s m args below meth c H0 H locs cells slots Q A D cy ad bb la C Hh hl hln hcs kk
  exact lv_bipush C.1 C.2.1 hdec hok.2 (kk la H locs hl Hh)
set_option maxHeartbeats 1000000 in
theorem sd_sipush {l : Launch} {X : Option (Nat × (Nat → Int32))} {cl : Nat → List Value → Sg → Rs} {kn : Kn} {mm : MT} {pc n a b : Nat} {v : Int32} {ls : Lc} {st : List Value} {σ : Sg} {r : Option Value} {σ' : Sg} (hk : ∀ (pc : Nat) (ls : Lc) (st : List Value) (τ : Sg) (r : Option Value) (σ' : Sg), kn pc ls st τ = some (r, σ') → Snd l X mm pc ls st τ r σ') {z : Int} (hdec : decode mm.2.1 pc = .ok (.sipush z, n)) (hok : okE mm (pc, .sipush z, n, v, a, b) = true) (h : stp X cl kn mm (pc, .sipush z, n, v, a, b) ls st σ = some (r, σ')) : Snd l X mm pc ls st σ r σ' := by
  simp only [okE, Bool.and_eq_true, decide_eq_true_eq] at hok
  obtain rfl : n = 3 := hok.1
  have h : kn (pc + 3) ls (.int v :: st) σ = some (r, σ') := h
  refine (hk _ _ _ _ _ _ h).step rfl rfl id rfl ?_
  intro p e R s m args below meth c H0 H locs cells slots Q A D cy ad bb la C Hh hl hln hcs kk
  exact lv_sipush C.1 C.2.1 hdec hok.2 (kk la H locs hl Hh)
set_option maxHeartbeats 1000000 in
theorem sd_ldc {l : Launch} {X : Option (Nat × (Nat → Int32))} {cl : Nat → List Value → Sg → Rs} {kn : Kn} {mm : MT} {pc n a b : Nat} {v : Int32} {ls : Lc} {st : List Value} {σ : Sg} {r : Option Value} {σ' : Sg} (hk : ∀ (pc : Nat) (ls : Lc) (st : List Value) (τ : Sg) (r : Option Value) (σ' : Sg), kn pc ls st τ = some (r, σ') → Snd l X mm pc ls st τ r σ') {x : Nat} (hdec : decode mm.2.1 pc = .ok (.ldc x, n)) (hok : okE mm (pc, .ldc x, n, v, a, b) = true) (h : stp X cl kn mm (pc, .ldc x, n, v, a, b) ls st σ = some (r, σ')) : Snd l X mm pc ls st σ r σ' := by
  simp only [okE, Bool.and_eq_true, decide_eq_true_eq] at hok
  obtain rfl : n = 2 := hok.1
  have h : kn (pc + 2) ls (.int v :: st) σ = some (r, σ') := h
  refine (hk _ _ _ _ _ _ h).step rfl rfl id rfl ?_
  intro p e R s m args below meth c H0 H locs cells slots Q A D cy ad bb la C Hh hl hln hcs kk
  exact lv_ldc C.1 C.2.1 C.2.2.2.2.1 (C.2.2.2.2.2.1 _ (inWS (cnT_ok _ hok.2) rfl)) hdec (kk la H locs hl Hh)
set_option maxHeartbeats 1000000 in
theorem sd_iload {l : Launch} {X : Option (Nat × (Nat → Int32))} {cl : Nat → List Value → Sg → Rs} {kn : Kn} {mm : MT} {pc n a b : Nat} {v : Int32} {ls : Lc} {st : List Value} {σ : Sg} {r : Option Value} {σ' : Sg} (hk : ∀ (pc : Nat) (ls : Lc) (st : List Value) (τ : Sg) (r : Option Value) (σ' : Sg), kn pc ls st τ = some (r, σ') → Snd l X mm pc ls st τ r σ') {x : Nat} (hdec : decode mm.2.1 pc = .ok (.iload x, n)) (hok : okE mm (pc, .iload x, n, v, a, b) = true) (h : stp X cl kn mm (pc, .iload x, n, v, a, b) ls st σ = some (r, σ')) : Snd l X mm pc ls st σ r σ' := by
  simp only [okE, Bool.and_eq_true, decide_eq_true_eq] at hok
  obtain ⟨rfl, rfl⟩ : n = 2 ∧ x = a := hok
  simp only [stp] at h
  split at h
  · rename_i y hx
    refine (hk _ _ _ _ _ _ h).step rfl rfl id rfl ?_
    intro p e R s m args below meth c H0 H locs cells slots Q A D cy ad bb la C Hh hl hln hcs kk
    exact lv_iload C.1 C.2.1 hdec (hl.2.2 _ _ hx).1 (kk la H locs hl Hh)
  · cases h
set_option maxHeartbeats 1000000 in
theorem sd_iload_n {l : Launch} {X : Option (Nat × (Nat → Int32))} {cl : Nat → List Value → Sg → Rs} {kn : Kn} {mm : MT} {pc n a b : Nat} {v : Int32} {ls : Lc} {st : List Value} {σ : Sg} {r : Option Value} {σ' : Sg} (hk : ∀ (pc : Nat) (ls : Lc) (st : List Value) (τ : Sg) (r : Option Value) (σ' : Sg), kn pc ls st τ = some (r, σ') → Snd l X mm pc ls st τ r σ') {x : Fin 4} (hdec : decode mm.2.1 pc = .ok (.iload_n x, n)) (hok : okE mm (pc, .iload_n x, n, v, a, b) = true) (h : stp X cl kn mm (pc, .iload_n x, n, v, a, b) ls st σ = some (r, σ')) : Snd l X mm pc ls st σ r σ' := by
  simp only [okE, Bool.and_eq_true, decide_eq_true_eq] at hok
  obtain ⟨rfl, rfl⟩ : n = 1 ∧ x.val = a := hok
  simp only [stp] at h
  split at h
  · rename_i y hx
    refine (hk _ _ _ _ _ _ h).step rfl rfl id rfl ?_
    intro p e R s m args below meth c H0 H locs cells slots Q A D cy ad bb la C Hh hl hln hcs kk
    exact lv_iload_n C.1 C.2.1 hdec rfl (hl.2.2 _ _ hx).1 (kk la H locs hl Hh)
  · cases h
set_option maxHeartbeats 1000000 in
theorem sd_aload {l : Launch} {X : Option (Nat × (Nat → Int32))} {cl : Nat → List Value → Sg → Rs} {kn : Kn} {mm : MT} {pc n a b : Nat} {v : Int32} {ls : Lc} {st : List Value} {σ : Sg} {r : Option Value} {σ' : Sg} (hk : ∀ (pc : Nat) (ls : Lc) (st : List Value) (τ : Sg) (r : Option Value) (σ' : Sg), kn pc ls st τ = some (r, σ') → Snd l X mm pc ls st τ r σ') {x : Nat} (hdec : decode mm.2.1 pc = .ok (.aload x, n)) (hok : okE mm (pc, .aload x, n, v, a, b) = true) (h : stp X cl kn mm (pc, .aload x, n, v, a, b) ls st σ = some (r, σ')) : Snd l X mm pc ls st σ r σ' := by
  simp only [okE, Bool.and_eq_true, decide_eq_true_eq] at hok
  obtain ⟨rfl, rfl⟩ : n = 2 ∧ x = a := hok
  simp only [stp] at h
  split at h
  · rename_i y hx
    refine (hk _ _ _ _ _ _ h).step rfl rfl id rfl ?_
    intro p e R s m args below meth c H0 H locs cells slots Q A D cy ad bb la C Hh hl hln hcs kk
    exact lv_aload C.1 C.2.1 hdec (hl.2.2 _ _ hx).1 (kk la H locs hl Hh)
  · rename_i y hx
    refine (hk _ _ _ _ _ _ h).step rfl rfl id rfl ?_
    intro p e R s m args below meth c H0 H locs cells slots Q A D cy ad bb la C Hh hl hln hcs kk
    exact lv_aload C.1 C.2.1 hdec (hl.2.2 _ _ hx).1 (kk la H locs hl Hh)
  · cases h
set_option maxHeartbeats 1000000 in
theorem sd_aload_n {l : Launch} {X : Option (Nat × (Nat → Int32))} {cl : Nat → List Value → Sg → Rs} {kn : Kn} {mm : MT} {pc n a b : Nat} {v : Int32} {ls : Lc} {st : List Value} {σ : Sg} {r : Option Value} {σ' : Sg} (hk : ∀ (pc : Nat) (ls : Lc) (st : List Value) (τ : Sg) (r : Option Value) (σ' : Sg), kn pc ls st τ = some (r, σ') → Snd l X mm pc ls st τ r σ') {x : Fin 4} (hdec : decode mm.2.1 pc = .ok (.aload_n x, n)) (hok : okE mm (pc, .aload_n x, n, v, a, b) = true) (h : stp X cl kn mm (pc, .aload_n x, n, v, a, b) ls st σ = some (r, σ')) : Snd l X mm pc ls st σ r σ' := by
  simp only [okE, Bool.and_eq_true, decide_eq_true_eq] at hok
  obtain ⟨rfl, rfl⟩ : n = 1 ∧ x.val = a := hok
  simp only [stp] at h
  split at h
  · rename_i y hx
    refine (hk _ _ _ _ _ _ h).step rfl rfl id rfl ?_
    intro p e R s m args below meth c H0 H locs cells slots Q A D cy ad bb la C Hh hl hln hcs kk
    exact lv_aload_n C.1 C.2.1 hdec rfl (hl.2.2 _ _ hx).1 (kk la H locs hl Hh)
  · rename_i y hx
    refine (hk _ _ _ _ _ _ h).step rfl rfl id rfl ?_
    intro p e R s m args below meth c H0 H locs cells slots Q A D cy ad bb la C Hh hl hln hcs kk
    exact lv_aload_n C.1 C.2.1 hdec rfl (hl.2.2 _ _ hx).1 (kk la H locs hl Hh)
  · cases h
set_option maxHeartbeats 1000000 in
theorem sd_istore {l : Launch} {X : Option (Nat × (Nat → Int32))} {cl : Nat → List Value → Sg → Rs} {kn : Kn} {mm : MT} {pc n a b : Nat} {v : Int32} {ls : Lc} {st : List Value} {σ : Sg} {r : Option Value} {σ' : Sg} (hk : ∀ (pc : Nat) (ls : Lc) (st : List Value) (τ : Sg) (r : Option Value) (σ' : Sg), kn pc ls st τ = some (r, σ') → Snd l X mm pc ls st τ r σ') {x : Nat} (hdec : decode mm.2.1 pc = .ok (.istore x, n)) (hok : okE mm (pc, .istore x, n, v, a, b) = true) (h : stp X cl kn mm (pc, .istore x, n, v, a, b) ls st σ = some (r, σ')) : Snd l X mm pc ls st σ r σ' := by
  simp only [okE, Bool.and_eq_true, decide_eq_true_eq] at hok
  obtain ⟨rfl, rfl⟩ : n = 2 ∧ x = a := hok
  simp only [stp] at h
  split at h
  · rename_i y st'
    split at h
    · rename_i ha
      refine (hk _ _ _ _ _ _ h).step rfl rfl id (List.length_set ..) ?_
      intro p e R s m args below meth c H0 H locs cells slots Q A D cy ad bb la C Hh hl hln hcs kk
      exact lv_istore C.1 C.2.1 hdec hl.has ha rfl (fun la' h' => kk la' H locs (hl.put (v := .int y) rfl rfl h') Hh)
    · cases h
  · cases h
set_option maxHeartbeats 1000000 in
theorem sd_istore_n {l : Launch} {X : Option (Nat × (Nat → Int32))} {cl : Nat → List Value → Sg → Rs} {kn : Kn} {mm : MT} {pc n a b : Nat} {v : Int32} {ls : Lc} {st : List Value} {σ : Sg} {r : Option Value} {σ' : Sg} (hk : ∀ (pc : Nat) (ls : Lc) (st : List Value) (τ : Sg) (r : Option Value) (σ' : Sg), kn pc ls st τ = some (r, σ') → Snd l X mm pc ls st τ r σ') {x : Fin 4} (hdec : decode mm.2.1 pc = .ok (.istore_n x, n)) (hok : okE mm (pc, .istore_n x, n, v, a, b) = true) (h : stp X cl kn mm (pc, .istore_n x, n, v, a, b) ls st σ = some (r, σ')) : Snd l X mm pc ls st σ r σ' := by
  simp only [okE, Bool.and_eq_true, decide_eq_true_eq] at hok
  obtain ⟨rfl, rfl⟩ : n = 1 ∧ x.val = a := hok
  simp only [stp] at h
  split at h
  · rename_i y st'
    split at h
    · rename_i ha
      refine (hk _ _ _ _ _ _ h).step rfl rfl id (List.length_set ..) ?_
      intro p e R s m args below meth c H0 H locs cells slots Q A D cy ad bb la C Hh hl hln hcs kk
      exact lv_istore_n C.1 C.2.1 hdec rfl hl.has ha rfl (fun la' h' => kk la' H locs (hl.put (v := .int y) rfl rfl h') Hh)
    · cases h
  · cases h
set_option maxHeartbeats 1000000 in
theorem sd_astore {l : Launch} {X : Option (Nat × (Nat → Int32))} {cl : Nat → List Value → Sg → Rs} {kn : Kn} {mm : MT} {pc n a b : Nat} {v : Int32} {ls : Lc} {st : List Value} {σ : Sg} {r : Option Value} {σ' : Sg} (hk : ∀ (pc : Nat) (ls : Lc) (st : List Value) (τ : Sg) (r : Option Value) (σ' : Sg), kn pc ls st τ = some (r, σ') → Snd l X mm pc ls st τ r σ') {x : Nat} (hdec : decode mm.2.1 pc = .ok (.astore x, n)) (hok : okE mm (pc, .astore x, n, v, a, b) = true) (h : stp X cl kn mm (pc, .astore x, n, v, a, b) ls st σ = some (r, σ')) : Snd l X mm pc ls st σ r σ' := by
  simp only [okE, Bool.and_eq_true, decide_eq_true_eq] at hok
  obtain ⟨rfl, rfl⟩ : n = 2 ∧ x = a := hok
  simp only [stp] at h
  split at h
  · rename_i y st'
    split at h
    · rename_i ha
      refine (hk _ _ _ _ _ _ h).step rfl rfl id (List.length_set ..) ?_
      intro p e R s m args below meth c H0 H locs cells slots Q A D cy ad bb la C Hh hl hln hcs kk
      exact lv_astore C.1 C.2.1 hdec hl.has ha rfl (fun la' h' => kk la' H locs (hl.put (v := .ref y) rfl rfl h') Hh)
    · cases h
  · cases h
set_option maxHeartbeats 1000000 in
theorem sd_astore_n {l : Launch} {X : Option (Nat × (Nat → Int32))} {cl : Nat → List Value → Sg → Rs} {kn : Kn} {mm : MT} {pc n a b : Nat} {v : Int32} {ls : Lc} {st : List Value} {σ : Sg} {r : Option Value} {σ' : Sg} (hk : ∀ (pc : Nat) (ls : Lc) (st : List Value) (τ : Sg) (r : Option Value) (σ' : Sg), kn pc ls st τ = some (r, σ') → Snd l X mm pc ls st τ r σ') {x : Fin 4} (hdec : decode mm.2.1 pc = .ok (.astore_n x, n)) (hok : okE mm (pc, .astore_n x, n, v, a, b) = true) (h : stp X cl kn mm (pc, .astore_n x, n, v, a, b) ls st σ = some (r, σ')) : Snd l X mm pc ls st σ r σ' := by
  simp only [okE, Bool.and_eq_true, decide_eq_true_eq] at hok
  obtain ⟨rfl, rfl⟩ : n = 1 ∧ x.val = a := hok
  simp only [stp] at h
  split at h
  · rename_i y st'
    split at h
    · rename_i ha
      refine (hk _ _ _ _ _ _ h).step rfl rfl id (List.length_set ..) ?_
      intro p e R s m args below meth c H0 H locs cells slots Q A D cy ad bb la C Hh hl hln hcs kk
      exact lv_astore_n C.1 C.2.1 hdec rfl hl.has ha rfl (fun la' h' => kk la' H locs (hl.put (v := .ref y) rfl rfl h') Hh)
    · cases h
  · cases h
set_option maxHeartbeats 1000000 in
theorem sd_iinc {l : Launch} {X : Option (Nat × (Nat → Int32))} {cl : Nat → List Value → Sg → Rs} {kn : Kn} {mm : MT} {pc n a b : Nat} {v : Int32} {ls : Lc} {st : List Value} {σ : Sg} {r : Option Value} {σ' : Sg} (hk : ∀ (pc : Nat) (ls : Lc) (st : List Value) (τ : Sg) (r : Option Value) (σ' : Sg), kn pc ls st τ = some (r, σ') → Snd l X mm pc ls st τ r σ') {x : Nat} {z : Int} (hdec : decode mm.2.1 pc = .ok (.iinc x z, n)) (hok : okE mm (pc, .iinc x z, n, v, a, b) = true) (h : stp X cl kn mm (pc, .iinc x z, n, v, a, b) ls st σ = some (r, σ')) : Snd l X mm pc ls st σ r σ' := by
  simp only [okE, Bool.and_eq_true, decide_eq_true_eq] at hok
  obtain ⟨⟨rfl, rfl⟩, hz⟩ : (n = 3 ∧ x = a) ∧ Int32.ofInt z = v := hok
  simp only [stp] at h
  split at h
  · rename_i y hx
    refine (hk _ _ _ _ _ _ h).step rfl rfl id (List.length_set ..) ?_
    intro p e R s m args below meth c H0 H locs cells slots Q A D cy ad bb la C Hh hl hln hcs kk
    obtain ⟨k, hkk⟩ := List.getElem?_of_mem (lvP_mem (ad := ad) (b := bb) (ls := ls) (q := (x, .int y)) |>.mpr ⟨.int y, hx, rfl⟩)
    exact lv_iinc (v := y + v) C.1 C.2.1 hdec hl.has hkk (by rw [hz]) (List.getElem?_eq_some_iff.mp hx).1 rfl (fun la' h' => kk la' H locs (hl.put (v := .int (y + v)) rfl rfl h') Hh)
  · cases h
set_option maxHeartbeats 1000000 in
theorem sd_iadd {l : Launch} {X : Option (Nat × (Nat → Int32))} {cl : Nat → List Value → Sg → Rs} {kn : Kn} {mm : MT} {pc n a b : Nat} {v : Int32} {ls : Lc} {st : List Value} {σ : Sg} {r : Option Value} {σ' : Sg} (hk : ∀ (pc : Nat) (ls : Lc) (st : List Value) (τ : Sg) (r : Option Value) (σ' : Sg), kn pc ls st τ = some (r, σ') → Snd l X mm pc ls st τ r σ') (hdec : decode mm.2.1 pc = .ok (.iadd, n)) (hok : okE mm (pc, .iadd, n, v, a, b) = true) (h : stp X cl kn mm (pc, .iadd, n, v, a, b) ls st σ = some (r, σ')) : Snd l X mm pc ls st σ r σ' := by
  obtain rfl : n = 1 := by simpa only [okE, decide_eq_true_eq] using hok
  simp only [stp] at h
  split at h
  · rename_i y x st'
    refine (hk _ _ _ _ _ _ h).step rfl rfl id rfl ?_
    intro p e R s m args below meth c H0 H locs cells slots Q A D cy ad bb la C Hh hl hln hcs kk
    exact lv_iadd C.1 C.2.1 hdec (kk la H locs hl Hh)
  · cases h
set_option maxHeartbeats 1000000 in
theorem sd_isub {l : Launch} {X : Option (Nat × (Nat → Int32))} {cl : Nat → List Value → Sg → Rs} {kn : Kn} {mm : MT} {pc n a b : Nat} {v : Int32} {ls : Lc} {st : List Value} {σ : Sg} {r : Option Value} {σ' : Sg} (hk : ∀ (pc : Nat) (ls : Lc) (st : List Value) (τ : Sg) (r : Option Value) (σ' : Sg), kn pc ls st τ = some (r, σ') → Snd l X mm pc ls st τ r σ') (hdec : decode mm.2.1 pc = .ok (.isub, n)) (hok : okE mm (pc, .isub, n, v, a, b) = true) (h : stp X cl kn mm (pc, .isub, n, v, a, b) ls st σ = some (r, σ')) : Snd l X mm pc ls st σ r σ' := by
  obtain rfl : n = 1 := by simpa only [okE, decide_eq_true_eq] using hok
  simp only [stp] at h
  split at h
  · rename_i y x st'
    refine (hk _ _ _ _ _ _ h).step rfl rfl id rfl ?_
    intro p e R s m args below meth c H0 H locs cells slots Q A D cy ad bb la C Hh hl hln hcs kk
    exact lv_isub C.1 C.2.1 hdec (kk la H locs hl Hh)
  · cases h
set_option maxHeartbeats 1000000 in
theorem sd_imul {l : Launch} {X : Option (Nat × (Nat → Int32))} {cl : Nat → List Value → Sg → Rs} {kn : Kn} {mm : MT} {pc n a b : Nat} {v : Int32} {ls : Lc} {st : List Value} {σ : Sg} {r : Option Value} {σ' : Sg} (hk : ∀ (pc : Nat) (ls : Lc) (st : List Value) (τ : Sg) (r : Option Value) (σ' : Sg), kn pc ls st τ = some (r, σ') → Snd l X mm pc ls st τ r σ') (hdec : decode mm.2.1 pc = .ok (.imul, n)) (hok : okE mm (pc, .imul, n, v, a, b) = true) (h : stp X cl kn mm (pc, .imul, n, v, a, b) ls st σ = some (r, σ')) : Snd l X mm pc ls st σ r σ' := by
  obtain rfl : n = 1 := by simpa only [okE, decide_eq_true_eq] using hok
  simp only [stp] at h
  split at h
  · rename_i y x st'
    refine (hk _ _ _ _ _ _ h).step rfl rfl id rfl ?_
    intro p e R s m args below meth c H0 H locs cells slots Q A D cy ad bb la C Hh hl hln hcs kk
    exact lv_imul C.1 C.2.1 hdec (kk la H locs hl Hh)
  · cases h
set_option maxHeartbeats 1000000 in
theorem sd_iand {l : Launch} {X : Option (Nat × (Nat → Int32))} {cl : Nat → List Value → Sg → Rs} {kn : Kn} {mm : MT} {pc n a b : Nat} {v : Int32} {ls : Lc} {st : List Value} {σ : Sg} {r : Option Value} {σ' : Sg} (hk : ∀ (pc : Nat) (ls : Lc) (st : List Value) (τ : Sg) (r : Option Value) (σ' : Sg), kn pc ls st τ = some (r, σ') → Snd l X mm pc ls st τ r σ') (hdec : decode mm.2.1 pc = .ok (.iand, n)) (hok : okE mm (pc, .iand, n, v, a, b) = true) (h : stp X cl kn mm (pc, .iand, n, v, a, b) ls st σ = some (r, σ')) : Snd l X mm pc ls st σ r σ' := by
  obtain rfl : n = 1 := by simpa only [okE, decide_eq_true_eq] using hok
  simp only [stp] at h
  split at h
  · rename_i y x st'
    refine (hk _ _ _ _ _ _ h).step rfl rfl id rfl ?_
    intro p e R s m args below meth c H0 H locs cells slots Q A D cy ad bb la C Hh hl hln hcs kk
    exact lv_iand C.1 C.2.1 hdec (kk la H locs hl Hh)
  · cases h
set_option maxHeartbeats 1000000 in
theorem sd_ixor {l : Launch} {X : Option (Nat × (Nat → Int32))} {cl : Nat → List Value → Sg → Rs} {kn : Kn} {mm : MT} {pc n a b : Nat} {v : Int32} {ls : Lc} {st : List Value} {σ : Sg} {r : Option Value} {σ' : Sg} (hk : ∀ (pc : Nat) (ls : Lc) (st : List Value) (τ : Sg) (r : Option Value) (σ' : Sg), kn pc ls st τ = some (r, σ') → Snd l X mm pc ls st τ r σ') (hdec : decode mm.2.1 pc = .ok (.ixor, n)) (hok : okE mm (pc, .ixor, n, v, a, b) = true) (h : stp X cl kn mm (pc, .ixor, n, v, a, b) ls st σ = some (r, σ')) : Snd l X mm pc ls st σ r σ' := by
  obtain rfl : n = 1 := by simpa only [okE, decide_eq_true_eq] using hok
  simp only [stp] at h
  split at h
  · rename_i y x st'
    refine (hk _ _ _ _ _ _ h).step rfl rfl id rfl ?_
    intro p e R s m args below meth c H0 H locs cells slots Q A D cy ad bb la C Hh hl hln hcs kk
    exact lv_ixor C.1 C.2.1 hdec (kk la H locs hl Hh)
  · cases h
set_option maxHeartbeats 1000000 in
theorem sd_idiv {l : Launch} {X : Option (Nat × (Nat → Int32))} {cl : Nat → List Value → Sg → Rs} {kn : Kn} {mm : MT} {pc n a b : Nat} {v : Int32} {ls : Lc} {st : List Value} {σ : Sg} {r : Option Value} {σ' : Sg} (hk : ∀ (pc : Nat) (ls : Lc) (st : List Value) (τ : Sg) (r : Option Value) (σ' : Sg), kn pc ls st τ = some (r, σ') → Snd l X mm pc ls st τ r σ') (hdec : decode mm.2.1 pc = .ok (.idiv, n)) (hok : okE mm (pc, .idiv, n, v, a, b) = true) (h : stp X cl kn mm (pc, .idiv, n, v, a, b) ls st σ = some (r, σ')) : Snd l X mm pc ls st σ r σ' := by
  obtain rfl : n = 1 := by simpa only [okE, decide_eq_true_eq] using hok
  simp only [stp] at h
  split at h
  · rename_i y x st'
    split at h
    · cases h
    · rename_i hy
      refine (hk _ _ _ _ _ _ h).step rfl rfl id rfl ?_
      intro p e R s m args below meth c H0 H locs cells slots Q A D cy ad bb la C Hh hl hln hcs kk
      exact lv_idiv C.1 C.2.1 hdec hy (kk la H locs hl Hh)
  · cases h
set_option maxHeartbeats 1000000 in
theorem sd_irem {l : Launch} {X : Option (Nat × (Nat → Int32))} {cl : Nat → List Value → Sg → Rs} {kn : Kn} {mm : MT} {pc n a b : Nat} {v : Int32} {ls : Lc} {st : List Value} {σ : Sg} {r : Option Value} {σ' : Sg} (hk : ∀ (pc : Nat) (ls : Lc) (st : List Value) (τ : Sg) (r : Option Value) (σ' : Sg), kn pc ls st τ = some (r, σ') → Snd l X mm pc ls st τ r σ') (hdec : decode mm.2.1 pc = .ok (.irem, n)) (hok : okE mm (pc, .irem, n, v, a, b) = true) (h : stp X cl kn mm (pc, .irem, n, v, a, b) ls st σ = some (r, σ')) : Snd l X mm pc ls st σ r σ' := by
  obtain rfl : n = 1 := by simpa only [okE, decide_eq_true_eq] using hok
  simp only [stp] at h
  split at h
  · rename_i y x st'
    split at h
    · cases h
    · rename_i hy
      refine (hk _ _ _ _ _ _ h).step rfl rfl id rfl ?_
      intro p e R s m args below meth c H0 H locs cells slots Q A D cy ad bb la C Hh hl hln hcs kk
      exact lv_irem C.1 C.2.1 hdec hy (kk la H locs hl Hh)
  · cases h
set_option maxHeartbeats 1000000 in
theorem sd_dup {l : Launch} {X : Option (Nat × (Nat → Int32))} {cl : Nat → List Value → Sg → Rs} {kn : Kn} {mm : MT} {pc n a b : Nat} {v : Int32} {ls : Lc} {st : List Value} {σ : Sg} {r : Option Value} {σ' : Sg} (hk : ∀ (pc : Nat) (ls : Lc) (st : List Value) (τ : Sg) (r : Option Value) (σ' : Sg), kn pc ls st τ = some (r, σ') → Snd l X mm pc ls st τ r σ') (hdec : decode mm.2.1 pc = .ok (.dup, n)) (hok : okE mm (pc, .dup, n, v, a, b) = true) (h : stp X cl kn mm (pc, .dup, n, v, a, b) ls st σ = some (r, σ')) : Snd l X mm pc ls st σ r σ' := by
  obtain rfl : n = 1 := by simpa only [okE, decide_eq_true_eq] using hok
  simp only [stp] at h
  split at h
  · rename_i x st'
    refine (hk _ _ _ _ _ _ h).step rfl rfl id rfl ?_
    intro p e R s m args below meth c H0 H locs cells slots Q A D cy ad bb la C Hh hl hln hcs kk
    exact lv_dup C.1 C.2.1 hdec rfl (kk la H locs hl Hh)
  · rename_i x st'
    refine (hk _ _ _ _ _ _ h).step rfl rfl id rfl ?_
    intro p e R s m args below meth c H0 H locs cells slots Q A D cy ad bb la C Hh hl hln hcs kk
    exact lv_dup C.1 C.2.1 hdec rfl (kk la H locs hl Hh)
  · cases h
set_option maxHeartbeats 1000000 in
theorem sd_dup2 {l : Launch} {X : Option (Nat × (Nat → Int32))} {cl : Nat → List Value → Sg → Rs} {kn : Kn} {mm : MT} {pc n a b : Nat} {v : Int32} {ls : Lc} {st : List Value} {σ : Sg} {r : Option Value} {σ' : Sg} (hk : ∀ (pc : Nat) (ls : Lc) (st : List Value) (τ : Sg) (r : Option Value) (σ' : Sg), kn pc ls st τ = some (r, σ') → Snd l X mm pc ls st τ r σ') (hdec : decode mm.2.1 pc = .ok (.dup2, n)) (hok : okE mm (pc, .dup2, n, v, a, b) = true) (h : stp X cl kn mm (pc, .dup2, n, v, a, b) ls st σ = some (r, σ')) : Snd l X mm pc ls st σ r σ' := by
  obtain rfl : n = 1 := by simpa only [okE, decide_eq_true_eq] using hok
  simp only [stp] at h
  split at h
  · rename_i x y st'
    refine (hk _ _ _ _ _ _ h).step rfl rfl id rfl ?_
    intro p e R s m args below meth c H0 H locs cells slots Q A D cy ad bb la C Hh hl hln hcs kk
    exact lv_dup2_11 C.1 C.2.1 hdec rfl rfl (kk la H locs hl Hh)
  · cases h
set_option maxHeartbeats 1000000 in
theorem sd_ifCond {l : Launch} {X : Option (Nat × (Nat → Int32))} {cl : Nat → List Value → Sg → Rs} {kn : Kn} {mm : MT} {pc n a b : Nat} {v : Int32} {ls : Lc} {st : List Value} {σ : Sg} {r : Option Value} {σ' : Sg} (hk : ∀ (pc : Nat) (ls : Lc) (st : List Value) (τ : Sg) (r : Option Value) (σ' : Sg), kn pc ls st τ = some (r, σ') → Snd l X mm pc ls st τ r σ') {cc : ClassFile.Cond} {off : Int} (hdec : decode mm.2.1 pc = .ok (.ifCond cc off, n)) (hok : okE mm (pc, .ifCond cc off, n, v, a, b) = true) (h : stp X cl kn mm (pc, .ifCond cc off, n, v, a, b) ls st σ = some (r, σ')) : Snd l X mm pc ls st σ r σ' := by
  simp only [okE, Bool.and_eq_true, decide_eq_true_eq] at hok
  obtain ⟨rfl, ht⟩ : n = 3 ∧ (pc : Int) + off = (a : Int) := hok
  simp only [stp] at h
  split at h
  · rename_i x st'
    cases cc
    · simp only at h
      split at h
      · rename_i hc
        refine (hk _ _ _ _ _ _ h).step rfl rfl id rfl ?_
        intro p e R s m args below meth c H0 H locs cells slots Q A D cy ad bb la C Hh hl hln hcs kk
        exact lv_if_eq C.1 C.2.1 hdec ht (fun q => kk la H locs hl Hh) (fun q => absurd hc q)
      · rename_i hc
        refine (hk _ _ _ _ _ _ h).step rfl rfl id rfl ?_
        intro p e R s m args below meth c H0 H locs cells slots Q A D cy ad bb la C Hh hl hln hcs kk
        exact lv_if_eq C.1 C.2.1 hdec ht (fun q => absurd q hc) (fun q => kk la H locs hl Hh)
    · simp only at h
      split at h
      · rename_i hc
        refine (hk _ _ _ _ _ _ h).step rfl rfl id rfl ?_
        intro p e R s m args below meth c H0 H locs cells slots Q A D cy ad bb la C Hh hl hln hcs kk
        exact lv_if_ne C.1 C.2.1 hdec ht (fun q => absurd hc q) (fun q => kk la H locs hl Hh)
      · rename_i hc
        refine (hk _ _ _ _ _ _ h).step rfl rfl id rfl ?_
        intro p e R s m args below meth c H0 H locs cells slots Q A D cy ad bb la C Hh hl hln hcs kk
        exact lv_if_ne C.1 C.2.1 hdec ht (fun q => kk la H locs hl Hh) (fun q => absurd q hc)
    · simp only at h
      split at h
      · rename_i hc
        refine (hk _ _ _ _ _ _ h).step rfl rfl id rfl ?_
        intro p e R s m args below meth c H0 H locs cells slots Q A D cy ad bb la C Hh hl hln hcs kk
        exact lv_if_lt C.1 C.2.1 hdec ht (fun q => kk la H locs hl Hh) (fun q => absurd hc q)
      · rename_i hc
        refine (hk _ _ _ _ _ _ h).step rfl rfl id rfl ?_
        intro p e R s m args below meth c H0 H locs cells slots Q A D cy ad bb la C Hh hl hln hcs kk
        exact lv_if_lt C.1 C.2.1 hdec ht (fun q => absurd q hc) (fun q => kk la H locs hl Hh)
    · simp only at h
      split at h
      · rename_i hc
        refine (hk _ _ _ _ _ _ h).step rfl rfl id rfl ?_
        intro p e R s m args below meth c H0 H locs cells slots Q A D cy ad bb la C Hh hl hln hcs kk
        exact lv_if_ge C.1 C.2.1 hdec ht (fun q => kk la H locs hl Hh) (fun q => absurd hc q)
      · rename_i hc
        refine (hk _ _ _ _ _ _ h).step rfl rfl id rfl ?_
        intro p e R s m args below meth c H0 H locs cells slots Q A D cy ad bb la C Hh hl hln hcs kk
        exact lv_if_ge C.1 C.2.1 hdec ht (fun q => absurd q hc) (fun q => kk la H locs hl Hh)
    · simp only at h
      split at h
      · rename_i hc
        refine (hk _ _ _ _ _ _ h).step rfl rfl id rfl ?_
        intro p e R s m args below meth c H0 H locs cells slots Q A D cy ad bb la C Hh hl hln hcs kk
        exact lv_if_gt C.1 C.2.1 hdec ht (fun q => kk la H locs hl Hh) (fun q => absurd hc q)
      · rename_i hc
        refine (hk _ _ _ _ _ _ h).step rfl rfl id rfl ?_
        intro p e R s m args below meth c H0 H locs cells slots Q A D cy ad bb la C Hh hl hln hcs kk
        exact lv_if_gt C.1 C.2.1 hdec ht (fun q => absurd q hc) (fun q => kk la H locs hl Hh)
    · simp only at h
      split at h
      · rename_i hc
        refine (hk _ _ _ _ _ _ h).step rfl rfl id rfl ?_
        intro p e R s m args below meth c H0 H locs cells slots Q A D cy ad bb la C Hh hl hln hcs kk
        exact lv_if_le C.1 C.2.1 hdec ht (fun q => kk la H locs hl Hh) (fun q => absurd hc q)
      · rename_i hc
        refine (hk _ _ _ _ _ _ h).step rfl rfl id rfl ?_
        intro p e R s m args below meth c H0 H locs cells slots Q A D cy ad bb la C Hh hl hln hcs kk
        exact lv_if_le C.1 C.2.1 hdec ht (fun q => absurd q hc) (fun q => kk la H locs hl Hh)
  · cases h
set_option maxHeartbeats 1000000 in
theorem sd_icmp {l : Launch} {X : Option (Nat × (Nat → Int32))} {cl : Nat → List Value → Sg → Rs} {kn : Kn} {mm : MT} {pc n a b : Nat} {v : Int32} {ls : Lc} {st : List Value} {σ : Sg} {r : Option Value} {σ' : Sg} (hk : ∀ (pc : Nat) (ls : Lc) (st : List Value) (τ : Sg) (r : Option Value) (σ' : Sg), kn pc ls st τ = some (r, σ') → Snd l X mm pc ls st τ r σ') {cc : ClassFile.Cond} {off : Int} (hdec : decode mm.2.1 pc = .ok (.if_icmp cc off, n)) (hok : okE mm (pc, .if_icmp cc off, n, v, a, b) = true) (h : stp X cl kn mm (pc, .if_icmp cc off, n, v, a, b) ls st σ = some (r, σ')) : Snd l X mm pc ls st σ r σ' := by
  simp only [okE, Bool.and_eq_true, decide_eq_true_eq] at hok
  obtain ⟨rfl, ht⟩ : n = 3 ∧ (pc : Int) + off = (a : Int) := hok
  simp only [stp] at h
  split at h
  · rename_i y x st'
    cases cc
    · simp only at h
      split at h
      · rename_i hc
        refine (hk _ _ _ _ _ _ h).step rfl rfl id rfl ?_
        intro p e R s m args below meth c H0 H locs cells slots Q A D cy ad bb la C Hh hl hln hcs kk
        exact lv_icmp_eq C.1 C.2.1 hdec ht (fun q => kk la H locs hl Hh) (fun q => absurd hc q)
      · rename_i hc
        refine (hk _ _ _ _ _ _ h).step rfl rfl id rfl ?_
        intro p e R s m args below meth c H0 H locs cells slots Q A D cy ad bb la C Hh hl hln hcs kk
        exact lv_icmp_eq C.1 C.2.1 hdec ht (fun q => absurd q hc) (fun q => kk la H locs hl Hh)
    · simp only at h
      split at h
      · rename_i hc
        refine (hk _ _ _ _ _ _ h).step rfl rfl id rfl ?_
        intro p e R s m args below meth c H0 H locs cells slots Q A D cy ad bb la C Hh hl hln hcs kk
        exact lv_icmp_ne C.1 C.2.1 hdec ht (fun q => absurd hc q) (fun q => kk la H locs hl Hh)
      · rename_i hc
        refine (hk _ _ _ _ _ _ h).step rfl rfl id rfl ?_
        intro p e R s m args below meth c H0 H locs cells slots Q A D cy ad bb la C Hh hl hln hcs kk
        exact lv_icmp_ne C.1 C.2.1 hdec ht (fun q => kk la H locs hl Hh) (fun q => absurd q hc)
    · simp only at h
      split at h
      · rename_i hc
        refine (hk _ _ _ _ _ _ h).step rfl rfl id rfl ?_
        intro p e R s m args below meth c H0 H locs cells slots Q A D cy ad bb la C Hh hl hln hcs kk
        exact lv_icmp_lt C.1 C.2.1 hdec ht (fun q => kk la H locs hl Hh) (fun q => absurd hc q)
      · rename_i hc
        refine (hk _ _ _ _ _ _ h).step rfl rfl id rfl ?_
        intro p e R s m args below meth c H0 H locs cells slots Q A D cy ad bb la C Hh hl hln hcs kk
        exact lv_icmp_lt C.1 C.2.1 hdec ht (fun q => absurd q hc) (fun q => kk la H locs hl Hh)
    · simp only at h
      split at h
      · rename_i hc
        refine (hk _ _ _ _ _ _ h).step rfl rfl id rfl ?_
        intro p e R s m args below meth c H0 H locs cells slots Q A D cy ad bb la C Hh hl hln hcs kk
        exact lv_icmp_ge C.1 C.2.1 hdec ht (fun q => kk la H locs hl Hh) (fun q => absurd hc q)
      · rename_i hc
        refine (hk _ _ _ _ _ _ h).step rfl rfl id rfl ?_
        intro p e R s m args below meth c H0 H locs cells slots Q A D cy ad bb la C Hh hl hln hcs kk
        exact lv_icmp_ge C.1 C.2.1 hdec ht (fun q => absurd q hc) (fun q => kk la H locs hl Hh)
    · simp only at h
      split at h
      · rename_i hc
        refine (hk _ _ _ _ _ _ h).step rfl rfl id rfl ?_
        intro p e R s m args below meth c H0 H locs cells slots Q A D cy ad bb la C Hh hl hln hcs kk
        exact lv_icmp_gt C.1 C.2.1 hdec ht (fun q => kk la H locs hl Hh) (fun q => absurd hc q)
      · rename_i hc
        refine (hk _ _ _ _ _ _ h).step rfl rfl id rfl ?_
        intro p e R s m args below meth c H0 H locs cells slots Q A D cy ad bb la C Hh hl hln hcs kk
        exact lv_icmp_gt C.1 C.2.1 hdec ht (fun q => absurd q hc) (fun q => kk la H locs hl Hh)
    · simp only at h
      split at h
      · rename_i hc
        refine (hk _ _ _ _ _ _ h).step rfl rfl id rfl ?_
        intro p e R s m args below meth c H0 H locs cells slots Q A D cy ad bb la C Hh hl hln hcs kk
        exact lv_icmp_le C.1 C.2.1 hdec ht (fun q => kk la H locs hl Hh) (fun q => absurd hc q)
      · rename_i hc
        refine (hk _ _ _ _ _ _ h).step rfl rfl id rfl ?_
        intro p e R s m args below meth c H0 H locs cells slots Q A D cy ad bb la C Hh hl hln hcs kk
        exact lv_icmp_le C.1 C.2.1 hdec ht (fun q => absurd q hc) (fun q => kk la H locs hl Hh)
  · cases h
set_option maxHeartbeats 1000000 in
theorem sd_goto {l : Launch} {X : Option (Nat × (Nat → Int32))} {cl : Nat → List Value → Sg → Rs} {kn : Kn} {mm : MT} {pc n a b : Nat} {v : Int32} {ls : Lc} {st : List Value} {σ : Sg} {r : Option Value} {σ' : Sg} (hk : ∀ (pc : Nat) (ls : Lc) (st : List Value) (τ : Sg) (r : Option Value) (σ' : Sg), kn pc ls st τ = some (r, σ') → Snd l X mm pc ls st τ r σ') {off : Int} (hdec : decode mm.2.1 pc = .ok (.goto off, n)) (hok : okE mm (pc, .goto off, n, v, a, b) = true) (h : stp X cl kn mm (pc, .goto off, n, v, a, b) ls st σ = some (r, σ')) : Snd l X mm pc ls st σ r σ' := by
  simp only [okE, Bool.and_eq_true, decide_eq_true_eq] at hok
  have h : kn a ls st σ = some (r, σ') := h
  refine (hk _ _ _ _ _ _ h).step rfl rfl id rfl ?_
  obtain ⟨rfl, ht⟩ : n = 3 ∧ (pc : Int) + off = (a : Int) := hok
  intro p e R s m args below meth c H0 H locs cells slots Q A D cy ad bb la C Hh hl hln hcs kk
  exact lv_goto C.1 C.2.1 hdec ht (kk la H locs hl Hh)
end
section
theorem upM {ad : Nat → Nat} {rf : Nat → Option Nat} {k q : Nat} : va_up (fun j => (rf j).map ad) k (some (ad q)) = fun j => (va_up rf k (some q) j).map ad := by
  funext j
  by_cases hj : j = k <;> simp [va_up, hj]
theorem ws_wrI {cy : Nat → ClassId} {ad : Nat → Nat} {σ : Sg} {rr k : Nat} {x : Int32} {e : va_E} (he : e = cE cy ad (σ.2.2.1 rr) (upd (σ.2.2.2 rr) k x)) : (wsO cy ad σ).set rr (ad rr, e) = wsO cy ad (wrI σ rr k x) := by
  obtain ⟨N, M, G, I⟩ := σ
  refine wsO_set (G' := G) (I' := va_up I rr (upd (I rr) k x)) ?_ (fun j hj => rfl) (fun j hj => va_up_ne _ _ hj)
  rw [va_up_self]
  exact he
theorem ws_cpI {cy : Nat → ClassId} {ad : Nat → Nat} {σ : Sg} {r0 rr sp dp n : Nat} {e : va_E} (he : e = cE cy ad (σ.2.2.1 rr) (va_cpy (σ.2.2.2 r0) (σ.2.2.2 rr) sp dp n)) : (wsO cy ad σ).set rr (ad rr, e) = wsO cy ad (cpI σ r0 rr sp dp n) := by
  obtain ⟨N, M, G, I⟩ := σ
  refine wsO_set (G' := G) (I' := va_up I rr (va_cpy (I r0) (I rr) sp dp n)) ?_ (fun j hj => rfl) (fun j hj => va_up_ne _ _ hj)
  rw [va_up_self]
  exact he
theorem ws_wrR {cy : Nat → ClassId} {ad : Nat → Nat} {σ : Sg} {rr k q : Nat} {e : va_E} (he : e = cE cy ad ((σ.2.2.1 rr).1, (σ.2.2.1 rr).2.1, va_up (σ.2.2.1 rr).2.2 k (some q)) (σ.2.2.2 rr)) : (wsO cy ad σ).set rr (ad rr, e) = wsO cy ad (wrR σ rr k q) := by
  obtain ⟨N, M, G, I⟩ := σ
  refine wsO_set (G' := va_up G rr ((G rr).1, (G rr).2.1, va_up (G rr).2.2 k (some q))) (I' := I) ?_ (fun j hj => va_up_ne _ _ hj) (fun j hj => rfl)
  rw [va_up_self]
  exact he
theorem ws_obj {cy : Nat → ClassId} {ad : Nat → Nat} {σ : Sg} {rr a : Nat} (h : hsC σ rr a) (ha : a < 10) : (wsO cy ad σ)[rr]? = some (ad rr, .inr (a, fvL ad (σ.2.2.1 rr).2.2 (σ.2.2.2 rr) (ftk a) 0)) := by
  rw [wsO_get h.1, cE_obj h.2 ha]
theorem ws_10 {cy : Nat → ClassId} {ad : Nat → Nat} {σ : Sg} {rr : Nat} (h : hsC σ rr 10) : (wsO cy ad σ)[rr]? = some (ad rr, .inl (cy 0, (σ.2.2.1 rr).2.1, .inl (σ.2.2.2 rr))) := by
  rw [wsO_get h.1, cE_10 h.2]
theorem ws_11 {cy : Nat → ClassId} {ad : Nat → Nat} {σ : Sg} {rr : Nat} (h : hsC σ rr 11) : (wsO cy ad σ)[rr]? = some (ad rr, .inl (cy 1, (σ.2.2.1 rr).2.1, .inl (σ.2.2.2 rr))) := by
  rw [wsO_get h.1, cE_11 h.2]
theorem ws_12 {cy : Nat → ClassId} {ad : Nat → Nat} {σ : Sg} {rr : Nat} (h : hsC σ rr 12) : (wsO cy ad σ)[rr]? = some (ad rr, .inl (cy 2, (σ.2.2.1 rr).2.1, .inr (.inr (.inr (.inr (fun j => ((σ.2.2.1 rr).2.2 j).map ad)))))) := by
  rw [wsO_get h.1, cE_12 h.2]
theorem ws_13 {cy : Nat → ClassId} {ad : Nat → Nat} {σ : Sg} {rr : Nat} (h : hsC σ rr 13) : (wsO cy ad σ)[rr]? = some (ad rr, .inl (cy 3, (σ.2.2.1 rr).2.1, .inr (.inr (.inr (.inr (fun j => ((σ.2.2.1 rr).2.2 j).map ad)))))) := by
  rw [wsO_get h.1, cE_13 h.2]
set_option maxHeartbeats 1000000 in
theorem sd_getfield {l : Launch} {X : Option (Nat × (Nat → Int32))} {cl : Nat → List Value → Sg → Rs} {kn : Kn} {mm : MT} {pc n a b : Nat} {v : Int32} {ls : Lc} {st : List Value} {σ : Sg} {r : Option Value} {σ' : Sg} (hk : ∀ (pc : Nat) (ls : Lc) (st : List Value) (τ : Sg) (r : Option Value) (σ' : Sg), kn pc ls st τ = some (r, σ') → Snd l X mm pc ls st τ r σ') {x : Nat} (hdec : decode mm.2.1 pc = .ok (.getfield x, n)) (hok : okE mm (pc, .getfield x, n, v, a, b) = true) (h : stp X cl kn mm (pc, .getfield x, n, v, a, b) ls st σ = some (r, σ')) : Snd l X mm pc ls st σ r σ' := by
  simp only [okE, Bool.and_eq_true, decide_eq_true_eq] at hok
  obtain ⟨⟨rfl, hb⟩, hfl⟩ := hok
  have ha : a < 10 := NC_pos hb
  simp only [stp] at h
  split at h
  · rename_i rr st'
    split at h
    · rename_i hC
      split at h
      · rename_i hft
        split at h
        · rename_i q hq
          refine (hk _ _ _ _ _ _ h).step rfl rfl id rfl ?_
          intro p e R s m args below meth c H0 H locs cells slots Q A D cy ad bb la C Hh hl hln hcs kk
          refine va_get C.1 C.2.1 C.2.2.2.2.2.1 (hinW a ha) C.2.2.2.2.1 Hh.2.2.1.1 Hh.1 rr (ws_obj hC ha) (vwC a ha) b hb (C.2.2.2.2.2.1 _ (inWS (flT_ok _ hfl) rfl)) (fun _ h => h) (v := .ref (ad q)) ?_ hdec (kk la H locs hl Hh)
          rw [fvL_get, hft]
          simp [hq, va_rf]
        · cases h
      · rename_i t hne hft
        refine (hk _ _ _ _ _ _ h).step rfl rfl id rfl ?_
        intro p e R s m args below meth c H0 H locs cells slots Q A D cy ad bb la C Hh hl hln hcs kk
        refine va_get C.1 C.2.1 C.2.2.2.2.2.1 (hinW a ha) C.2.2.2.2.1 Hh.2.2.1.1 Hh.1 rr (ws_obj hC ha) (vwC a ha) b hb (C.2.2.2.2.2.1 _ (inWS (flT_ok _ hfl) rfl)) (fun _ h => h) (v := .int (σ.2.2.2 rr b)) ?_ hdec (kk la H locs hl Hh)
        rw [fvL_get, hft]
        have h2 : ¬ t = 2 := fun e => hne e
        simp [h2]
      · cases h
    · cases h
  · cases h
set_option maxHeartbeats 1000000 in
theorem sd_putfield {l : Launch} {X : Option (Nat × (Nat → Int32))} {cl : Nat → List Value → Sg → Rs} {kn : Kn} {mm : MT} {pc n a b : Nat} {v : Int32} {ls : Lc} {st : List Value} {σ : Sg} {r : Option Value} {σ' : Sg} (hk : ∀ (pc : Nat) (ls : Lc) (st : List Value) (τ : Sg) (r : Option Value) (σ' : Sg), kn pc ls st τ = some (r, σ') → Snd l X mm pc ls st τ r σ') {x : Nat} (hdec : decode mm.2.1 pc = .ok (.putfield x, n)) (hok : okE mm (pc, .putfield x, n, v, a, b) = true) (h : stp X cl kn mm (pc, .putfield x, n, v, a, b) ls st σ = some (r, σ')) : Snd l X mm pc ls st σ r σ' := by
  simp only [okE, Bool.and_eq_true, decide_eq_true_eq, Bool.or_eq_true] at hok
  obtain ⟨⟨⟨rfl, hb⟩, hfl⟩, hfin⟩ := hok
  have ha : a < 10 := NC_pos hb
  obtain ⟨t0, t1, t2, t3, t4⟩ := ftk_ty a ha b hb
  simp only [stp] at h
  split at h
  · rename_i y rr st'
    split at h
    · rename_i hC
      split at h
      · rename_i hft
        have hnf : (TC a b).2.2.2 = false := by
          cases hz : (TC a b).2.2.2 with
          | false => rfl
          | true => rw [t3.mpr hz] at hft; cases hft
        refine (hk _ _ _ _ _ _ h).step rfl rfl wf_wrI rfl ?_
        intro p e R s m args below meth c H0 H locs cells slots Q A D cy ad bb la C Hh hl hln hcs kk
        refine va_put C.1 C.2.1 C.2.2.2.2.2.1 (hinW a ha) (tyC a) (tyC_ok a ha) (nmC a ha) C.2.2.2.2.1 Hh.2.2.1.1 Hh.1 Hh.2.1 Hh.2.2.2.1 rr (ws_obj hC ha) (vwC a ha) b hb (C.2.2.2.2.2.1 _ (inWS (flT_ok _ hfl) rfl)) (fun _ h => h) hnf (v := .int y) (tyC_ok a ha b hb) (by rw [t0 hft]; rfl) (by rw [t0 hft]; rfl) (by rw [fvL_len, t4]; exact hb) hdec (fun H1 locs1 hP hD hS => kk la H1 locs1 hl (Hh.setI (ws_wrI ?_) hP hD hS))
        rw [fvL_setI _ _ _ _ _ _ _ hft (by decide), cE_obj hC.2 ha]
      · rename_i hft
        split at h
        · rename_i hy
          have hnf : (TC a b).2.2.2 = false := by
            cases hz : (TC a b).2.2.2 with
            | false => rfl
            | true => rw [t3.mpr hz] at hft; cases hft
          refine (hk _ _ _ _ _ _ h).step rfl rfl wf_wrI rfl ?_
          intro p e R s m args below meth c H0 H locs cells slots Q A D cy ad bb la C Hh hl hln hcs kk
          refine va_put C.1 C.2.1 C.2.2.2.2.2.1 (hinW a ha) (tyC a) (tyC_ok a ha) (nmC a ha) C.2.2.2.2.1 Hh.2.2.1.1 Hh.1 Hh.2.1 Hh.2.2.2.1 rr (ws_obj hC ha) (vwC a ha) b hb (C.2.2.2.2.2.1 _ (inWS (flT_ok _ hfl) rfl)) (fun _ h => h) hnf (v := .int y) (tyC_ok a ha b hb) (by rw [t1 hft]; exact (bo_fit hy).1) (by rw [t1 hft]; exact (bo_fit hy).2.1) (by rw [fvL_len, t4]; exact hb) hdec (fun H1 locs1 hP hD hS => kk la H1 locs1 hl (Hh.setI (ws_wrI ?_) hP hD hS))
          rw [fvL_setI _ _ _ _ _ _ _ hft (by decide), cE_obj hC.2 ha]
        · cases h
      · cases h
    · cases h
  · rename_i q rr st'
    split at h
    · rename_i hC
      have hft := hC.2.2
      have hf : (TC a b).2.2.2 = true := t3.mp hft
      have hd : mm.2.2.2.2.2.2.2.2 = 2 ∧ (TC a b).1 = RC mm.2.2.2.2.1 := by
        rcases hfin with hz | hz
        · rw [hf] at hz; cases hz
        · exact hz
      refine (hk _ _ _ _ _ _ h).step rfl rfl (wf_wrR hC.2.1) rfl ?_
      intro p e R s m args below meth c H0 H locs cells slots Q A D cy ad bb la C Hh hl hln hcs kk
      refine va_putF C.1 C.2.1 C.2.2.2.2.2.1 (hinW a ha) (tyC a) (tyC_ok a ha) (nmC a ha) C.2.2.2.2.1 Hh.2.2.1.1 Hh.1 Hh.2.1 Hh.2.2.2.1 rr (ws_obj hC.1 ha) (vwC a ha) b hb (C.2.2.2.2.2.1 _ (inWS (flT_ok _ hfl) rfl)) (fun _ h => h) hf (C.2.2.2.2.2.2.2.2.2 hd.1) hd.2 (v := .ref (ad q)) (tyC_ok a ha b hb) (rt_fit (t2 hft) _).1 (rt_fit (t2 hft) _).2 (by rw [fvL_len, t4]; exact hb) hdec (fun H1 locs1 hP hD hS => kk la H1 locs1 hl (Hh.setI (ws_wrR ?_) hP hD hS))
      rw [fvL_setR _ _ _ _ _ _ hft]
      exact (cE_obj (g := ((σ.2.2.1 rr).1, (σ.2.2.1 rr).2.1, va_up (σ.2.2.1 rr).2.2 b (some q))) hC.1.2 ha).symm
    · cases h
  · cases h
set_option maxHeartbeats 1000000 in
theorem sd_iaload {l : Launch} {X : Option (Nat × (Nat → Int32))} {cl : Nat → List Value → Sg → Rs} {kn : Kn} {mm : MT} {pc n a b : Nat} {v : Int32} {ls : Lc} {st : List Value} {σ : Sg} {r : Option Value} {σ' : Sg} (hk : ∀ (pc : Nat) (ls : Lc) (st : List Value) (τ : Sg) (r : Option Value) (σ' : Sg), kn pc ls st τ = some (r, σ') → Snd l X mm pc ls st τ r σ') (hdec : decode mm.2.1 pc = .ok (.iaload, n)) (hok : okE mm (pc, .iaload, n, v, a, b) = true) (h : stp X cl kn mm (pc, .iaload, n, v, a, b) ls st σ = some (r, σ')) : Snd l X mm pc ls st σ r σ' := by
  obtain rfl : n = 1 := by simpa only [okE, decide_eq_true_eq] using hok
  simp only [stp] at h
  split at h
  · rename_i i rr st'
    split at h
    · rename_i hC
      split at h
      · cases h
      · rename_i hb
        refine (hk _ _ _ _ _ _ h).step rfl rfl id rfl ?_
        intro p e R s m args below meth c H0 H locs cells slots Q A D cy ad bb la C Hh hl hln hcs kk
        exact va_iald C.1 C.2.1 Hh.2.2.1.1 Hh.1 rr 0 (ws_10 hC) rfl hb hdec (kk la H locs hl Hh)
    · cases h
  · rename_i i zz st'
    split at h
    · rename_i L xs
      split at h
      · cases h
      · rename_i hb
        refine (hk _ _ _ _ _ _ h).step rfl rfl id rfl ?_
        intro p e R s m args below meth c H0 H locs cells slots Q A D cy ad bb la C Hh hl hln hcs kk
        obtain ⟨x1, x2, x3⟩ := Hh.2.2.2.2.2 L xs rfl
        exact va_sld C.1 C.2.1 x1 x2 x3 Hh.2.2.2.1 hb hdec (kk la H locs hl Hh)
    · cases h
  · cases h
set_option maxHeartbeats 1000000 in
theorem sd_baload {l : Launch} {X : Option (Nat × (Nat → Int32))} {cl : Nat → List Value → Sg → Rs} {kn : Kn} {mm : MT} {pc n a b : Nat} {v : Int32} {ls : Lc} {st : List Value} {σ : Sg} {r : Option Value} {σ' : Sg} (hk : ∀ (pc : Nat) (ls : Lc) (st : List Value) (τ : Sg) (r : Option Value) (σ' : Sg), kn pc ls st τ = some (r, σ') → Snd l X mm pc ls st τ r σ') (hdec : decode mm.2.1 pc = .ok (.baload, n)) (hok : okE mm (pc, .baload, n, v, a, b) = true) (h : stp X cl kn mm (pc, .baload, n, v, a, b) ls st σ = some (r, σ')) : Snd l X mm pc ls st σ r σ' := by
  obtain rfl : n = 1 := by simpa only [okE, decide_eq_true_eq] using hok
  simp only [stp] at h
  split at h
  · rename_i i rr st'
    split at h
    · rename_i hC
      split at h
      · cases h
      · rename_i hb
        refine (hk _ _ _ _ _ _ h).step rfl rfl id rfl ?_
        intro p e R s m args below meth c H0 H locs cells slots Q A D cy ad bb la C Hh hl hln hcs kk
        exact va_zald C.1 C.2.1 Hh.2.2.1.1 Hh.1 rr 1 (ws_11 hC) rfl hb hdec (kk la H locs hl Hh)
    · cases h
  · cases h
set_option maxHeartbeats 1000000 in
theorem sd_iastore {l : Launch} {X : Option (Nat × (Nat → Int32))} {cl : Nat → List Value → Sg → Rs} {kn : Kn} {mm : MT} {pc n a b : Nat} {v : Int32} {ls : Lc} {st : List Value} {σ : Sg} {r : Option Value} {σ' : Sg} (hk : ∀ (pc : Nat) (ls : Lc) (st : List Value) (τ : Sg) (r : Option Value) (σ' : Sg), kn pc ls st τ = some (r, σ') → Snd l X mm pc ls st τ r σ') (hdec : decode mm.2.1 pc = .ok (.iastore, n)) (hok : okE mm (pc, .iastore, n, v, a, b) = true) (h : stp X cl kn mm (pc, .iastore, n, v, a, b) ls st σ = some (r, σ')) : Snd l X mm pc ls st σ r σ' := by
  obtain rfl : n = 1 := by simpa only [okE, decide_eq_true_eq] using hok
  simp only [stp] at h
  split at h
  · rename_i y i rr st'
    split at h
    · rename_i hC
      split at h
      · cases h
      · rename_i hb
        refine (hk _ _ _ _ _ _ h).step rfl rfl wf_wrI rfl ?_
        intro p e R s m args below meth c H0 H locs cells slots Q A D cy ad bb la C Hh hl hln hcs kk
        refine va_iast C.1 C.2.1 Hh.2.2.1.1 Hh.1 Hh.2.1 Hh.2.2.2.1 rr 0 (ws_10 hC) rfl hb hdec (fun H1 locs1 hP hD hS => kk la H1 locs1 hl (Hh.setI (ws_wrI ?_) hP hD hS))
        rw [cE_10 hC.2]
    · cases h
  · cases h
set_option maxHeartbeats 1000000 in
theorem sd_bastore {l : Launch} {X : Option (Nat × (Nat → Int32))} {cl : Nat → List Value → Sg → Rs} {kn : Kn} {mm : MT} {pc n a b : Nat} {v : Int32} {ls : Lc} {st : List Value} {σ : Sg} {r : Option Value} {σ' : Sg} (hk : ∀ (pc : Nat) (ls : Lc) (st : List Value) (τ : Sg) (r : Option Value) (σ' : Sg), kn pc ls st τ = some (r, σ') → Snd l X mm pc ls st τ r σ') (hdec : decode mm.2.1 pc = .ok (.bastore, n)) (hok : okE mm (pc, .bastore, n, v, a, b) = true) (h : stp X cl kn mm (pc, .bastore, n, v, a, b) ls st σ = some (r, σ')) : Snd l X mm pc ls st σ r σ' := by
  obtain rfl : n = 1 := by simpa only [okE, decide_eq_true_eq] using hok
  simp only [stp] at h
  split at h
  · rename_i y i rr st'
    split at h
    · rename_i hC
      split at h
      · cases h
      · rename_i hb
        refine (hk _ _ _ _ _ _ h).step rfl rfl wf_wrI rfl ?_
        intro p e R s m args below meth c H0 H locs cells slots Q A D cy ad bb la C Hh hl hln hcs kk
        refine va_zast C.1 C.2.1 Hh.2.2.1.1 Hh.1 Hh.2.1 Hh.2.2.2.1 rr 1 (ws_11 hC.1) rfl hb hdec (fun H1 locs1 hP hD hS => kk la H1 locs1 hl (Hh.setI (ws_wrI ?_) hP hD hS))
        rw [cE_11 hC.1.2, (bo_fit hC.2).2.2]
    · cases h
  · cases h
set_option maxHeartbeats 1000000 in
theorem sd_aaload {l : Launch} {X : Option (Nat × (Nat → Int32))} {cl : Nat → List Value → Sg → Rs} {kn : Kn} {mm : MT} {pc n a b : Nat} {v : Int32} {ls : Lc} {st : List Value} {σ : Sg} {r : Option Value} {σ' : Sg} (hk : ∀ (pc : Nat) (ls : Lc) (st : List Value) (τ : Sg) (r : Option Value) (σ' : Sg), kn pc ls st τ = some (r, σ') → Snd l X mm pc ls st τ r σ') (hdec : decode mm.2.1 pc = .ok (.aaload, n)) (hok : okE mm (pc, .aaload, n, v, a, b) = true) (h : stp X cl kn mm (pc, .aaload, n, v, a, b) ls st σ = some (r, σ')) : Snd l X mm pc ls st σ r σ' := by
  obtain rfl : n = 1 := by simpa only [okE, decide_eq_true_eq] using hok
  simp only [stp] at h
  split at h
  · rename_i i rr st'
    split at h
    · rename_i hC
      split at h
      · cases h
      · rename_i hb
        split at h
        · rename_i q hq
          refine (hk _ _ _ _ _ _ h).step rfl rfl id rfl ?_
          intro p e R s m args below meth c H0 H locs cells slots Q A D cy ad bb la C Hh hl hln hcs kk
          rcases hC with hC | hC
          · refine va_aldq C.1 C.2.1 Hh.2.2.1.1 Hh.1 rr 2 (ws_12 hC) rfl hb hdec ?_
            rw [hq]
            exact kk la H locs hl Hh
          · refine va_aldq C.1 C.2.1 Hh.2.2.1.1 Hh.1 rr 3 (ws_13 hC) rfl hb hdec ?_
            rw [hq]
            exact kk la H locs hl Hh
        · cases h
    · cases h
  · cases h
set_option maxHeartbeats 1000000 in
theorem sd_aastore {l : Launch} {X : Option (Nat × (Nat → Int32))} {cl : Nat → List Value → Sg → Rs} {kn : Kn} {mm : MT} {pc n a b : Nat} {v : Int32} {ls : Lc} {st : List Value} {σ : Sg} {r : Option Value} {σ' : Sg} (hk : ∀ (pc : Nat) (ls : Lc) (st : List Value) (τ : Sg) (r : Option Value) (σ' : Sg), kn pc ls st τ = some (r, σ') → Snd l X mm pc ls st τ r σ') (hdec : decode mm.2.1 pc = .ok (.aastore, n)) (hok : okE mm (pc, .aastore, n, v, a, b) = true) (h : stp X cl kn mm (pc, .aastore, n, v, a, b) ls st σ = some (r, σ')) : Snd l X mm pc ls st σ r σ' := by
  obtain rfl : n = 1 := by simpa only [okE, decide_eq_true_eq] using hok
  simp only [stp] at h
  split at h
  · rename_i q i rr st'
    split at h
    · rename_i hC
      split at h
      · cases h
      · rename_i hb
        refine (hk _ _ _ _ _ _ h).step rfl rfl (wf_wrR (hC.elim (fun z => z.2.1) (fun z => z.2.1))) rfl ?_
        intro p e R s m args below meth c H0 H locs cells slots Q A D cy ad bb la C Hh hl hln hcs kk
        rcases hC with hC | hC
        · refine va_astq C.1 C.2.1 Hh.2.2.1.1 Hh.1 Hh.2.1 Hh.2.2.2.1 rr 2 q 6 (r := (RX6, TX6, 5)) (ws_12 hC.1) rfl (ws_obj hC.2 (by decide)) rfl hb hdec (fun H1 locs1 hP hD hS => kk la H1 locs1 hl (Hh.setI (ws_wrR ?_) hP hD hS))
          rw [upM]
          exact (cE_12 (g := ((σ.2.2.1 rr).1, (σ.2.2.1 rr).2.1, va_up (σ.2.2.1 rr).2.2 i.toNatClampNeg (some q))) hC.1.2).symm
        · refine va_astq C.1 C.2.1 Hh.2.2.1.1 Hh.1 Hh.2.1 Hh.2.2.2.1 rr 3 q 2 (r := (RX2, TX2, 13)) (ws_13 hC.1) rfl (ws_obj hC.2 (by decide)) rfl hb hdec (fun H1 locs1 hP hD hS => kk la H1 locs1 hl (Hh.setI (ws_wrR ?_) hP hD hS))
          rw [upM]
          exact (cE_13 (g := ((σ.2.2.1 rr).1, (σ.2.2.1 rr).2.1, va_up (σ.2.2.1 rr).2.2 i.toNatClampNeg (some q))) hC.1.2).symm
    · cases h
  · cases h
set_option maxHeartbeats 1000000 in
theorem sd_alen {l : Launch} {X : Option (Nat × (Nat → Int32))} {cl : Nat → List Value → Sg → Rs} {kn : Kn} {mm : MT} {pc n a b : Nat} {v : Int32} {ls : Lc} {st : List Value} {σ : Sg} {r : Option Value} {σ' : Sg} (hk : ∀ (pc : Nat) (ls : Lc) (st : List Value) (τ : Sg) (r : Option Value) (σ' : Sg), kn pc ls st τ = some (r, σ') → Snd l X mm pc ls st τ r σ') (hdec : decode mm.2.1 pc = .ok (.arraylength, n)) (hok : okE mm (pc, .arraylength, n, v, a, b) = true) (h : stp X cl kn mm (pc, .arraylength, n, v, a, b) ls st σ = some (r, σ')) : Snd l X mm pc ls st σ r σ' := by
  obtain rfl : n = 1 := by simpa only [okE, decide_eq_true_eq] using hok
  simp only [stp] at h
  split at h
  · rename_i rr st'
    split at h
    · rename_i hC
      refine (hk _ _ _ _ _ _ h).step rfl rfl id rfl ?_
      intro p e R s m args below meth c H0 H locs cells slots Q A D cy ad bb la C Hh hl hln hcs kk
      exact va_alen C.1 C.2.1 Hh.2.2.1.1 Hh.1 rr 0 (ws_10 hC) rfl rfl hdec (kk la H locs hl Hh)
    · cases h
  · rename_i zz st'
    split at h
    · rename_i L xs
      refine (hk _ _ _ _ _ _ h).step rfl rfl id rfl ?_
      intro p e R s m args below meth c H0 H locs cells slots Q A D cy ad bb la C Hh hl hln hcs kk
      obtain ⟨x1, x2, x3⟩ := Hh.2.2.2.2.2 L xs rfl
      exact va_slen C.1 C.2.1 x1 x2 x3 Hh.2.2.2.1 hdec (kk la H locs hl Hh)
    · cases h
  · cases h
set_option maxHeartbeats 1000000 in
theorem sd_tabsw {l : Launch} {X : Option (Nat × (Nat → Int32))} {cl : Nat → List Value → Sg → Rs} {kn : Kn} {mm : MT} {pc n a b : Nat} {v : Int32} {ls : Lc} {st : List Value} {σ : Sg} {r : Option Value} {σ' : Sg} (hk : ∀ (pc : Nat) (ls : Lc) (st : List Value) (τ : Sg) (r : Option Value) (σ' : Sg), kn pc ls st τ = some (r, σ') → Snd l X mm pc ls st τ r σ') {d lo hi : Int} {offs : Array Int} (hdec : decode mm.2.1 pc = .ok (.tableswitch d lo hi offs, n)) (hok : okE mm (pc, .tableswitch d lo hi offs, n, v, a, b) = true) (h : stp X cl kn mm (pc, .tableswitch d lo hi offs, n, v, a, b) ls st σ = some (r, σ')) : Snd l X mm pc ls st σ r σ' := by
  simp only [okE, Bool.and_eq_true, decide_eq_true_eq] at hok
  simp only [stp] at h
  split at h
  · rename_i x st'
    split at h
    · rename_i hx
      refine (hk _ _ _ _ _ _ h).step rfl rfl id rfl ?_
      intro p e R s m args below meth c H0 H locs cells slots Q A D cy ad bb la C Hh hl hln hcs kk
      exact lv_tableOut C.1 C.2.1 hdec hx (by rw [Int.toNat_of_nonneg hok.1]) (kk la H locs hl Hh)
    · rename_i hx
      split at h
      · rename_i off ho
        have h0 : 0 ≤ (pc : Int) + off := by
          have hm : off ∈ offs.toList := by
            rw [← Array.getElem?_toList] at ho
            exact List.mem_of_getElem? ho
          simpa using List.all_eq_true.mp hok.2 off hm
        refine (hk _ _ _ _ _ _ h).step rfl rfl id rfl ?_
        intro p e R s m args below meth c H0 H locs cells slots Q A D cy ad bb la C Hh hl hln hcs kk
        exact lv_tableIn C.1 C.2.1 hdec (fun z => hx (Or.inl z)) (fun z => hx (Or.inr z)) ho (by rw [Int.toNat_of_nonneg h0]) (kk la H locs hl Hh)
      · cases h
  · cases h
theorem osw_mem : ∀ (ps : List (Int × Int)) (d x : Int), Op.lookupswitch.offset ps d x = d ∨ ∃ q ∈ ps, Op.lookupswitch.offset ps d x = q.2
  | [], d, x => Or.inl rfl
  | (k, q) :: ps, d, x => by
    unfold Op.lookupswitch.offset
    split
    · exact Or.inr ⟨_, List.mem_cons_self, rfl⟩
    · rcases osw_mem ps d x with h | ⟨q, h1, h2⟩
      · exact Or.inl h
      · exact Or.inr ⟨q, List.mem_cons_of_mem _ h1, h2⟩
set_option maxHeartbeats 1000000 in
theorem sd_looksw {l : Launch} {X : Option (Nat × (Nat → Int32))} {cl : Nat → List Value → Sg → Rs} {kn : Kn} {mm : MT} {pc n a b : Nat} {v : Int32} {ls : Lc} {st : List Value} {σ : Sg} {r : Option Value} {σ' : Sg} (hk : ∀ (pc : Nat) (ls : Lc) (st : List Value) (τ : Sg) (r : Option Value) (σ' : Sg), kn pc ls st τ = some (r, σ') → Snd l X mm pc ls st τ r σ') {d : Int} {ps : Array (Int × Int)} (hdec : decode mm.2.1 pc = .ok (.lookupswitch d ps, n)) (hok : okE mm (pc, .lookupswitch d ps, n, v, a, b) = true) (h : stp X cl kn mm (pc, .lookupswitch d ps, n, v, a, b) ls st σ = some (r, σ')) : Snd l X mm pc ls st σ r σ' := by
  simp only [okE, Bool.and_eq_true, decide_eq_true_eq] at hok
  simp only [stp] at h
  split at h
  · rename_i x st'
    have h0 : 0 ≤ (pc : Int) + Op.lookupswitch.offset ps.toList d x.toInt := by
      rcases osw_mem ps.toList d x.toInt with e | ⟨q, h1, h2⟩
      · rw [e]; exact hok.1.1
      · rw [h2]; simpa using List.all_eq_true.mp hok.1.2 q h1
    refine (hk _ _ _ _ _ _ h).step rfl rfl id rfl ?_
    intro p e R s m args below meth c H0 H locs cells slots Q A D cy ad bb la C Hh hl hln hcs kk
    exact lv_lookup C.1 C.2.1 hdec hok.2 rfl (by rw [Int.toNat_of_nonneg h0]) (kk la H locs hl Hh)
  · cases h
end
section
/-! calls -/
def mW (g : MT) : List Cond := Cond.code g.1 g.2.1 g.2.2.1 g.2.2.2.1 :: WS
def rmO (g : MT) (mc ms : Nat) : Room := { frames := g.2.2.2.2.2.2.1, cells := mc, slots := ms, locals := g.2.2.2.2.2.2.2.1 }
def PcO (D : va_G) (cy : Nat → ClassId) (ad : Nat → Nat) (sz : Nat) (σ : Sg) (as : List Value) : Array Value → State → Prop := va_Pc (as.map (vz ad 0)) (fun U => U.heap.size = sz ∧ va_P D vwCl (wsO cy ad σ) U.heap ∧ KO D cy U ∧ va_D (fun _ => True) (wsO cy ad σ))
def QcO (D : va_G) (cy : Nat → ClassId) (ad : Nat → Nat) (sz : Nat) (σ : Sg) (rv : Option Value) (τ : Sg) : Array Value → State → Outcome → State → Prop := fun _ st oc t => (∃ ad' : Nat → Nat, oc = .returned (rv.map (vz ad' 0)) ∧ (∀ k, k < σ.1 → ad' k = ad k) ∧ va_P D vwCl (wsO cy ad' τ) t.heap ∧ va_D (va_A (wsO cy ad σ) sz) (wsO cy ad' τ)) ∧ va_F (va_A (wsO cy ad σ) sz) st t
def CallOK (l : Launch) (cl : Nat → List Value → Sg → Rs) : Prop := ∀ (g : Nat) (mg : MT) (as : List Value) (σ : Sg) (rv : Option Value) (τ : Sg), mT g = some mg → g < 213 → as.length = mg.2.2.2.2.2.1 → as.all (oka σ.1) = true → cl g as σ = some (rv, τ) → wfG σ →
  (wfG τ ∧ σ.1 ≤ τ.1 ∧ σ.2.1 ≤ τ.2.1 ∧ (∃ pc', RetO mg pc' rv τ.1) ∧ ∀ (D : va_G) (cy : Nat → ClassId) (ad : Nat → Nat) (sz : Nat), Met l mg.1 (mW mg) (rmO mg (τ.1 - σ.1) (τ.2.1 - σ.2.1)) (PcO D cy ad sz σ as) (QcO D cy ad sz σ rv τ) (τ.1 - σ.1) (τ.2.1 - σ.2.1) (va_A (wsO cy ad σ) sz))
theorem PcO_blind (D : va_G) (cy : Nat → ClassId) (ad : Nat → Nat) (sz : Nat) (σ : Sg) (as : List Value) : FrameBlind (PcO D cy ad sz σ as) := by
  intro a U g mk q
  obtain ⟨q0, q1, qP, qK, qD⟩ := q
  exact ⟨q0, q1, qP, KO.blind (V := U.calling g mk a) rfl qK, qD⟩
theorem callO {p : Program} {l : Launch} {e : Env} {R : Room} {s : State} {m : MethodId} {args : Array Value} {below : List Frame} {meth : Method} {c : Code} {H0 H : Heap} {locs : List Loc} {cells slots mc ms pc : Nat} {Q : State → Prop} {la : Array Slot} {st0 rest : List Value} {A : Nat → Prop} {D : va_G} {cy : Nat → ClassId} {ad : Nat → Nat} {σ τ : Sg} {rv : Option Value} {a : Array Value} {free : Addr → Prop}
    (hr : va_Run p l e R s m args below meth c H locs cells slots mc ms (F0 m pc la st0) rest (QcO D cy ad H.size σ rv τ a) free) (hS : va_S A H0 H locs) (hA : ∀ q, va_A (wsO cy ad σ) H.size q → A q) (hf : ∀ q, free q → A q)
    (kk : ∀ (ad' : Nat → Nat) (H1 : Heap) (locs1 : List Loc), (∀ k, k < σ.1 → ad' k = ad k) → va_P D vwCl (wsO cy ad' τ) H1 → va_D A (wsO cy ad' τ) → va_S A H0 H1 locs1 → W p l e R s m args below meth c H1 locs1 (cells + mc) (slots + ms) Q (F0 m (pc + 3) la ((rv.map (vz ad' 0)).toList ++ rest))) : W p l e R s m args below meth c H locs cells slots Q (F0 m pc la st0) := by
  intro T hT X
  obtain ⟨v, st₀, t, T', L, h0, X', hL, e1, e2, ⟨⟨ad', hv, h1, hP, hD⟩, hz, hk⟩, st⟩ := hr T hT X
  cases hv
  rw [h0] at hz hk
  obtain ⟨t2, a1, b1⟩ := kk ad' T'.heap (locs ++ L) h1 (by rw [e1]; exact hP) (hD.weaken (fun k q _ hq => hA _ hq))
    ⟨Nat.le_trans hS.1 (by rw [e1]; exact hz), fun q h1 h2 => by rw [e1, hk q (Nat.lt_of_lt_of_le h1 hS.1) (fun z => h2 (hA q z))]; exact hS.2.1 q h1 h2, fun q hq => by
      rcases List.mem_append.mp hq with h | h
      · exact hS.2.2 q h
      · exact hf _ (hL q h)⟩ T' rfl X'
  exact ⟨t2, st t2 a1, b1⟩
theorem goodO (own : String) (g : MT) (pre : List Cond) (hp : ∀ w ∈ pre, w ∈ WS) (hc : Cond.code g.1 g.2.1 g.2.2.1 g.2.2.2.1 ∈ lw_tbl) : GoodIn WS (pre ++ mW g) := by
  intro w hw
  have hm : w ∈ WS := by
    rcases List.mem_append.mp hw with h | h
    · exact hp w h
    · rcases List.mem_cons.mp h with h | h
      · rw [h]; exact inWS hc rfl
      · exact h
  exact ⟨hm, good_of_word (List.mem_filter.mp hm).2⟩
theorem MX_spec {g : MT} (h : MX g = true) : g.1.cls = RC g.2.2.2.2.1 ∧ plainName g.1.cls = true ∧ g.1.cls ≠ "java/lang/invoke/MethodHandle" ∧ g.1.cls ≠ "java/lang/invoke/VarHandle" ∧ (parseMethodDescriptor g.1.desc).map (fun d => d.parameters.length) = some (if g.2.2.2.2.2.2.2.2 = 0 then g.2.2.2.2.2.1 else g.2.2.2.2.2.1 - 1) := by
  simp only [MX, Bool.and_eq_true, decide_eq_true_eq] at h
  exact ⟨h.1.1.1.1, h.1.1.1.2, h.1.1.2, h.1.2, h.2⟩
theorem Hld.A {D : va_G} {cy : Nat → ClassId} {ad : Nat → Nat} {A : Nat → Prop} {H0 H : Heap} {locs : List Loc} {σ : Sg} {s : State} {X : Option (Nat × (Nat → Int32))} {b : Nat} (h : Hld D cy ad A H0 H locs σ s X b) : ∀ q, va_A (wsO cy ad σ) H.size q → A q := by
  rintro q (⟨k, e, hk⟩ | hq)
  · exact h.2.1.2 k _ hk
  · exact h.2.2.2.2.1 q (Nat.le_trans h.2.2.2.1.1 hq)
theorem args_vz {ad : Nat → Nat} {b N : Nat} : ∀ {as : List Value}, as.all (oka N) = true → as.map (vz ad b) = as.map (vz ad 0)
  | [], _ => rfl
  | v :: st, h => by
    simp only [List.all_cons, Bool.and_eq_true] at h
    simp only [List.map_cons, vz_oka (b := b) (b' := 0) h.1, args_vz h.2]
theorem ret_vz {mm : MT} {pc N : Nat} {r : Option Value} (h : RetO mm pc r N) (ad : Nat → Nat) (b : Nat) : (r.map (vz ad 0)).toList = r.toList.map (vz ad b) := by
  match r, h with
  | none, _ => rfl
  | some (.int x), _ => rfl
  | some (.ref q), _ => rfl
/-- what a call does, put before what follows it -/
theorem Snd.call {l : Launch} {X : Option (Nat × (Nat → Int32))} {mm mg : MT} {pc : Nat} {ls : Lc} {st rest : List Value} {σ τ : Sg} {rv r : Option Value} {σ' : Sg} (hS : Snd l X mm (pc + 3) ls (rv.toList ++ rest) τ r σ')
    (hC : wfG σ → (wfG τ ∧ σ.1 ≤ τ.1 ∧ σ.2.1 ≤ τ.2.1 ∧ (∃ pc', RetO mg pc' rv τ.1))) (hok : okl σ.1 ls = true) (hrest : rest.all (okv σ.1) = true)
    (hW : wfG σ → ∀ (p : Program) (e : Env) (R : Room) (s : State) (m : MethodId) (args : Array Value) (below : List Frame) (meth : Method) (c : Code) (H0 H : Heap) (locs : List Loc) (cells slots : Nat) (A : Nat → Prop) (D : va_G) (cy : Nat → ClassId) (ad : Nat → Nat) (b : Nat) (la : Array Slot),
      Ctx p R s m args meth c mm → Hld D cy ad A H0 H locs σ s X b → LV ad b la ls → ls.length = mm.2.2.1 → cells + (τ.1 - σ.1) ≤ R.cells → slots + (τ.2.1 - σ.2.1) ≤ R.slots →
      ∃ (a : Array Value) (free : Addr → Prop), (∀ q, free q → A q) ∧ va_Run p l e R s m args below meth c H locs cells slots (τ.1 - σ.1) (τ.2.1 - σ.2.1) (F0 m pc la (st.map (vz ad b))) (rest.map (vz ad b)) (QcO D cy ad H.size σ rv τ a) free) : Snd l X mm pc ls st σ r σ' := by
  intro hw
  obtain ⟨c1, c2, c3, pr, hret⟩ := hC hw
  obtain ⟨a1, a2, a3, a4, k⟩ := hS c1
  refine ⟨a1, Nat.le_trans c2 a2, Nat.le_trans c3 a3, a4, ?_⟩
  intro p e R s m args below meth c H0 H locs cells slots Q A D cy ad b la C Hh hl hln hc hs hQ
  obtain ⟨a, free, hf, hrun⟩ := hW hw p e R s m args below meth c H0 H locs cells slots A D cy ad b la C Hh hl hln (by omega) (by omega)
  refine callO hrun Hh.2.2.2.1 Hh.A hf (fun ad' H1 locs1 h1 hP hD hS1 => ?_)
  rw [ret_vz hret ad' b, ← vz_all h1 hrest, ← List.map_append]
  refine k p e R s m args below meth c H0 H1 locs1 _ _ Q A D cy ad' b la C ⟨hP, hD, Hh.2.2.1, hS1, Hh.2.2.2.2⟩ (hl.moved hok h1) hln (by omega) (by omega) ?_
  intro ad2 H2 locs2 pc2 la2 h2 Hh2 hR2
  have := hQ ad2 H2 locs2 pc2 la2 (fun k hk => (h2 k (Nat.lt_of_lt_of_le hk c2)).trans (h1 k hk)) Hh2 hR2
  rw [show cells + (τ.1 - σ.1) + (σ'.1 - τ.1) = cells + (σ'.1 - σ.1) by omega, show slots + (τ.2.1 - σ.2.1) + (σ'.2.1 - τ.2.1) = slots + (σ'.2.1 - σ.2.1) by omega]
  exact this
theorem mtAll (P : MT → Bool) (h : (mT0 ++ (mT1 ++ (mT2 ++ (mT3 ++ (mT4 ++ (mT5 ++ (mT6 ++ mT7))))))).all P = true) {f : Nat} {mm : MT} (hf : mT f = some mm) : P mm = true := by
  have hm : mm ∈ mT0 ++ (mT1 ++ (mT2 ++ (mT3 ++ (mT4 ++ (mT5 ++ (mT6 ++ mT7)))))) := by
    unfold mT at hf
    simp only [List.mem_append]
    split at hf
    · exact Or.inl (List.mem_of_getElem? hf)
    · exact Or.inr (Or.inl (List.mem_of_getElem? hf))
    · exact Or.inr (Or.inr (Or.inl (List.mem_of_getElem? hf)))
    · exact Or.inr (Or.inr (Or.inr (Or.inl (List.mem_of_getElem? hf))))
    · exact Or.inr (Or.inr (Or.inr (Or.inr (Or.inl (List.mem_of_getElem? hf)))))
    · exact Or.inr (Or.inr (Or.inr (Or.inr (Or.inr (Or.inl (List.mem_of_getElem? hf))))))
    · exact Or.inr (Or.inr (Or.inr (Or.inr (Or.inr (Or.inr (Or.inl (List.mem_of_getElem? hf)))))))
    · exact Or.inr (Or.inr (Or.inr (Or.inr (Or.inr (Or.inr (Or.inr (List.mem_of_getElem? hf)))))))
    · cases hf
  exact List.all_eq_true.mp h mm hm
theorem hnaP {f : Nat} {mm : MT} (hf : mT f = some mm) (_ : f < 213) (hk : 0 < mm.2.2.2.2.2.2.2.2) : 0 < mm.2.2.2.2.2.1 := by
  have := mtAll (fun q => decide (0 < q.2.2.2.2.2.2.2.2 → 0 < q.2.2.2.2.2.1)) (by decide +kernel) hf
  exact of_decide_eq_true this hk
theorem hclP {f : Nat} {mm : MT} (hf : mT f = some mm) (_ : f < 213) (hk : 0 < mm.2.2.2.2.2.2.2.2) : mm.2.2.2.2.1 < 10 := by
  have := mtAll (fun q => decide (0 < q.2.2.2.2.2.2.2.2 → q.2.2.2.2.1 < 10)) (by decide +kernel) hf
  exact of_decide_eq_true this hk
theorem hmlP {f : Nat} {mm : MT} (hf : mT f = some mm) : mm.2.2.2.2.2.1 ≤ mm.2.2.1 := by
  have := mtAll (fun q => decide (q.2.2.2.2.2.1 ≤ q.2.2.1)) (by decide +kernel) hf
  exact of_decide_eq_true this
set_option maxHeartbeats 1000000 in
theorem sd_virt {l : Launch} {X : Option (Nat × (Nat → Int32))} {cl : Nat → List Value → Sg → Rs} {kn : Kn} {mm : MT} {pc n a b : Nat} {v : Int32} {ls : Lc} {st : List Value} {σ : Sg} {r : Option Value} {σ' : Sg} (hk : ∀ (pc : Nat) (ls : Lc) (st : List Value) (τ : Sg) (r : Option Value) (σ' : Sg), kn pc ls st τ = some (r, σ') → Snd l X mm pc ls st τ r σ') {x : Nat} (hcl : CallOK l cl) (hg : a < 213) (hdec : decode mm.2.1 pc = .ok (.invokevirtual x, n)) (hok : okE mm (pc, .invokevirtual x, n, v, a, b) = true) (h : stp X cl kn mm (pc, .invokevirtual x, n, v, a, b) ls st σ = some (r, σ')) : Snd l X mm pc ls st σ r σ' := by
  simp only [okE, Bool.and_eq_true, decide_eq_true_eq] at hok
  obtain ⟨⟨rfl, hmt⟩, hG⟩ := hok
  simp only [stp] at h
  split at h
  · rename_i g hmg
    rw [hmg] at hG
    simp only [okG, Bool.and_eq_true, decide_eq_true_eq] at hG
    obtain ⟨hMW, hMX⟩ := mwAll hmg hg
    obtain ⟨x1, x2, x3, x4, x5⟩ := MX_spec hMX
    split at h
    · rename_i rr rest hst
      split at h
      · rename_i hc
        obtain ⟨hc1, hc2, hc3, hc4, hc5⟩ := hc
        split at h
        · rename_i rv τ hcall
          have hlen : g.2.2.2.2.2.1 - 1 < st.length := by
            have := congrArg List.length hst
            simp at this
            omega
          have hna : g.2.2.2.2.2.1 = 0 ∨ 0 < g.2.2.2.2.2.1 := by omega
          have hpos : 0 < g.2.2.2.2.2.1 := hnaP hmg hg (by omega)
          have htk : (st.take (g.2.2.2.2.2.1 - 1)).length = g.2.2.2.2.2.1 - 1 := by rw [List.length_take]; omega
          have hall : (Value.ref rr :: (st.take (g.2.2.2.2.2.1 - 1)).reverse).all (oka σ.1) = true := by
            simp only [List.all_cons, List.all_reverse, hc3, Bool.and_true]
            exact decide_eq_true hc2.1
          have hCO := hcl a g _ σ rv τ hmg hg (by simp [htk]; omega) hall hcall
          refine Snd.call (rest := rest) (mg := g) (hk _ _ _ _ _ _ h) (fun hw => ⟨(hCO hw).1, (hCO hw).2.1, (hCO hw).2.2.1, (hCO hw).2.2.2.1⟩) hc4 hc5 ?_
          intro hw p e R s m args below meth c H0 H locs cells slots A D cy ad bb la C Hh hl hln hcc hss
          have hM := (hCO hw).2.2.2.2 D cy ad H.size
          refine ⟨(Value.ref (ad rr) :: (st.take (g.2.2.2.2.2.1 - 1)).reverse.map (vz ad 0)).toArray, va_A (wsO cy ad σ) H.size, Hh.A, ?_⟩
          have hcls : g.2.2.2.2.1 < 10 := hclP hmg hg (by omega)
          exact va_runV (As := (st.take (g.2.2.2.2.2.1 - 1)).reverse.map (vz ad 0)) (b := ad rr) ⟨C.1, C.2.1, C.2.2.2.1, C.2.2.2.2.1, C.2.2.2.2.2.1⟩ hM
            (cwV (C := RC g.2.2.2.2.1) (g.2.2.2.2.2.1 - 1) C.2.2.2.2.2.1 (goodO "" g _ (by
              intro w hw
              simp only [List.mem_cons, List.not_mem_nil, or_false] at hw
              have hy : mtY a = g.1 := by unfold mtY; rw [hmg]; rfl
              rcases hw with rfl | rfl | rfl | rfl
              · have := mtT_ok _ hmt
                simp only [hy] at this
                exact inWS this rfl
              · exact inWS (hMW.2.2.2.1 (by omega)) rfl
              · rw [← x1]; exact inWS (hMW.2.2.2.2.1 hG.1.1) rfl
              · rw [← x1]; exact inWS hMW.2.1 rfl) hMW.1) rfl rfl rfl ⟨x1, x3, x4, by rw [x5, if_neg (by omega)]⟩ ⟨Nat.le_trans hG.1.2 C.2.2.2.2.2.2.1, Nat.le_trans hG.2 C.2.2.2.2.2.2.2.1⟩)
            ⟨PcO_blind _ _ _ _ _ _, va_recv Hh.2.2.1.1 Hh.1 (vwC _ hcls) (ws_obj hc2 hcls), fun U hU hW => ⟨rfl, by rw [hU], by rw [hU]; exact Hh.1, KO.warm hW Hh.2.2.1, Hh.2.1.weaken (fun _ _ _ _ => trivial)⟩⟩
            rfl (by rw [List.length_map, List.length_reverse, htk]) (hl.1.trans hln) (by
              show st.map (vz ad bb) = _
              rw [← args_vz (b := bb) (N := σ.1) (by rw [List.all_reverse]; exact hc3), List.map_reverse, List.reverse_reverse]
              rw [show Value.ref (ad rr) :: rest.map (vz ad bb) = (Value.ref rr :: rest).map (vz ad bb) from rfl, ← List.map_append, ← hst, List.take_append_drop]) (lv_room (by rw [cat_all hc5]; exact hc1)) hdec ⟨hcc, hss⟩
        · cases h
      · cases h
    · cases h
  · cases h
set_option maxHeartbeats 1000000 in
theorem sd_spec {l : Launch} {X : Option (Nat × (Nat → Int32))} {cl : Nat → List Value → Sg → Rs} {kn : Kn} {mm : MT} {pc n a b : Nat} {v : Int32} {ls : Lc} {st : List Value} {σ : Sg} {r : Option Value} {σ' : Sg} (hk : ∀ (pc : Nat) (ls : Lc) (st : List Value) (τ : Sg) (r : Option Value) (σ' : Sg), kn pc ls st τ = some (r, σ') → Snd l X mm pc ls st τ r σ') {x : Nat} (hcl : CallOK l cl) (hg : a ≠ 902 → a < 213) (hdec : decode mm.2.1 pc = .ok (.invokespecial x, n)) (hok : okE mm (pc, .invokespecial x, n, v, a, b) = true) (h : stp X cl kn mm (pc, .invokespecial x, n, v, a, b) ls st σ = some (r, σ')) : Snd l X mm pc ls st σ r σ' := by
  simp only [okE, Bool.and_eq_true, decide_eq_true_eq] at hok
  obtain ⟨rfl, hok⟩ := hok
  simp only [stp] at h
  split at h
  · rename_i ha
    rw [if_pos ha] at hok
    simp only [Bool.and_eq_true, decide_eq_true_eq] at hok
    obtain ⟨⟨hoi, hF⟩, hQ⟩ := hok
    split at h
    · rename_i rr rest
      split at h
      · rename_i hc
        have hr0 : rest = [] := List.eq_nil_of_length_eq_zero (by omega)
        subst hr0
        refine (hk _ _ _ _ _ _ h).step rfl rfl id rfl ?_
        intro p e R s m args below meth c H0 H locs cells slots Q A D cy ad bb la C Hh hl hln hcs kk
        exact W.objInit C.1 C.2.1 C.2.2.2.2.1 (C.2.2.2.2.2.1 _ (inWS (oiT_ok _ hoi) rfl)) (C.2.2.2.2.2.1 _ (inWS ww_oin rfl)) (C.2.2.2.2.2.1 _ (inWS ww_oco rfl)) rfl (by rw [C.2.2.2.1]; exact hl.1.trans hln) rfl hdec (Nat.le_trans hF C.2.2.2.2.2.2.1) (Nat.le_trans hQ C.2.2.2.2.2.2.2.1) (kk la H locs hl Hh)
      · cases h
    · cases h
  rename_i hna
  rw [if_neg hna] at hok
  have hg := hg hna
  simp only [Bool.and_eq_true, Bool.or_eq_true, decide_eq_true_eq] at hok
  obtain ⟨hmt, hG⟩ := hok
  split at h
  · rename_i g hmg
    rw [hmg] at hG
    simp only [okG, Bool.and_eq_true, decide_eq_true_eq] at hG
    obtain ⟨hMW, hMX⟩ := mwAll hmg hg
    obtain ⟨x1, x2, x3, x4, x5⟩ := MX_spec hMX
    split at h
    · rename_i rr rest hst
      split at h
      · rename_i hc
        obtain ⟨hc1, hc2, hc3, hc4, hc5⟩ := hc
        split at h
        · rename_i rv τ hcall
          have hlen : g.2.2.2.2.2.1 - 1 < st.length := by
            have := congrArg List.length hst
            simp at this
            omega
          have hna : g.2.2.2.2.2.1 = 0 ∨ 0 < g.2.2.2.2.2.1 := by omega
          have hpos : 0 < g.2.2.2.2.2.1 := hnaP hmg hg (by omega)
          have htk : (st.take (g.2.2.2.2.2.1 - 1)).length = g.2.2.2.2.2.1 - 1 := by rw [List.length_take]; omega
          have hall : (Value.ref rr :: (st.take (g.2.2.2.2.2.1 - 1)).reverse).all (oka σ.1) = true := by
            simp only [List.all_cons, List.all_reverse, hc3, Bool.and_true]
            exact decide_eq_true hc2.1
          have hCO := hcl a g _ σ rv τ hmg hg (by simp [htk]; omega) hall hcall
          refine Snd.call (rest := rest) (mg := g) (hk _ _ _ _ _ _ h) (fun hw => ⟨(hCO hw).1, (hCO hw).2.1, (hCO hw).2.2.1, (hCO hw).2.2.2.1⟩) hc4 hc5 ?_
          intro hw p e R s m args below meth c H0 H locs cells slots A D cy ad bb la C Hh hl hln hcc hss
          have hM := (hCO hw).2.2.2.2 D cy ad H.size
          refine ⟨(Value.ref (ad rr) :: (st.take (g.2.2.2.2.2.1 - 1)).reverse.map (vz ad 0)).toArray, va_A (wsO cy ad σ) H.size, Hh.A, ?_⟩
          have hy : mtY a = g.1 := by unfold mtY; rw [hmg]; rfl
          have hGI : GoodIn WS (mW g) := goodO "" g [] (fun w h => absurd h List.not_mem_nil) hMW.1
          have hini : (Cond.initialized g.1.cls).before args s = true := C.2.2.2.2.2.1 _ (inWS hMW.2.1 rfl)
          have hins : (Cond.instanceMethod g.1).before args s = true := C.2.2.2.2.2.1 _ (inWS (hMW.2.2.2.1 (by omega)) rfl)
          have hnm := hMW.2.2.2.2.2 hG.1.1
          have hd : g.1.cls ≠ "java/lang/invoke/MethodHandle" ∧ g.1.cls ≠ "java/lang/invoke/VarHandle" ∧ (parseMethodDescriptor g.1.desc).map (fun d => d.parameters.length) = some (g.2.2.2.2.2.1 - 1) := ⟨x3, x4, by rw [x5, if_neg (by omega)]⟩
          have hR : (rmO g (τ.1 - σ.1) (τ.2.1 - σ.2.1)).frames + 1 ≤ R.frames ∧ 8 + (g.2.2.1 + 11) + (rmO g (τ.1 - σ.1) (τ.2.1 - σ.2.1)).locals ≤ R.locals := ⟨Nat.le_trans hG.1.2 C.2.2.2.2.2.2.1, Nat.le_trans hG.2 C.2.2.2.2.2.2.2.1⟩
          have hpre : PreS s H (PcO D cy ad H.size σ (.ref rr :: (st.take (g.2.2.2.2.2.1 - 1)).reverse)) (Value.ref (ad rr) :: (st.take (g.2.2.2.2.2.1 - 1)).reverse.map (vz ad 0)) := ⟨PcO_blind _ _ _ _ _ _, fun U hU hW => ⟨rfl, by rw [hU], by rw [hU]; exact Hh.1, KO.warm hW Hh.2.2.1, Hh.2.1.weaken (fun _ _ _ _ => trivial)⟩⟩
          have hstk : (F0 m pc la (st.map (vz ad bb))).stack = ((st.take (g.2.2.2.2.2.1 - 1)).reverse.map (vz ad 0)).reverse ++ .ref (ad rr) :: rest.map (vz ad bb) := by
            show st.map (vz ad bb) = _
            rw [← args_vz (b := bb) (N := σ.1) (by rw [List.all_reverse]; exact hc3), List.map_reverse, List.reverse_reverse]
            rw [show Value.ref (ad rr) :: rest.map (vz ad bb) = (Value.ref rr :: rest).map (vz ad bb) from rfl, ← List.map_append, ← hst, List.take_append_drop]
          have hwn : mW g = Cond.code g.1 g.2.1 g.2.2.1 none :: WS := by unfold mW; rw [hnm.2]
          rcases hmt with hmt | hmt
          · have hlk := mtT_ok _ hmt
            simp only [hy] at hlk
            exact va_runI (As := (st.take (g.2.2.2.2.2.1 - 1)).reverse.map (vz ad 0)) (b := ad rr) ⟨C.1, C.2.1, C.2.2.2.1, C.2.2.2.2.1, C.2.2.2.2.2.1⟩ hM
              (cwI (g.2.2.2.2.2.1 - 1) C.2.2.2.2.2.1 hGI hwn rfl rfl hini (C.2.2.2.2.2.1 _ (inWS hlk rfl)) hins hnm.1 hd hR) hpre rfl (by rw [List.length_map, List.length_reverse, htk]) (hl.1.trans hln) hstk (lv_room (by rw [cat_all hc5]; exact hc1)) hdec ⟨hcc, hss⟩
          · have hlk := Hh.2.2.1.2.2.2 _ hmt
            simp only [hy] at hlk
            exact va_runIN (As := (st.take (g.2.2.2.2.2.1 - 1)).reverse.map (vz ad 0)) (b := ad rr) ⟨C.1, C.2.1, C.2.2.2.1, C.2.2.2.2.1, C.2.2.2.2.2.1⟩ hM
              ⟨va_cnB (g.2.2.2.2.2.1 - 1) C.2.2.2.2.2.1 hGI hwn rfl rfl hlk hini hd hR, hnm.1, hins⟩ hpre rfl (by rw [List.length_map, List.length_reverse, htk]) (hl.1.trans hln) hstk (lv_room (by rw [cat_all hc5]; exact hc1)) hdec ⟨hcc, hss⟩
        · cases h
      · cases h
    · cases h
  · cases h
set_option maxHeartbeats 1000000 in
theorem sd_stat {l : Launch} {X : Option (Nat × (Nat → Int32))} {cl : Nat → List Value → Sg → Rs} {kn : Kn} {mm : MT} {pc n a b : Nat} {v : Int32} {ls : Lc} {st : List Value} {σ : Sg} {r : Option Value} {σ' : Sg} (hk : ∀ (pc : Nat) (ls : Lc) (st : List Value) (τ : Sg) (r : Option Value) (σ' : Sg), kn pc ls st τ = some (r, σ') → Snd l X mm pc ls st τ r σ') {x : Nat} (hcl : CallOK l cl) (hg : a ≠ 900 → a ≠ 901 → a < 213) (hdec : decode mm.2.1 pc = .ok (.invokestatic x, n)) (hok : okE mm (pc, .invokestatic x, n, v, a, b) = true) (h : stp X cl kn mm (pc, .invokestatic x, n, v, a, b) ls st σ = some (r, σ')) : Snd l X mm pc ls st σ r σ' := by
  simp only [okE, Bool.and_eq_true, decide_eq_true_eq] at hok
  obtain ⟨rfl, hok⟩ := hok
  simp only [stp] at h
  split at h
  · rename_i ha
    rw [if_pos ha] at hok
    simp only [Bool.and_eq_true, decide_eq_true_eq] at hok
    obtain ⟨⟨hac, hF⟩, hQ⟩ := hok
    split at h
    · rename_i mz dp r1 sp r0 rest
      split at h
      · rename_i hc
        obtain ⟨c0, c1, c2, c3, c4, c5, c6, c7⟩ := hc
        have hr0 : rest = [] := List.eq_nil_of_length_eq_zero (by omega)
        subst hr0
        refine (hk _ _ _ _ _ _ h).step rfl rfl wf_cpI rfl ?_
        intro p e R s m args below meth c H0 H locs cells slots Q A D cy ad bb la C Hh hl hln hcs kk
        refine va_copyi C.1 C.2.1 (C.2.2.2.1.trans (hl.1.trans hln).symm) C.2.2.2.2.1 (C.2.2.2.2.2.1 _ (inWS (acT_ok _ hac) rfl)) (C.2.2.2.2.2.1 _ (inWS ww_nat rfl)) (C.2.2.2.2.2.1 _ (inWS ww_sta rfl)) (C.2.2.2.2.2.1 _ (inWS ww_sys rfl)) Hh.2.2.1.1 Hh.1 Hh.2.1 Hh.2.2.2.1 r0 r1 0 0 (ws_10 c0) (ws_10 c1) rfl rfl rfl c2 c3 c4 c5 c6 (fun i hi => rfl) (Nat.le_trans hF C.2.2.2.2.2.2.1) (Nat.le_trans hQ C.2.2.2.2.2.2.2.1) hdec (fun H1 locs1 hP hD hS => kk la H1 locs1 hl (Hh.setI (ws_cpI ?_) hP hD hS))
        rw [cE_10 c1.2]
      · cases h
    · cases h
  rename_i hna
  rw [if_neg hna] at hok
  split at h
  · rename_i ha
    rw [if_pos ha] at hok
    simp only [Bool.and_eq_true, decide_eq_true_eq] at hok
    obtain ⟨⟨hmn, hF⟩, hQ⟩ := hok
    split at h
    · rename_i y x' rest
      split at h
      · rename_i hc
        refine (hk _ _ _ _ _ _ h).step rfl rfl id rfl ?_
        intro p e R s m args below meth c H0 H locs cells slots Q A D cy ad bb la C Hh hl hln hcs kk
        refine va_mmin C.1 C.2.1 (C.2.2.2.1.trans (hl.1.trans hln).symm) C.2.2.2.2.1 (C.2.2.2.2.2.1 _ (inWS (mnT_ok _ hmn) rfl)) (C.2.2.2.2.2.1 _ (inWS ww_mst rfl)) (C.2.2.2.2.2.1 _ (inWS ww_mini rfl)) (C.2.2.2.2.2.1 _ (inWS ww_mco rfl)) (Nat.le_trans hF C.2.2.2.2.2.2.1) ?_ hcs.1 hcs.2 hdec (kk la H locs hl Hh)
        have hz : ((rest.map (vz ad bb)).map fun v => v.category).sum = rest.length := cat_all (N := σ.1) hc.2
        rw [hz]
        have := C.2.2.2.2.2.2.2.1
        omega
      · cases h
    · cases h
  rename_i hnb
  rw [if_neg hnb] at hok
  have hg := hg hna hnb
  simp only [Bool.and_eq_true, decide_eq_true_eq] at hok
  obtain ⟨hmt, hG⟩ := hok
  split at h
  · rename_i g hmg
    rw [hmg] at hG
    simp only [okG, Bool.and_eq_true, decide_eq_true_eq] at hG
    obtain ⟨hMW, hMX⟩ := mwAll hmg hg
    obtain ⟨x1, x2, x3, x4, x5⟩ := MX_spec hMX
    split at h
    · rename_i hc
      obtain ⟨hc0, hc1, hc3, hc4, hc5⟩ := hc
      split at h
      · rename_i rv τ hcall
        have htk : (st.take g.2.2.2.2.2.1).length = g.2.2.2.2.2.1 := by rw [List.length_take]; omega
        have hall : ((st.take g.2.2.2.2.2.1).reverse).all (oka σ.1) = true := by rw [List.all_reverse]; exact hc3
        have hCO := hcl a g _ σ rv τ hmg hg (by rw [List.length_reverse, htk]) hall hcall
        refine Snd.call (rest := st.drop g.2.2.2.2.2.1) (mg := g) (hk _ _ _ _ _ _ h) (fun hw => ⟨(hCO hw).1, (hCO hw).2.1, (hCO hw).2.2.1, (hCO hw).2.2.2.1⟩) hc4 hc5 ?_
        intro hw p e R s m args below meth c H0 H locs cells slots A D cy ad bb la C Hh hl hln hcc hss
        have hM := (hCO hw).2.2.2.2 D cy ad H.size
        have hy : mtY a = g.1 := by unfold mtY; rw [hmg]; rfl
        refine ⟨((st.take g.2.2.2.2.2.1).reverse.map (vz ad 0)).toArray, va_A (wsO cy ad σ) H.size, Hh.A, ?_⟩
        exact va_runS (As := (st.take g.2.2.2.2.2.1).reverse.map (vz ad 0)) ⟨C.1, C.2.1, C.2.2.2.1, C.2.2.2.2.1, C.2.2.2.2.2.1⟩ hM
          (va_cwS g.2.2.2.2.2.1 C.2.2.2.2.2.1 (goodO "" g _ (by
            intro w hw
            simp only [List.mem_cons, List.not_mem_nil, or_false] at hw
            rcases hw with rfl | rfl | rfl
            · have := mtT_ok _ hmt
              simp only [hy] at this
              exact inWS this rfl
            · exact inWS (hMW.2.2.1 hG.1.1) rfl
            · exact inWS hMW.2.1 rfl) hMW.1) rfl rfl rfl ⟨x3, x4, by rw [x5, if_pos hG.1.1]⟩ ⟨Nat.le_trans hG.1.2 C.2.2.2.2.2.2.1, Nat.le_trans hG.2 C.2.2.2.2.2.2.2.1⟩)
          ⟨PcO_blind _ _ _ _ _ _, fun U hU hW => ⟨rfl, by rw [hU], by rw [hU]; exact Hh.1, KO.warm hW Hh.2.2.1, Hh.2.1.weaken (fun _ _ _ _ => trivial)⟩⟩
          rfl (by rw [List.length_map, List.length_reverse, htk]) (hl.1.trans hln) (by
            show st.map (vz ad bb) = _
            rw [← args_vz (b := bb) (N := σ.1) hall, List.map_reverse, List.reverse_reverse, ← List.map_append, List.take_append_drop]) (lv_room (by rw [cat_all hc5]; exact hc1)) hdec ⟨hcc, hss⟩
      · cases h
    · cases h
  · cases h
end
section
set_option maxHeartbeats 1000000 in
theorem sd_ireturn {l : Launch} {X : Option (Nat × (Nat → Int32))} {cl : Nat → List Value → Sg → Rs} {kn : Kn} {mm : MT} {pc n a b : Nat} {v : Int32} {ls : Lc} {st : List Value} {σ : Sg} {r : Option Value} {σ' : Sg} (hk : ∀ (pc : Nat) (ls : Lc) (st : List Value) (τ : Sg) (r : Option Value) (σ' : Sg), kn pc ls st τ = some (r, σ') → Snd l X mm pc ls st τ r σ') (hdec : decode mm.2.1 pc = .ok (.ireturn, n)) (hok : okE mm (pc, .ireturn, n, v, a, b) = true) (h : stp X cl kn mm (pc, .ireturn, n, v, a, b) ls st σ = some (r, σ')) : Snd l X mm pc ls st σ r σ' := by
  obtain rfl : n = 1 := by simpa only [okE, decide_eq_true_eq] using hok
  simp only [stp] at h
  split at h
  · rename_i x
    split at h
    · rename_i hr
      cases h
      refine fun hw => ⟨hw, Nat.le_refl _, Nat.le_refl _, ⟨pc, ⟨Or.inl hr, hdec⟩⟩, ?_⟩
      intro p e R s m args below meth c H0 H locs cells slots Q A D cy ad bb la C Hh hl hln hcc hss hQ
      have := hQ ad H locs pc la (fun _ _ => rfl) Hh (⟨Or.inl hr, hdec⟩)
      rw [Nat.sub_self, Nat.sub_self] at this
      exact this
    · rename_i hr
      split at h
      · rename_i hx
        cases h
        refine fun hw => ⟨hw, Nat.le_refl _, Nat.le_refl _, ⟨pc, ⟨Or.inr ⟨hr, hx⟩, hdec⟩⟩, ?_⟩
        intro p e R s m args below meth c H0 H locs cells slots Q A D cy ad bb la C Hh hl hln hcc hss hQ
        have := hQ ad H locs pc la (fun _ _ => rfl) Hh (⟨Or.inr ⟨hr, hx⟩, hdec⟩)
        rw [Nat.sub_self, Nat.sub_self] at this
        exact this
      · cases h
    · cases h
  · cases h
set_option maxHeartbeats 1000000 in
theorem sd_areturn {l : Launch} {X : Option (Nat × (Nat → Int32))} {cl : Nat → List Value → Sg → Rs} {kn : Kn} {mm : MT} {pc n a b : Nat} {v : Int32} {ls : Lc} {st : List Value} {σ : Sg} {r : Option Value} {σ' : Sg} (hk : ∀ (pc : Nat) (ls : Lc) (st : List Value) (τ : Sg) (r : Option Value) (σ' : Sg), kn pc ls st τ = some (r, σ') → Snd l X mm pc ls st τ r σ') (hdec : decode mm.2.1 pc = .ok (.areturn, n)) (hok : okE mm (pc, .areturn, n, v, a, b) = true) (h : stp X cl kn mm (pc, .areturn, n, v, a, b) ls st σ = some (r, σ')) : Snd l X mm pc ls st σ r σ' := by
  obtain rfl : n = 1 := by simpa only [okE, decide_eq_true_eq] using hok
  simp only [stp] at h
  split at h
  · rename_i x
    split at h
    · rename_i nm hr
      split at h
      · rename_i hx
        cases h
        refine fun hw => ⟨hw, Nat.le_refl _, Nat.le_refl _, ⟨pc, ⟨⟨nm, hr⟩, hdec, hx⟩⟩, ?_⟩
        intro p e R s m args below meth c H0 H locs cells slots Q A D cy ad bb la C Hh hl hln hcc hss hQ
        have := hQ ad H locs pc la (fun _ _ => rfl) Hh (⟨⟨nm, hr⟩, hdec, hx⟩)
        rw [Nat.sub_self, Nat.sub_self] at this
        exact this
      · cases h
    · cases h
  · cases h
set_option maxHeartbeats 1000000 in
theorem sd_return {l : Launch} {X : Option (Nat × (Nat → Int32))} {cl : Nat → List Value → Sg → Rs} {kn : Kn} {mm : MT} {pc n a b : Nat} {v : Int32} {ls : Lc} {st : List Value} {σ : Sg} {r : Option Value} {σ' : Sg} (hk : ∀ (pc : Nat) (ls : Lc) (st : List Value) (τ : Sg) (r : Option Value) (σ' : Sg), kn pc ls st τ = some (r, σ') → Snd l X mm pc ls st τ r σ') (hdec : decode mm.2.1 pc = .ok (.return_, n)) (hok : okE mm (pc, .return_, n, v, a, b) = true) (h : stp X cl kn mm (pc, .return_, n, v, a, b) ls st σ = some (r, σ')) : Snd l X mm pc ls st σ r σ' := by
  obtain rfl : n = 1 := by simpa only [okE, decide_eq_true_eq] using hok
  simp only [stp] at h
  split at h
  · split at h
    · rename_i hr
      cases h
      refine fun hw => ⟨hw, Nat.le_refl _, Nat.le_refl _, ⟨pc, ⟨hr, hdec⟩⟩, ?_⟩
      intro p e R s m args below meth c H0 H locs cells slots Q A D cy ad bb la C Hh hl hln hcc hss hQ
      have := hQ ad H locs pc la (fun _ _ => rfl) Hh (⟨hr, hdec⟩)
      rw [Nat.sub_self, Nat.sub_self] at this
      exact this
    · cases h
  · cases h
/-- a new cell, put before what follows it -/
theorem Snd.fresh {l : Launch} {X : Option (Nat × (Nat → Int32))} {mm : MT} {pc pc' kd len sl : Nat} {ls : Lc} {st st' : List Value} {σ : Sg} {r : Option Value} {σ' : Sg} (hS : Snd l X mm pc' ls (.ref σ.1 :: st') (nwC σ kd len sl) r σ') (hok : okl σ.1 ls = true) (hst : st'.all (okv σ.1) = true)
    (hW : ∀ (p : Program) (e : Env) (R : Room) (s : State) (m : MethodId) (args : Array Value) (below : List Frame) (meth : Method) (c : Code) (H0 H : Heap) (locs : List Loc) (cells slots : Nat) (Q : State → Prop) (A : Nat → Prop) (D : va_G) (cy : Nat → ClassId) (ad : Nat → Nat) (b : Nat) (la : Array Slot),
      Ctx p R s m args meth c mm → Hld D cy ad A H0 H locs σ s X b → cells + 1 ≤ R.cells → slots + sl ≤ R.slots →
      (∀ (q : Nat) (H' : Heap), va_P D vwCl (wsO cy ad σ ++ [(q, cE cy (va_up ad σ.1 q) (kd, len, fun _ => none) (fun _ => 0))]) H' → va_D A (wsO cy ad σ ++ [(q, cE cy (va_up ad σ.1 q) (kd, len, fun _ => none) (fun _ => 0))]) → va_S A H0 H' locs → W p l e R s m args below meth c H' locs (cells + 1) (slots + sl) Q (F0 m pc' la (.ref q :: st'.map (vz ad b)))) →
      W p l e R s m args below meth c H locs cells slots Q (F0 m pc la (st.map (vz ad b)))) : Snd l X mm pc ls st σ r σ' := by
  intro hw
  obtain ⟨a1, a2, a3, a4, k⟩ := hS (wf_nw hw)
  have a2 : σ.1 + 1 ≤ σ'.1 := a2
  have a3 : σ.2.1 + sl ≤ σ'.2.1 := a3
  refine ⟨a1, by omega, by omega, a4, ?_⟩
  intro p e R s m args below meth c H0 H locs cells slots Q A D cy ad b la C Hh hl hln hc hs hQ
  refine hW p e R s m args below meth c H0 H locs cells slots Q A D cy ad b la C Hh (by omega) (by omega) ?_
  intro q H' hP hD hS
  have hne : ∀ z, z < σ.1 → va_up ad σ.1 q z = ad z := fun z hz => va_up_ne _ _ (Nat.ne_of_lt hz)
  rw [← wsO_push (sl := sl) hw] at hP hD
  have K := k p e R s m args below meth c H0 H' locs (cells + 1) (slots + sl) Q A D cy (va_up ad σ.1 q) b la C ⟨hP, hD, Hh.2.2.1, hS, Hh.2.2.2.2⟩ (hl.moved hok hne) hln (by show cells + 1 + (σ'.1 - (σ.1 + 1)) ≤ _; omega) (by show slots + sl + (σ'.2.1 - (σ.2.1 + sl)) ≤ _; omega) ?_
  · have e1 : (Value.ref σ.1 :: st').map (vz (va_up ad σ.1 q) b) = .ref q :: st'.map (vz ad b) := by
      rw [List.map_cons, vz_all hne hst]
      show Value.ref (va_up ad σ.1 q σ.1) :: _ = _
      rw [va_up_self]
    rw [e1] at K
    exact K
  · intro ad2 H2 locs2 pc2 la2 h2 Hh2 hR2
    have := hQ ad2 H2 locs2 pc2 la2 (fun z hz => (h2 z (Nat.lt_succ_of_lt hz)).trans (hne z hz)) Hh2 hR2
    have z1 : cells + 1 + (σ'.1 - (nwC σ kd len sl).1) = cells + (σ'.1 - σ.1) := by show cells + 1 + (σ'.1 - (σ.1 + 1)) = _; omega
    have z2 : slots + sl + (σ'.2.1 - (nwC σ kd len sl).2.1) = slots + (σ'.2.1 - σ.2.1) := by show slots + sl + (σ'.2.1 - (σ.2.1 + sl)) = _; omega
    rw [z1, z2]
    exact this
set_option maxHeartbeats 1000000 in
theorem sd_new {l : Launch} {X : Option (Nat × (Nat → Int32))} {cl : Nat → List Value → Sg → Rs} {kn : Kn} {mm : MT} {pc n a b : Nat} {v : Int32} {ls : Lc} {st : List Value} {σ : Sg} {r : Option Value} {σ' : Sg} (hk : ∀ (pc : Nat) (ls : Lc) (st : List Value) (τ : Sg) (r : Option Value) (σ' : Sg), kn pc ls st τ = some (r, σ') → Snd l X mm pc ls st τ r σ') {x : Nat} (hdec : decode mm.2.1 pc = .ok (.new x, n)) (hok : okE mm (pc, .new x, n, v, a, b) = true) (h : stp X cl kn mm (pc, .new x, n, v, a, b) ls st σ = some (r, σ')) : Snd l X mm pc ls st σ r σ' := by
  simp only [okE, Bool.and_eq_true, decide_eq_true_eq] at hok
  obtain ⟨rfl, hnw⟩ := hok
  simp only [stp] at h
  split at h
  · rename_i hc
    obtain ⟨hc1, hc2, ha⟩ := hc
    refine (hk _ _ _ _ _ _ h).fresh hc1 hc2 ?_
    intro p e R s m args below meth c H0 H locs cells slots Q A D cy ad bb la C Hh hcc hss kk
    have hcl : Cond.classLink (RC mm.2.2.2.2.1) x (RC a) ∈ lw_tbl := nwT_ok _ hnw
    refine va_new (fs := dfL (ftk a)) C.1 C.2.1 C.2.2.2.2.2.1 (hinW a ha) (tyC a) (tyC_ok a ha) C.2.2.2.2.1 (C.2.2.2.2.2.1 _ (inWS hcl rfl)) (C.2.2.2.2.2.1 _ (inWS (instC a ha).1 rfl)) (C.2.2.2.2.2.1 _ (inWS (instC a ha).2 rfl)) Hh.2.2.1.1 Hh.1 Hh.2.1 Hh.2.2.2.1 Hh.2.2.2.2.1 (vwC a ha) (dfC a ha) hcc hss hdec (fun q H1 hP hD hS => ?_)
    refine kk q H1 ?_ ?_ hS
    · rw [cE_obj (g := (a, 0, fun _ => none)) rfl ha, dfL_eq]
      exact hP
    · rw [cE_obj (g := (a, 0, fun _ => none)) rfl ha, dfL_eq]
      exact hD
  · cases h
theorem cy_eq {D : va_G} {cy : Nat → ClassId} {s : State} {cA : ClassId} {ty : FieldType} (k : Nat) (hK : va_K D vwCl (tysO cy ++ [(cA, ty)]) s) (hk : (tysO cy)[k]? = some (cy k, ty)) : cA = cy k := by
  have h1 := (hK.2 4 (cA, ty) rfl).2
  have h2 := (hK.2 k (cy k, ty) (by rw [List.getElem?_append_left (List.getElem?_eq_some_iff.mp hk).1]; exact hk)).2
  cases ty with
  | object C =>
    obtain ⟨_, _, _, _, _, e1⟩ := h1
    obtain ⟨_, _, _, _, _, e2⟩ := h2
    rw [e1] at e2
    exact Option.some.inj e2
  | _ =>
    have e1 : s.vm.findClass _ = some cA := h1
    have e2 : s.vm.findClass _ = some (cy k) := h2
    rw [e1] at e2
    exact Option.some.inj e2
set_option maxHeartbeats 1000000 in
theorem sd_newarray {l : Launch} {X : Option (Nat × (Nat → Int32))} {cl : Nat → List Value → Sg → Rs} {kn : Kn} {mm : MT} {pc n a b : Nat} {v : Int32} {ls : Lc} {st : List Value} {σ : Sg} {r : Option Value} {σ' : Sg} (hk : ∀ (pc : Nat) (ls : Lc) (st : List Value) (τ : Sg) (r : Option Value) (σ' : Sg), kn pc ls st τ = some (r, σ') → Snd l X mm pc ls st τ r σ') {t : ArrayType} (hdec : decode mm.2.1 pc = .ok (.newarray t, n)) (hok : okE mm (pc, .newarray t, n, v, a, b) = true) (h : stp X cl kn mm (pc, .newarray t, n, v, a, b) ls st σ = some (r, σ')) : Snd l X mm pc ls st σ r σ' := by
  simp only [okE, Bool.and_eq_true, decide_eq_true_eq, Bool.or_eq_true] at hok
  obtain ⟨rfl, hta⟩ := hok
  simp only [stp] at h
  split at h
  · rename_i x st'
    split at h
    · rename_i hc
      obtain ⟨hc1, hc2, hc3, hc4, hc5⟩ := hc
      rcases hta with ⟨rfl, rfl⟩ | ⟨rfl, rfl⟩
      · refine (hk _ _ _ _ _ _ h).fresh hc1 hc2 ?_
        intro p e R s m args below meth c H0 H locs cells slots Q A D cy ad bb la C Hh hcc hss kk
        refine va_newa (atype := .int) (ty := .int) (a0 := (x.toNatClampNeg, .inl (fun _ => 0))) C.1 C.2.1 (C.2.2.2.2.2.1 _ (inWS ww_ari rfl)) rfl Hh.2.2.1.1 Hh.1 Hh.2.1 Hh.2.2.2.1 Hh.2.2.2.2.1 (fun cA => rfl) hc3 rfl (by show _ * 4 ≤ _; omega) hcc hss hdec (fun q cA H1 hK hP hD hS => ?_)
        have hcA := cy_eq 0 hK rfl
        subst hcA
        refine kk q H1 ?_ ?_ hS
        · rw [cE_10 (g := (10, x.toNatClampNeg, fun _ => none)) rfl]; exact hP
        · rw [cE_10 (g := (10, x.toNatClampNeg, fun _ => none)) rfl]; exact hD
      · refine (hk _ _ _ _ _ _ h).fresh hc1 hc2 ?_
        intro p e R s m args below meth c H0 H locs cells slots Q A D cy ad bb la C Hh hcc hss kk
        refine va_newa (atype := .boolean) (ty := .boolean) (a0 := (x.toNatClampNeg, .inl (fun _ => 0))) C.1 C.2.1 (C.2.2.2.2.2.1 _ (inWS ww_arz rfl)) rfl Hh.2.2.1.1 Hh.1 Hh.2.1 Hh.2.2.2.1 Hh.2.2.2.2.1 (fun cA => rfl) hc3 rfl (by show _ * 1 ≤ _; omega) hcc hss hdec (fun q cA H1 hK hP hD hS => ?_)
        have hcA := cy_eq 1 hK rfl
        subst hcA
        refine kk q H1 ?_ ?_ hS
        · rw [cE_11 (g := (11, x.toNatClampNeg, fun _ => none)) rfl]; exact hP
        · rw [cE_11 (g := (11, x.toNatClampNeg, fun _ => none)) rfl]; exact hD
    · cases h
  · cases h
set_option maxHeartbeats 1000000 in
theorem sd_anewarray {l : Launch} {X : Option (Nat × (Nat → Int32))} {cl : Nat → List Value → Sg → Rs} {kn : Kn} {mm : MT} {pc n a b : Nat} {v : Int32} {ls : Lc} {st : List Value} {σ : Sg} {r : Option Value} {σ' : Sg} (hk : ∀ (pc : Nat) (ls : Lc) (st : List Value) (τ : Sg) (r : Option Value) (σ' : Sg), kn pc ls st τ = some (r, σ') → Snd l X mm pc ls st τ r σ') {x : Nat} (hdec : decode mm.2.1 pc = .ok (.anewarray x, n)) (hok : okE mm (pc, .anewarray x, n, v, a, b) = true) (h : stp X cl kn mm (pc, .anewarray x, n, v, a, b) ls st σ = some (r, σ')) : Snd l X mm pc ls st σ r σ' := by
  simp only [okE, Bool.and_eq_true, decide_eq_true_eq, Bool.or_eq_true] at hok
  obtain ⟨rfl, hta⟩ := hok
  simp only [stp] at h
  split at h
  · rename_i y st'
    split at h
    · rename_i hc
      obtain ⟨hc1, hc2, hc3, hc4, hc5⟩ := hc
      rcases hta with ⟨rfl, hnw⟩ | ⟨rfl, hnw⟩
      · refine (hk _ _ _ _ _ _ h).fresh hc1 hc2 ?_
        intro p e R s m args below meth c H0 H locs cells slots Q A D cy ad bb la C Hh hcc hss kk
        have hcl : Cond.classLink (RC mm.2.2.2.2.1) x (RC 6) ∈ lw_tbl := nwT_ok _ hnw
        refine va_newq (C := RX6) C.1 C.2.1 C.2.2.2.2.1 (C.2.2.2.2.2.1 _ (inWS hcl rfl)) Hh.2.2.1.2.1 Hh.2.2.1.1 Hh.1 Hh.2.1 Hh.2.2.2.1 Hh.2.2.2.2.1 hc3 rfl (by omega) hcc hss hdec (fun q cA H1 hK hP hD hS => ?_)
        have hcA := cy_eq 2 hK rfl
        subst hcA
        refine kk q H1 ?_ ?_ hS
        · rw [cE_12 (g := (12, y.toNatClampNeg, fun _ => none)) rfl]; exact hP
        · rw [cE_12 (g := (12, y.toNatClampNeg, fun _ => none)) rfl]; exact hD
      · refine (hk _ _ _ _ _ _ h).fresh hc1 hc2 ?_
        intro p e R s m args below meth c H0 H locs cells slots Q A D cy ad bb la C Hh hcc hss kk
        have hcl : Cond.classLink (RC mm.2.2.2.2.1) x (RC 2) ∈ lw_tbl := nwT_ok _ hnw
        refine va_newq (C := RX2) C.1 C.2.1 C.2.2.2.2.1 (C.2.2.2.2.2.1 _ (inWS hcl rfl)) Hh.2.2.1.2.2.1 Hh.2.2.1.1 Hh.1 Hh.2.1 Hh.2.2.2.1 Hh.2.2.2.2.1 hc3 rfl (by omega) hcc hss hdec (fun q cA H1 hK hP hD hS => ?_)
        have hcA := cy_eq 3 hK rfl
        subst hcA
        refine kk q H1 ?_ ?_ hS
        · rw [cE_13 (g := (13, y.toNatClampNeg, fun _ => none)) rfl]; exact hP
        · rw [cE_13 (g := (13, y.toNatClampNeg, fun _ => none)) rfl]; exact hD
    · cases h
  · cases h
end
section
theorem mtT_lt : ∀ e ∈ mtT, e.2.2 < 213 := by decide +kernel
theorem ntT_lt : ∀ e ∈ ntT, e.2.2 < 213 := by decide +kernel
theorem ok_virt {mm : MT} {pc x n a b : Nat} {v : Int32} (hok : okE mm (pc, .invokevirtual x, n, v, a, b) = true) : a < 213 := by
  simp only [okE, Bool.and_eq_true, decide_eq_true_eq] at hok
  exact mtT_lt _ hok.1.2
theorem ok_spec {mm : MT} {pc x n a b : Nat} {v : Int32} (hok : okE mm (pc, .invokespecial x, n, v, a, b) = true) (ha : a ≠ 902) : a < 213 := by
  simp only [okE, Bool.and_eq_true, decide_eq_true_eq] at hok
  obtain ⟨-, hok⟩ := hok
  rw [if_neg ha] at hok
  simp only [Bool.and_eq_true, Bool.or_eq_true, decide_eq_true_eq] at hok
  rcases hok.1 with h | h
  · exact mtT_lt _ h
  · exact ntT_lt _ h
theorem ok_stat {mm : MT} {pc x n a b : Nat} {v : Int32} (hok : okE mm (pc, .invokestatic x, n, v, a, b) = true) (ha : a ≠ 900) (hb : a ≠ 901) : a < 213 := by
  simp only [okE, Bool.and_eq_true, decide_eq_true_eq] at hok
  obtain ⟨-, hok⟩ := hok
  rw [if_neg ha, if_neg hb] at hok
  simp only [Bool.and_eq_true, decide_eq_true_eq] at hok
  exact mtT_lt _ hok.1
set_option maxHeartbeats 1000000 in
theorem stp_sound {l : Launch} {X : Option (Nat × (Nat → Int32))} {cl : Nat → List Value → Sg → Rs} {kn : Kn} {mm : MT} {en : En} {ls : Lc} {st : List Value} {σ : Sg} {r : Option Value} {σ' : Sg} (hk : ∀ (pc : Nat) (ls : Lc) (st : List Value) (τ : Sg) (r : Option Value) (σ' : Sg), kn pc ls st τ = some (r, σ') → Snd l X mm pc ls st τ r σ') (hcl : CallOK l cl)
    (hdec : decode mm.2.1 en.1 = .ok (en.2.1, en.2.2.1)) (hok : okE mm en = true) (h : stp X cl kn mm en ls st σ = some (r, σ')) : Snd l X mm en.1 ls st σ r σ' := by
  obtain ⟨pc, i, n, v, a, b⟩ := en
  cases i with
  | iconst z => exact sd_iconst hk hdec hok h
  | bipush z => exact sd_bipush hk hdec hok h
  | sipush z => exact sd_sipush hk hdec hok h
  | ldc z => exact sd_ldc hk hdec hok h
  | iload z => exact sd_iload hk hdec hok h
  | iload_n z => exact sd_iload_n hk hdec hok h
  | aload z => exact sd_aload hk hdec hok h
  | aload_n z => exact sd_aload_n hk hdec hok h
  | istore z => exact sd_istore hk hdec hok h
  | istore_n z => exact sd_istore_n hk hdec hok h
  | astore z => exact sd_astore hk hdec hok h
  | astore_n z => exact sd_astore_n hk hdec hok h
  | iinc z y => exact sd_iinc hk hdec hok h
  | iadd => exact sd_iadd hk hdec hok h
  | isub => exact sd_isub hk hdec hok h
  | imul => exact sd_imul hk hdec hok h
  | iand => exact sd_iand hk hdec hok h
  | ixor => exact sd_ixor hk hdec hok h
  | idiv => exact sd_idiv hk hdec hok h
  | irem => exact sd_irem hk hdec hok h
  | dup => exact sd_dup hk hdec hok h
  | dup2 => exact sd_dup2 hk hdec hok h
  | ifCond c z => exact sd_ifCond hk hdec hok h
  | if_icmp c z => exact sd_icmp hk hdec hok h
  | goto z => exact sd_goto hk hdec hok h
  | getfield z => exact sd_getfield hk hdec hok h
  | putfield z => exact sd_putfield hk hdec hok h
  | iaload => exact sd_iaload hk hdec hok h
  | baload => exact sd_baload hk hdec hok h
  | iastore => exact sd_iastore hk hdec hok h
  | bastore => exact sd_bastore hk hdec hok h
  | aaload => exact sd_aaload hk hdec hok h
  | aastore => exact sd_aastore hk hdec hok h
  | arraylength => exact sd_alen hk hdec hok h
  | tableswitch d lo hi offs => exact sd_tabsw hk hdec hok h
  | lookupswitch d ps => exact sd_looksw hk hdec hok h
  | invokevirtual z => exact sd_virt hk hcl (ok_virt hok) hdec hok h
  | invokespecial z => exact sd_spec hk hcl (ok_spec hok) hdec hok h
  | invokestatic z => exact sd_stat hk hcl (ok_stat hok) hdec hok h
  | ireturn => exact sd_ireturn hk hdec hok h
  | areturn => exact sd_areturn hk hdec hok h
  | return_ => exact sd_return hk hdec hok h
  | new z => exact sd_new hk hdec hok h
  | newarray z => exact sd_newarray hk hdec hok h
  | anewarray z => exact sd_anewarray hk hdec hok h
  | _ => exact absurd (show false = true from hok) (by decide)
theorem lkE_spec : ∀ {k : List En} {pc : Nat} {en : En}, lkE k pc = some en → en ∈ k ∧ en.1 = pc
  | [], pc, en, h => by cases h
  | e :: es, pc, en, h => by
    unfold lkE at h
    split at h
    · rename_i he
      cases h
      exact ⟨List.mem_cons_self, he⟩
    · obtain ⟨h1, h2⟩ := lkE_spec h
      exact ⟨List.mem_cons_of_mem _ h1, h2⟩
theorem sl_cat : ∀ {vs : List Value}, (∀ v ∈ vs, v.category = 1) → lg_sl vs = vs.map Slot.val
  | [], _ => rfl
  | v :: vs, h => by
    have h1 : v.category = 1 := h v List.mem_cons_self
    have h2 := sl_cat (vs := vs) (fun w hw => h w (List.mem_cons_of_mem _ hw))
    unfold lg_sl at h2 ⊢
    rw [List.flatMap_cons, h2, if_neg (by omega)]
    rfl
theorem entL_len {g : MT} {as : List Value} (h : as.length ≤ g.2.2.1) : (entL g as).length = g.2.2.1 := by
  simp [entL]; omega
theorem LV.entry {g : MT} {as : List Value} {ad : Nat → Nat} {N : Nat} (h : as.length ≤ g.2.2.1) (hall : as.all (oka N) = true) : LV ad 0 ((lg_sl (as.map (vz ad 0)) ++ List.replicate (g.2.2.1 - (lg_sl (as.map (vz ad 0))).length) Slot.unset).toArray) (entL g as) := by
  have hcat : ∀ v ∈ as.map (vz ad 0), v.category = 1 := by
    intro v hv
    obtain ⟨w, hw, rfl⟩ := List.mem_map.mp hv
    exact vz_cat (oka_okv (List.all_eq_true.mp hall w hw))
  have hsl := sl_cat hcat
  have hlen : (lg_sl (as.map (vz ad 0))).length = as.length := by rw [hsl]; simp
  have he := lv_entry (as.map (vz ad 0)) (n := g.2.2.1) (by rw [hlen]; exact h)
  refine ⟨by rw [he.1, entL_len h], he.2.1, fun i v hv => ?_⟩
  have hi : i < as.length := by
    rcases Nat.lt_or_ge i as.length with q | q
    · exact q
    · unfold entL at hv
      rw [List.getElem?_append_right (by simpa using q)] at hv
      have := List.mem_of_getElem? hv
      exact absurd (List.eq_of_mem_replicate this) (by simp)
  have hv2 : as[i]? = some v := by
    unfold entL at hv
    rw [List.getElem?_append_left (by simpa using hi), List.getElem?_map] at hv
    cases hz : as[i]? with
    | none => rw [hz] at hv; cases hv
    | some w => rw [hz] at hv; cases hv; rfl
  refine ⟨?_, hcat _ (List.mem_map.mpr ⟨v, List.mem_of_getElem? hv2, rfl⟩)⟩
  rw [List.getElem?_toArray, List.getElem?_append_left (by rw [hlen]; exact hi), hsl]
  simp [hv2]
set_option maxHeartbeats 1000000 in
theorem metO {l : Launch} {f : Nat} {mg : MT} {as : List Value} {σ τ : Sg} {rv : Option Value} (hmg : mT f = some mg) (hg : f < 213) (hlen : as.length = mg.2.2.2.2.2.1) (hall : as.all (oka σ.1) = true) (hw : wfG σ) (S : Snd l none mg 0 (entL mg as) [] σ rv τ) (D : va_G) (cy : Nat → ClassId) (ad : Nat → Nat) (sz : Nat) :
    Met l mg.1 (mW mg) (rmO mg (τ.1 - σ.1) (τ.2.1 - σ.2.1)) (PcO D cy ad sz σ as) (QcO D cy ad sz σ rv τ) (τ.1 - σ.1) (τ.2.1 - σ.2.1) (va_A (wsO cy ad σ) sz) := by
  obtain ⟨hMW, hMX⟩ := mwAll hmg hg
  obtain ⟨x1, x2, x3, x4, x5⟩ := MX_spec hMX
  refine Met.ofW (cc := mg.2.1) (maxL := mg.2.2.1) (ret := mg.2.2.2.1) x2 rfl ?_
  intro p e s m args below meth c s₁ B hml hv
  obtain ⟨rfl, hsz, hP, hK, hD0⟩ := hv
  have hts0 := atoms_spec (ws := mW mg) B.pre
  subst hsz
  have hD := hD0.self (sz := s.heap.size)
  have hle : as.length ≤ mg.2.2.1 := by rw [hlen]; exact hmlP hmg
  have C : Ctx p (headSpec (mW mg) (rmO mg (τ.1 - σ.1) (τ.2.1 - σ.2.1))).room s m (as.map (vz ad 0)).toArray meth c mg :=
    ⟨B.exec, B.bytes, B.returns, hml, by rw [← x1]; exact findClass_of_methodNamed B.named, fun w h => hts0 w (List.mem_cons_of_mem _ h), Nat.le_refl _, Nat.le_refl _, B.notSynchronized, fun h2 => (name_of_methodNamed B.named B.method).1.trans (hMW.2.2.2.2.2 h2).1⟩
  rw [lg_entry_eq]
  refine (S hw).2.2.2.2 p e _ s m _ below meth c s.heap s.heap [] 0 0 _ (va_A (wsO cy ad σ) s.heap.size) D cy ad 0 _ C ⟨hP, hD, hK, va_S.rf, fun q h => Or.inr h, fun L xs h => by cases h⟩ (LV.entry hle hall) (entL_len hle) (by show 0 + _ ≤ τ.1 - σ.1; omega) (by show 0 + _ ≤ τ.2.1 - σ.2.1; omega) ?_
  intro ad' H' locs' pc' la' h1 Hh' hR
  rw [Nat.zero_add, Nat.zero_add]
  have hQ : ∀ t : State, t.heap = H' → QcO D cy ad s.heap.size σ rv τ (as.map (vz ad 0)).toArray s (.returned (rv.map (vz ad' 0))) t := fun t ht => ⟨⟨ad', rfl, h1, by rw [ht]; exact Hh'.1, Hh'.2.1⟩, Hh'.2.2.2.1.F ht⟩
  match rv, hR, hQ with
  | none, hR, hQ => exact W.vret C.1 C.2.1 (C.2.2.1.trans hR.1) (fun t ht hW => hQ t ht) Hh'.2.2.2.1.2.2 hR.2 C.2.2.2.2.2.2.2.2.1
  | some (.int x), hR, hQ =>
    rcases hR.1 with hr | ⟨hr, hx⟩
    · exact W.iret C.1 C.2.1 (C.2.2.1.trans hr) (fun t ht hW => hQ t ht) Hh'.2.2.2.1.2.2 hR.2 C.2.2.2.2.2.2.2.2.1
    · exact W.zret C.1 C.2.1 (C.2.2.1.trans hr) (bo_fit hx).1 (fun t ht hW => hQ t ht) Hh'.2.2.2.1.2.2 hR.2 C.2.2.2.2.2.2.2.2.1
  | some (.ref q), hR, hQ =>
    obtain ⟨⟨nm, hr⟩, hd, -⟩ := hR
    exact W.aret C.1 C.2.1 (C.2.2.1.trans hr) (Or.inl ⟨nm, rfl⟩) (Or.inr ⟨_, rfl⟩) (fun t ht hW => hQ t ht) Hh'.2.2.2.1.2.2 hd C.2.2.2.2.2.2.2.2.1
/-- WHAT THE FLAT MACHINE DOES, THE MACHINE DOES -/
theorem run_sound (l : Launch) : ∀ (n : Nat) (X : Option (Nat × (Nat → Int32))) (f : Nat) (mm : MT) (pc : Nat) (ls : Lc) (st : List Value) (σ : Sg) (r : Option Value) (σ' : Sg), mT f = some mm → run n X f pc ls st σ = some (r, σ') → Snd l X mm pc ls st σ r σ' := by
  intro n
  induction n with
  | zero =>
    intro X f mm pc ls st σ r σ' hm h
    cases h
  | succ n ih =>
    intro X f mm pc ls st σ r σ' hm h
    unfold run at h
    rw [hm] at h
    dsimp only at h
    split at h
    · cases h
    · rename_i en hen
      obtain ⟨h1, rfl⟩ := lkE_spec hen
      obtain ⟨hdec, hok⟩ := okAll hm en h1
      refine stp_sound (fun pc ls st τ r σ' h => ih X f mm pc ls st τ r σ' hm h) ?_ hdec hok h
      intro g mg as σ rv τ hmg hg hlen hall hcall hw
      dsimp only at hcall
      rw [hmg] at hcall
      dsimp only at hcall
      have S := ih none g mg 0 (entL mg as) [] σ rv τ hmg hcall
      obtain ⟨s1, s2, s3, s4, -⟩ := S hw
      exact ⟨s1, s2, s3, s4, fun D cy ad sz => metO hmg hg hlen hall hw S D cy ad sz⟩
end
section
/-! THE CLAIM OUT OF ONE WALK OF THE LAW'S BODY. Your part is whole_start (and what it stands on); all else here is the same for every law, but numbers. -/
def R_law : String := "IndexedTableLaw"
def lw_P (b : Addr) (xs : List Int32) (args : Array Value) (s : State) : Prop := args = #[.ref b] ∧ s.IntsAt b xs ∧ xs.length ≤ 3072 ∧ (Jvm.Cond.and given_1 narrow_1).before args s = true
def lw_Q (_ : Array Value) (s : State) (o : Outcome) (t : State) : Prop := o = .returned (some (.int 1)) ∧ Framed s o t [] 600000 7302250
def lw_Z (below : List Frame) (a : Array Value) (s : State) : State → Prop := fun t => ∃ o, t.status = .running ∧ Ended t below o ∧ lw_Q a s o t
/-- the law's own end, with 1 on the stack, nothing written that was there before, its room as the claim has it -/
theorem lw_ret {p : Program} {l : Launch} {e : Env} {s : State} {m : MethodId} {below : List Frame} {meth : Method} {c : Code} {b : Nat} (hx : p.tables.exec = Jvm.exec) (hb : c.code = code) (hr : meth.sig.returnType = ret) (hlocks : meth.locks = false) {pc : Nat} {H : Heap} {ls : Array Slot} (hdg : decode code pc = .ok (.ireturn, 1)) : W p l e room_1 s m #[Value.ref b] below meth c H [] 600000 7302250 (lw_Z below #[Value.ref b] s) (F0 m pc ls [.int 1]) := by
  intro T hT X
  obtain ⟨fs, hret, hrun, hended, hW, hframe⟩ := X.leave (v := some (.int 1)) (hlocks := hlocks) (fun h => by rw [hr] at h; cases h)
  have hmeth' : T.vm.method? m = some meth := X.method'
  refine ⟨T.setFrames fs, ?_, .returned (some (.int 1)), hrun, hended, rfl, ⟨_, rfl⟩, hW, hframe⟩
  jvm_step X.here [X.here.top, hx, hb, hdg, hmeth', hr, ret, narrow_b1]
  (try refine ⟨rfl, ?_⟩); (try refine ⟨rfl, ?_⟩)
  first | (intro acts; rw [hret _ acts rfl rfl rfl]) | rw [hret _ _ rfl rfl rfl]
  exact Steps.refl _
/-- what holds at the law's entry: the machine, the code, the tables' words (any of lw_tbl by 'hts w (by decide +kernel)'), the script of L ints xs at the cell b, what the Statement gives of the start (any of its parts by flat_of_before) -/
def lw_At (p : Program) (s : State) (m : MethodId) (meth : Method) (c : Code) (b L : Nat) (xs : Nat → Int32) : Prop :=
  p.tables.exec = Jvm.exec ∧ c.code = code ∧ meth.sig.returnType = ret ∧ c.maxLocals = 4 ∧ s.vm.findClass R_law = some m.cls ∧ (∀ w ∈ lw_tbl, w.before #[Value.ref b] s = true) ∧ va_X b L xs s s.heap ∧ b < s.heap.size ∧ meth.locks = false ∧ (Jvm.Cond.and given_1 narrow_1).before #[Value.ref b] s = true
theorem cls_known {args : Array Value} {s : State} (hts : ∀ w ∈ lw_tbl, w.before args s = true) : ∃ (dC : Nat → ClassId) (dI : Nat → Nat → Nat), ∀ (k : Nat) (q : vw_C), vwCl[k]? = some q → u_Kn s q.1 q.2.1 q.2.2 (dC k) (dI k) := by
  have key : ∀ k, k < 10 → ∃ (c : ClassId) (i : Nat → Nat), u_Kn s (RC k) (TC k) (NC k) c i := fun k hk =>
    u_known (C := RC k) (T := TC k) (N := NC k) (n := NC k) hts (hinC k hk) (hts _ (instC k hk).1)
  refine ⟨fun k => if hk : k < 10 then (key k hk).choose else 0, fun k => if hk : k < 10 then (key k hk).choose_spec.choose else fun _ => 0, ?_⟩
  intro k q hq
  have hk : k < 10 := (List.getElem?_eq_some_iff.mp hq).1
  rw [vwC k hk] at hq
  cases hq
  simp only [dif_pos hk]
  exact (key k hk).choose_spec.choose_spec
theorem arr_known {args : Array Value} {s : State} {ty : FieldType} (h : (Cond.arrayClass ty).before args s = true) : ∃ cA : ClassId, ArrOfT s cA ty ∧ s.vm.findClass ("[" ++ ty.toString) = some cA := by
  obtain ⟨c, k, comp, h1, h2, h3⟩ := Cond.arrayClass_spec h
  exact ⟨c, fun n z => ⟨fun k h => (by cases h), k, h2, comp, h3⟩, h1⟩
theorem arq_known {args : Array Value} {s : State} {C : String} (h : (Cond.arrayOver (.object C)).before args s = true) : ∃ cA : ClassId, ArrOfT s cA (.object C) ∧ va_RA s cA (.object C) := by
  obtain ⟨comp, c, k, h1, h2, h3, h4, h5⟩ := Cond.arrayOver_spec h
  exact ⟨c, fun n z => ⟨fun k h => (by cases h), k, h3, comp, h4⟩, k, comp, h3, h4, h1, h5⟩
def sg0 : Sg := (0, 0, fun _ => (0, 0, fun _ => none), fun _ _ => 0)
def mLaw : MT := (yL_law, code, 4, (some .boolean), 10, 1, 10, 238, 0)
theorem mT_law : mT 213 = some mLaw := rfl
/-- THE LAW, FROM THE FLAT MACHINE'S RUN OF IT -/
theorem law_of_run (l : Launch) {L : Nat} {xs : Nat → Int32} {n : Nat} {σ' : Sg} (hrun : run n (some (L, xs)) 213 0 [some (.retAddr 0), none, none, none] [] sg0 = some (some (.int 1), σ')) (hc : σ'.1 ≤ 600000) (hsl : σ'.2.1 ≤ 7302250)
    {p : Program} {e : Env} {s : State} {m : MethodId} {below : List Frame} {meth : Method} {c : Code} {b : Nat} (C0 : lw_At p s m meth c b L xs) : W p l e room_1 s m #[Value.ref b] below meth c s.heap [] 0 0 (lw_Z below #[Value.ref b] s) (entryFrame m ([Value.ref b] : List Value).toArray 4) := by
  obtain ⟨hx, hb, hr, hml, hown, hts, hX, hbl, hlocks, hgv⟩ := id C0
  have hwf : wfG sg0 := fun k hk => absurd hk (Nat.not_lt_zero _)
  obtain ⟨a1, a2, a3, a4, K⟩ := run_sound l n (some (L, xs)) 213 mLaw 0 [some (.retAddr 0), none, none, none] [] sg0 _ σ' mT_law hrun hwf
  obtain ⟨dC, dI, hKc⟩ := cls_known hts
  obtain ⟨c0, z0, y0⟩ := arr_known (hts _ ww_ari)
  obtain ⟨c1, z1, y1⟩ := arr_known (hts _ ww_arz)
  obtain ⟨c2, z2, y2⟩ := arq_known (hts _ ww_ao6)
  obtain ⟨c3, z3, y3⟩ := arq_known (hts _ ww_ao2)
  have hK : va_K (dC, dI) vwCl (tysO (fun k => if k = 0 then c0 else if k = 1 then c1 else if k = 2 then c2 else c3)) s := by
    refine ⟨hKc, fun k q hq => ?_⟩
    match k, hq with
    | 0, hq => cases hq; exact ⟨z0, y0⟩
    | 1, hq => cases hq; exact ⟨z1, y1⟩
    | 2, hq => cases hq; exact ⟨z2, y2⟩
    | 3, hq => cases hq; exact ⟨z3, y3⟩
    | k + 4, hq => cases hq
  have hKO : KO (dC, dI) (fun k => if k = 0 then c0 else if k = 1 then c1 else if k = 2 then c2 else c3) s := ⟨hK, va_AO.of (hts _ ww_ao6), va_AO.of (hts _ ww_ao2), fun e he => va_Nw.of rfl (hts _ (ntT_ok e he))⟩
  have hC : Ctx p room_1 s m #[Value.ref b] meth c mLaw := ⟨hx, hb, hr, hml, hown, fun w hw => hts w (List.mem_filter.mp hw).1, by decide, by decide, hlocks, fun h => absurd h (by decide)⟩
  have hl := lv_entry ([.ref b]) (n := 4) (Nat.le_of_ble_eq_true rfl)
  rw [lg_entry_eq]
  refine K p e room_1 s m #[Value.ref b] below meth c s.heap s.heap [] 0 0 (lw_Z below #[Value.ref b] s) (fun q => s.heap.size ≤ q) (dC, dI) _ (fun _ => 0) b _ hC ⟨fun k q h => by simp [wsO, sg0] at h, ⟨fun i j p q h => by simp [wsO, sg0] at h, fun k q h => by simp [wsO, sg0] at h⟩, hKO, va_S.rf, fun _ h => h, fun L' xs' h => by cases h; exact ⟨hX, hbl, Nat.not_le.mpr hbl⟩⟩ ⟨hl.1, hl.2.1, ?_⟩ rfl (by show 0 + (σ'.1 - 0) ≤ 600000; omega) (by show 0 + (σ'.2.1 - 0) ≤ 7302250; omega) ?_
  · intro i v hv
    match i, hv with
    | 0, hv =>
      cases hv
      exact ⟨hl.2.2 (0, .ref b) List.mem_cons_self, rfl⟩
    | 1, hv => cases hv
    | 2, hv => cases hv
    | 3, hv => cases hv
    | i + 4, hv => cases hv
  · intro ad' H' locs' pc' la' h1 Hh hR
    refine va_forget (fun q hq => Hh.2.2.2.1.2.2 q hq) ?_
    refine W.widen (k := 600000) (n := 7302250) (by show 0 + (σ'.1 - 0) ≤ 600000; omega) (by show 0 + (σ'.2.1 - 0) ≤ 7302250; omega) ?_
    exact lw_ret hx hb hr hlocks hR.2
end
section
/-! THE CELLS, once both objects are made: cell 0 the table, 22 + 5 t a transaction, 62 + 25 i an index, 212 the reference. A reference here: (tag, base, place): 0 the table (base 0), 1 a transaction, 2 an index, 3 the reference (base 0) -/
def asc : List (Nat × Nat) → Nat → Option Nat
  | [], _ => none
  | (k, q) :: r, j => if k = j then some q else asc r j
def tkd (t o : Nat) : Nat := match t with
  | 0 => ([8, 5, 1, 10, 1, 10, 10, 5, 1, 10, 1, 10, 10, 12, 13, 1, 10, 1, 10, 10, 10, 10][o]?).getD 99
  | 1 => ([6, 10, 10, 1, 10][o]?).getD 99
  | 2 => ([2, 10, 7, 0, 10, 10, 10, 10, 10, 10, 10, 10, 10, 10, 10, 3, 0, 10, 11, 4, 0, 10, 10, 0, 10][o]?).getD 99
  | 3 => ([9, 10, 10, 11, 11, 10, 11, 10, 10, 11, 10, 10, 11, 10, 10, 11, 10, 10, 10, 10, 10, 10, 11, 10, 10, 10, 10, 10, 10, 10, 11, 10, 10, 10, 10, 10, 10, 10, 10, 10, 10, 10, 10, 10, 10, 10, 11, 10][o]?).getD 99
  | _ => 99
def tln (t o : Nat) : Nat := match t with
  | 0 => ([0, 0, 0, 1600, 0, 1600, 320, 0, 0, 1600, 0, 1600, 320, 8, 6, 0, 5, 0, 5, 4, 4, 320][o]?).getD 0
  | 1 => ([0, 200, 200, 0, 1000][o]?).getD 0
  | 2 => ([0, 3, 0, 0, 2592, 648, 1740, 2088, 348, 348, 12, 12, 648, 648, 348, 0, 0, 1200, 300, 0, 0, 2560, 640, 0, 4][o]?).getD 0
  | 3 => ([0, 1280, 1280, 320, 320, 320, 8, 8, 1600, 1600, 6400, 1600, 6, 6, 18, 6, 6, 6, 6, 6, 6, 6, 1800, 5400, 1800, 6, 6, 11520, 3840, 6, 2160, 2160, 32400, 10800, 12960, 4, 4, 320, 3, 16, 16, 1800, 1800, 8, 4, 1280, 320, 320][o]?).getD 0
  | _ => 0
def trf (t o j : Nat) : Option Nat := match t with
  | 0 => asc ((([[(0, 1), (1, 7), (2, 13), (3, 14), (4, 15), (5, 17), (6, 19), (7, 20), (8, 21)], [(0, 2), (1, 4), (2, 6)], [(0, 3)], [], [(0, 5)], [], [], [(0, 8), (1, 10), (2, 12)], [(0, 9)], [], [(0, 11)], [], [], [], [], [(0, 16)], [], [(0, 18)], [], [], [], []] : List (List (Nat × Nat)))[o]?).getD []) j
  | 1 => asc ((([[(2, 1), (3, 2), (4, 3)], [], [], [(0, 4)], []] : List (List (Nat × Nat)))[o]?).getD []) j
  | 2 => asc ((([[(3, 1), (9, 2), (10, 15), (11, 19), (12, 23)], [], [(0, 3), (1, 5), (3, 6), (4, 7), (5, 8), (6, 9), (9, 10), (10, 11), (12, 12), (13, 13), (16, 14)], [(0, 4)], [], [], [], [], [], [], [], [], [], [], [], [(0, 16), (1, 18)], [(0, 17)], [], [], [(0, 20), (1, 22)], [(0, 21)], [], [], [(0, 24)], []] : List (List (Nat × Nat)))[o]?).getD []) j
  | 3 => asc ((([[(0, 1), (1, 2), (2, 3), (3, 4), (4, 5), (5, 6), (6, 7), (7, 8), (8, 9), (9, 10), (10, 11), (11, 12), (12, 13), (13, 14), (14, 15), (15, 16), (16, 17), (17, 18), (18, 19), (19, 20), (20, 21), (21, 22), (22, 23), (23, 24), (24, 25), (25, 26), (26, 27), (27, 28), (28, 29), (29, 30), (30, 31), (31, 32), (32, 33), (33, 34), (34, 35), (35, 36), (37, 37), (40, 38), (43, 39), (44, 40), (46, 41), (47, 42), (48, 43), (51, 44), (52, 45), (53, 46), (54, 47)], [], [], [], [], [], [], [], [], [], [], [], [], [], [], [], [], [], [], [], [], [], [], [], [], [], [], [], [], [], [], [], [], [], [], [], [], [], [], [], [], [], [], [], [], [], [], []] : List (List (Nat × Nat)))[o]?).getD []) j
  | _ => none
abbrev RF : Type := Nat × Nat × Nat
def adr (q : RF) : Nat := match q.1 with
  | 0 => q.2.2
  | 3 => 212 + q.2.2
  | _ => q.2.1 + q.2.2
def vtg (q : RF) : Prop := match q.1 with
  | 0 => True
  | 1 => ∃ j, j < 8 ∧ q.2.1 = 22 + 5 * j
  | 2 => ∃ j, j < 6 ∧ q.2.1 = 62 + 25 * j
  | 3 => True
  | _ => False
def Shp (N : Nat) (G : Gm) : Prop := (∀ q : RF, vtg q → ¬ tkd q.1 q.2.2 = 99 → adr q < N ∧ (G (adr q)).1 = tkd q.1 q.2.2 ∧ (G (adr q)).2.1 = tln q.1 q.2.2 ∧ ∀ j o', trf q.1 q.2.2 j = some o' → (G (adr q)).2.2 j = some (adr (q.1, q.2.1, o')) ∧ ¬ tkd q.1 o' = 99) ∧ (∀ j, j < 8 → (G 13).2.2 j = some (22 + 5 * j)) ∧ (∀ j, j < 6 → (G 14).2.2 j = some (62 + 25 * j))
abbrev Mm : Type := Nat → Nat → Int32
def inR (x : Int) : Prop := -2147483648 ≤ x ∧ x < 2147483648
def wr (x : Int) : Int := (Int32.ofInt x).toInt
def rd (I : Mm) (a k : Nat) : Int := (I a k).toInt
def wt (I : Mm) (a k : Nat) (x : Int) : Mm := va_up I a (upd (I a) k (Int32.ofInt x))
def cp (I : Mm) (r0 r1 sp dp n : Nat) : Mm := va_up I r1 (va_cpy (I r0) (I r1) sp dp n)
theorem wr_of {x : Int} (h : inR x) : wr x = x := by
  unfold wr
  unfold inR at h
  rw [Int32.toInt_ofInt_of_le] <;> omega
theorem rd_in (I : Mm) (a k : Nat) : inR (rd I a k) := by
  unfold rd inR
  have h1 := Int32.le_toInt (I a k)
  have h2 := Int32.toInt_lt (I a k)
  constructor <;> omega
theorem wr_in (x : Int) : inR (wr x) := by
  unfold wr inR
  have h1 := Int32.le_toInt (Int32.ofInt x)
  have h2 := Int32.toInt_lt (Int32.ofInt x)
  constructor <;> omega
theorem wr_wr (x : Int) : wr (wr x) = wr x := wr_of (wr_in x)
theorem wr_rd (I : Mm) (a k : Nat) : wr (rd I a k) = rd I a k := wr_of (rd_in I a k)
theorem of_rd (I : Mm) (a k : Nat) : Int32.ofInt (rd I a k) = I a k := by unfold rd; exact Int32.ofInt_toInt _
theorem of_wr (x : Int) : Int32.ofInt (wr x) = Int32.ofInt x := by unfold wr; exact Int32.ofInt_toInt _
theorem i_lt (x y : Int) : Int32.ofInt x < Int32.ofInt y ↔ wr x < wr y := Int32.lt_iff_toInt_lt
theorem i_le (x y : Int) : Int32.ofInt x ≤ Int32.ofInt y ↔ wr x ≤ wr y := Int32.le_iff_toInt_le
theorem i_eq (x y : Int) : Int32.ofInt x = Int32.ofInt y ↔ wr x = wr y := Int32.toInt_inj.symm
/-- an int: 0 any, 1 known to be in range, 2 a number that stands written there -/
abbrev NV : Type := Nat × Int
abbrev AV : Type := NV ⊕ RF
def av (v : AV) : Value := match v with
  | .inl q => .int (Int32.ofInt q.2)
  | .inr r => .ref (adr r)
def vi (q : NV) : Int := match q.1 with
  | 0 => wr q.2
  | _ => q.2
def okF (v : AV) : Prop := match v with
  | .inl q => ¬ q.1 = 0 → inR q.2
  | .inr r => vtg r ∧ ¬ tkd r.1 r.2.2 = 99
theorem vi_wr {q : NV} (h : okF (.inl q)) : vi q = wr q.2 := by
  obtain ⟨b, x⟩ := q
  cases b with
  | zero => rfl
  | succ b => exact (wr_of (h (Nat.succ_ne_zero b))).symm
def rgB (x : Int) : Bool := decide (-2147483648 ≤ x) && decide (x < 2147483648)
/-- a computed number -/
def nmv (k : Bool) (x : Int) : NV := match k with
  | true => (match rgB x with
    | true => (2, x)
    | false => (0, x))
  | false => (0, x)
def li2 (x y : NV) : Bool := decide (x.1 = 2) && decide (y.1 = 2)
def li1 (x : NV) : Bool := decide (x.1 = 2)
/-- a branch: taken at once where both numbers stand written there -/
def brP (k b : Bool) (c A B : Prop) : Prop := match k with
  | true => (match b with
    | true => A
    | false => B)
  | false => (c → A) ∧ (¬ c → B)
/-- a truth value: asked for where it does not stand written there -/
def boP (x : NV) (A : Prop) : Prop := match li1 x with
  | true => (match decide (x.2 = 0) || decide (x.2 = 1) with
    | true => A
    | false => False)
  | false => (vi x = 0 ∨ vi x = 1) ∧ A
abbrev AL : Type := List (Option AV)
def avL (ls : AL) : Lc := ls.map (fun o => o.map av)
def okFL (ls : AL) : Prop := ∀ v, some v ∈ ls → okF v
def okFS (st : List AV) : Prop := ∀ v ∈ st, okF v
def GoI (f pc : Nat) (ls : Lc) (st : List Value) (I : Mm) (P : Option Value → Mm → Prop) : Prop := ∀ (N M : Nat) (G : Gm), Shp N G → ∃ (n0 : Nat) (r : Option Value) (I' : Mm), (∀ n, n0 ≤ n → run n none f pc ls st (N, M, G, I) = some (r, (N, M, G, I'))) ∧ P r I'
def CallI (g : Nat) (as : List Value) (I : Mm) (P : Option Value → Mm → Prop) : Prop := ∃ mg, mT g = some mg ∧ GoI g 0 (entL mg as) [] I P
/-- calls, by what they answer: an int, nothing, a reference -/
def CallZ (g : Nat) (as : List AV) (I : Mm) (K : Int → Mm → Prop) : Prop := CallI g (as.map av) I (fun r I' => ∃ x, r = some (.int (Int32.ofInt x)) ∧ inR x ∧ K x I')
def CallV (g : Nat) (as : List AV) (I : Mm) (K : Mm → Prop) : Prop := CallI g (as.map av) I (fun r I' => r = none ∧ K I')
def CallR (g : Nat) (as : List AV) (I : Mm) (K : RF → Mm → Prop) : Prop := CallI g (as.map av) I (fun r I' => ∃ q : RF, r = some (.ref (adr q)) ∧ okF (.inr q) ∧ K q I')
abbrev AR : Type := Option (NV ⊕ RF)
def CallN (g : Nat) (as : List AV) (I : Mm) (K : NV → Mm → Prop) : Prop := CallI g (as.map av) I (fun r I' => ∃ x : NV, r = some (.int (Int32.ofInt x.2)) ∧ okF (.inl x) ∧ K x I')
/-- the rows of a tableswitch -/
def swP (K : Nat → Int → Prop) (pc : Nat) : Int → List Int → Prop
  | _, [] => True
  | lo, off :: offs => (K ((pc : Int) + off).toNat lo) ∧ swP K pc (lo + 1) offs
/-- what an instruction asks for and leaves -/
def vst (mm : MT) (en : En) (ls : AL) (st : List AV) (I : Mm) (kn : Nat → AL → List AV → Mm → Prop) (cz : Nat → List AV → Mm → (NV → Mm → Prop) → Prop) (cv : Nat → List AV → Mm → (Mm → Prop) → Prop) (cr : Nat → List AV → Mm → (RF → Mm → Prop) → Prop) (rt : AR → Mm → Prop) : Prop :=
  match en with
  | (pc, i, n, v, a, b) =>
  match i with
  | .iconst z | .bipush z | .sipush z => kn (pc + n) ls (.inl (2, z) :: st) I
  | .ldc _ => kn (pc + n) ls (.inl (1, v.toInt) :: st) I
  | .iload _ | .iload_n _ => (match ls[a]? with
    | some (some (.inl q)) => kn (pc + n) ls (.inl q :: st) I
    | _ => False)
  | .aload _ | .aload_n _ => (match ls[a]? with
    | some (some (.inr r)) => kn (pc + n) ls (.inr r :: st) I
    | _ => False)
  | .istore _ | .istore_n _ => (match st with
    | .inl q :: st => if a < ls.length then (match li1 q with
      | true => kn (pc + n) (ls.set a (some (.inl q))) st I
      | false => ∀ x, x = vi q → inR x → kn (pc + n) (ls.set a (some (.inl (1, x)))) st I) else False
    | _ => False)
  | .astore _ | .astore_n _ => (match st with
    | .inr r :: st => if a < ls.length then kn (pc + n) (ls.set a (some (.inr r))) st I else False
    | _ => False)
  | .iinc _ z => (match ls[a]? with
    | some (some (.inl q)) => (match li1 q with
      | true => kn (pc + n) (ls.set a (some (.inl (nmv true (q.2 + z))))) st I
      | false => ∀ x, x = wr (q.2 + z) → inR x → kn (pc + n) (ls.set a (some (.inl (1, x)))) st I)
    | _ => False)
  | .iadd => (match st with
    | .inl y :: .inl x :: st => kn (pc + n) ls (.inl (nmv (li2 x y) (x.2 + y.2)) :: st) I
    | _ => False)
  | .isub => (match st with
    | .inl y :: .inl x :: st => kn (pc + n) ls (.inl (nmv (li2 x y) (x.2 - y.2)) :: st) I
    | _ => False)
  | .imul => (match st with
    | .inl y :: .inl x :: st => kn (pc + n) ls (.inl (nmv (li2 x y) (x.2 * y.2)) :: st) I
    | _ => False)
  | .idiv => (match st with
    | .inl y :: .inl x :: st => (0 ≤ vi x ∧ 0 < vi y) ∧ kn (pc + n) ls (.inl (1, vi x / vi y) :: st) I
    | _ => False)
  | .irem => (match st with
    | .inl y :: .inl x :: st => (0 ≤ vi x ∧ 0 < vi y) ∧ kn (pc + n) ls (.inl (1, vi x % vi y) :: st) I
    | _ => False)
  | .dup => (match st with
    | x :: st => kn (pc + n) ls (x :: x :: st) I
    | _ => False)
  | .dup2 => (match st with
    | .inl x :: .inr y :: st => kn (pc + n) ls (.inl x :: .inr y :: .inl x :: .inr y :: st) I
    | _ => False)
  | .getfield _ => (match st with
    | .inr r :: st => if tkd r.1 r.2.2 = a then (match (ftk a)[b]? with
      | some 2 => (match trf r.1 r.2.2 b with
        | some q => kn (pc + n) ls (.inr (r.1, r.2.1, q) :: st) I
        | none => False)
      | some _ => kn (pc + n) ls (.inl (1, rd I (adr r) b) :: st) I
      | none => False) else False
    | _ => False)
  | .putfield _ => (match st with
    | .inl x :: .inr r :: st => if tkd r.1 r.2.2 = a then (match (ftk a)[b]? with
      | some 0 => ∀ I', I' = wt I (adr r) b x.2 → kn (pc + n) ls st I'
      | some 1 => boP x (∀ I', I' = wt I (adr r) b x.2 → kn (pc + n) ls st I')
      | _ => False) else False
    | _ => False)
  | .iaload => (match st with
    | .inl i :: .inr r :: st => if tkd r.1 r.2.2 = 10 then (0 ≤ vi i ∧ vi i < tln r.1 r.2.2) ∧ kn (pc + n) ls (.inl (1, rd I (adr r) (vi i).toNat) :: st) I else False
    | _ => False)
  | .baload => (match st with
    | .inl i :: .inr r :: st => if tkd r.1 r.2.2 = 11 then (0 ≤ vi i ∧ vi i < tln r.1 r.2.2) ∧ kn (pc + n) ls (.inl (1, rd I (adr r) (vi i).toNat) :: st) I else False
    | _ => False)
  | .iastore => (match st with
    | .inl x :: .inl i :: .inr r :: st => if tkd r.1 r.2.2 = 10 then (0 ≤ vi i ∧ vi i < tln r.1 r.2.2) ∧ (∀ I', I' = wt I (adr r) (vi i).toNat x.2 → kn (pc + n) ls st I') else False
    | _ => False)
  | .bastore => (match st with
    | .inl x :: .inl i :: .inr r :: st => if tkd r.1 r.2.2 = 11 then (0 ≤ vi i ∧ vi i < tln r.1 r.2.2) ∧ boP x (∀ I', I' = wt I (adr r) (vi i).toNat x.2 → kn (pc + n) ls st I') else False
    | _ => False)
  | .aaload => (match st with
    | .inl i :: .inr r :: st => if r.1 = 0 ∧ r.2.2 = 13 then (0 ≤ vi i ∧ vi i < 8) ∧ kn (pc + n) ls (.inr (1, 22 + 5 * (vi i).toNat, 0) :: st) I else if r.1 = 0 ∧ r.2.2 = 14 then (0 ≤ vi i ∧ vi i < 6) ∧ kn (pc + n) ls (.inr (2, 62 + 25 * (vi i).toNat, 0) :: st) I else False
    | _ => False)
  | .arraylength => (match st with
    | .inr r :: st => if tkd r.1 r.2.2 = 10 then kn (pc + n) ls (.inl (2, (tln r.1 r.2.2 : Int)) :: st) I else False
    | _ => False)
  | .ifCond c _ => (match st with
    | .inl x :: st => (match c with
      | .eq => brP (li1 x) (decide (x.2 = 0)) (vi x = 0) (kn a ls st I) (kn (pc + n) ls st I)
      | .ne => brP (li1 x) (decide (x.2 = 0)) (vi x = 0) (kn (pc + n) ls st I) (kn a ls st I)
      | .lt => brP (li1 x) (decide (x.2 < 0)) (vi x < 0) (kn a ls st I) (kn (pc + n) ls st I)
      | .ge => brP (li1 x) (decide (0 ≤ x.2)) (0 ≤ vi x) (kn a ls st I) (kn (pc + n) ls st I)
      | .gt => brP (li1 x) (decide (0 < x.2)) (0 < vi x) (kn a ls st I) (kn (pc + n) ls st I)
      | .le => brP (li1 x) (decide (x.2 ≤ 0)) (vi x ≤ 0) (kn a ls st I) (kn (pc + n) ls st I))
    | _ => False)
  | .if_icmp c _ => (match st with
    | .inl y :: .inl x :: st => (match c with
      | .eq => brP (li2 x y) (decide (x.2 = y.2)) (vi x = vi y) (kn a ls st I) (kn (pc + n) ls st I)
      | .ne => brP (li2 x y) (decide (x.2 = y.2)) (vi x = vi y) (kn (pc + n) ls st I) (kn a ls st I)
      | .lt => brP (li2 x y) (decide (x.2 < y.2)) (vi x < vi y) (kn a ls st I) (kn (pc + n) ls st I)
      | .ge => brP (li2 x y) (decide (y.2 ≤ x.2)) (vi y ≤ vi x) (kn a ls st I) (kn (pc + n) ls st I)
      | .gt => brP (li2 x y) (decide (y.2 < x.2)) (vi y < vi x) (kn a ls st I) (kn (pc + n) ls st I)
      | .le => brP (li2 x y) (decide (x.2 ≤ y.2)) (vi x ≤ vi y) (kn a ls st I) (kn (pc + n) ls st I))
    | _ => False)
  | .goto _ => kn a ls st I
  | .tableswitch d lo hi offs => (match st with
    | .inl x :: st => ((vi x < lo ∨ hi < vi x) → kn ((pc : Int) + d).toNat ls st I) ∧ swP (fun k q => vi x = q → kn k ls st I) pc lo offs.toList
    | _ => False)
  | .lookupswitch d ps => (match st with
    | .inl x :: st => kn ((pc : Int) + Op.lookupswitch.offset ps.toList d (vi x)).toNat ls st I
    | _ => False)
  | .invokevirtual _ => (match mT a with
    | some g => (match st.drop (g.2.2.2.2.2.1 - 1) with
      | .inr r :: rest => if rest.length ≤ 8 ∧ tkd r.1 r.2.2 = g.2.2.2.2.1 then (match g.2.2.2.1 with
        | none => cv a (.inr r :: (st.take (g.2.2.2.2.2.1 - 1)).reverse) I (fun I' => kn (pc + n) ls rest I')
        | some .int | some .boolean => cz a (.inr r :: (st.take (g.2.2.2.2.2.1 - 1)).reverse) I (fun x I' => kn (pc + n) ls (.inl x :: rest) I')
        | some (.object _) => cr a (.inr r :: (st.take (g.2.2.2.2.2.1 - 1)).reverse) I (fun q I' => kn (pc + n) ls (.inr q :: rest) I')
        | _ => False) else False
      | _ => False)
    | none => False)
  | .invokestatic _ => if a = 900 then (match st with
      | .inl m :: .inl dp :: .inr r1 :: .inl sp :: .inr r0 :: rest => if tkd r0.1 r0.2.2 = 10 ∧ tkd r1.1 r1.2.2 = 10 ∧ rest.length ≤ 0 then (0 ≤ vi sp ∧ 0 ≤ vi dp ∧ 0 ≤ vi m ∧ vi sp + vi m ≤ tln r0.1 r0.2.2 ∧ vi dp + vi m ≤ tln r1.1 r1.2.2) ∧ (∀ I', I' = cp I (adr r0) (adr r1) (vi sp).toNat (vi dp).toNat (vi m).toNat → kn (pc + n) ls rest I') else False
      | _ => False) else if a = 901 then (match st with
      | .inl y :: .inl x :: rest => if rest.length ≤ 4 then kn (pc + n) ls (.inl (1, if vi y < vi x then vi y else vi x) :: rest) I else False
      | _ => False) else (match mT a with
    | some g => if g.2.2.2.2.2.1 ≤ st.length ∧ (st.drop g.2.2.2.2.2.1).length ≤ 8 then (match g.2.2.2.1 with
        | none => cv a (st.take g.2.2.2.2.2.1).reverse I (fun I' => kn (pc + n) ls (st.drop g.2.2.2.2.2.1) I')
        | some .int | some .boolean => cz a (st.take g.2.2.2.2.2.1).reverse I (fun x I' => kn (pc + n) ls (.inl x :: st.drop g.2.2.2.2.2.1) I')
        | _ => False) else False
    | none => False)
  | .ireturn => (match st with
    | [.inl x] => (match mm.2.2.2.1 with
      | some .int => rt (some (.inl x)) I
      | some .boolean => boP x (rt (some (.inl x)) I)
      | _ => False)
    | _ => False)
  | .areturn => (match st with
    | [.inr r] => (match mm.2.2.2.1 with
      | some (.object _) => rt (some (.inr r)) I
      | _ => False)
    | _ => False)
  | .return_ => (match st with
    | [] => (match mm.2.2.2.1 with
      | none => rt none I
      | _ => False)
    | _ => False)
  | _ => False
end
section
def clR (n : Nat) : Nat → List Value → Sg → Rs := fun g as τ => match mT g with
  | none => none
  | some mg => run n none g 0 (entL mg as) [] τ
theorem GoI.of_stp {f pc : Nat} {mm : MT} {en : En} {ls : Lc} {st : List Value} {I : Mm} {P : Option Value → Mm → Prop} (hm : mT f = some mm) (hl : lkE (cd f) pc = some en) (h : ∀ (N M : Nat) (G : Gm), Shp N G → ∃ (n0 : Nat) (r : Option Value) (I' : Mm), (∀ n, n0 ≤ n → stp none (clR n) (run n none f) mm en ls st (N, M, G, I) = some (r, (N, M, G, I'))) ∧ P r I') : GoI f pc ls st I P := by
  intro N M G hS
  obtain ⟨n0, r, I', a, b⟩ := h N M G hS
  refine ⟨n0 + 1, r, I', fun n hn => ?_, b⟩
  cases n with
  | zero => omega
  | succ n =>
    unfold run
    rw [hm]
    dsimp only
    rw [hl]
    exact a n (by omega)
def okZ (e : En) : Bool := match e with
  | (_, i, _, v, _, _) => match i with
    | .iconst z | .bipush z | .sipush z => decide (Int32.ofInt z = v) && decide (-2147483648 ≤ z) && decide (z < 2147483648)
    | .iinc _ z => decide (Int32.ofInt z = v)
    | .tableswitch _ lo hi offs => decide ((offs.toList.length : Int) = hi - lo + 1)
    | _ => true
def sorB : Nat → List En → Bool
  | _, [] => true
  | lo, e :: es => decide (lo ≤ e.1) && sorB (e.1 + 1) es
theorem cdAll (P : List En → Bool) (h0 : P [] = true) (h : (cd0 ++ (cd1 ++ (cd2 ++ (cd3 ++ (cd4 ++ (cd5 ++ (cd6 ++ cd7))))))).all P = true) (f : Nat) : P (cd f) = true := by
  have key : ∀ (l : List (List En)), (∀ k ∈ l, P k = true) → ∀ i : Nat, P ((l[i]?).getD []) = true := by
    intro l hl i
    cases hc : l[i]? with
    | none => exact h0
    | some k => exact hl k (List.mem_of_getElem? hc)
  have h := List.all_eq_true.mp h
  simp only [List.mem_append] at h
  unfold cd
  split
  · exact key _ (fun k hk => h k (Or.inl hk)) _
  · exact key _ (fun k hk => h k (Or.inr (Or.inl hk))) _
  · exact key _ (fun k hk => h k (Or.inr (Or.inr (Or.inl hk)))) _
  · exact key _ (fun k hk => h k (Or.inr (Or.inr (Or.inr (Or.inl hk))))) _
  · exact key _ (fun k hk => h k (Or.inr (Or.inr (Or.inr (Or.inr (Or.inl hk)))))) _
  · exact key _ (fun k hk => h k (Or.inr (Or.inr (Or.inr (Or.inr (Or.inr (Or.inl hk))))))) _
  · exact key _ (fun k hk => h k (Or.inr (Or.inr (Or.inr (Or.inr (Or.inr (Or.inr (Or.inl hk)))))))) _
  · exact key _ (fun k hk => h k (Or.inr (Or.inr (Or.inr (Or.inr (Or.inr (Or.inr (Or.inr hk)))))))) _
  · exact h0
set_option maxRecDepth 100000 in
theorem okZ_all (f : Nat) : (cd f).all okZ = true := cdAll (fun k => k.all okZ) rfl (by decide +kernel) f
set_option maxRecDepth 100000 in
theorem sorB_all (f : Nat) : sorB 0 (cd f) = true := cdAll (sorB 0) rfl (by decide +kernel) f
theorem sorB_ge : ∀ {k : List En} {lo : Nat} {e : En}, sorB lo k = true → e ∈ k → lo ≤ e.1
  | [], lo, e, _, h => absurd h List.not_mem_nil
  | q :: k, lo, e, hs, h => by
    simp only [sorB, Bool.and_eq_true, decide_eq_true_eq] at hs
    rcases List.mem_cons.mp h with rfl | h
    · exact hs.1
    · have := sorB_ge hs.2 h
      omega
theorem lkE_mem : ∀ {k : List En} {lo : Nat} {e : En}, sorB lo k = true → e ∈ k → lkE k e.1 = some e
  | [], lo, e, _, h => absurd h List.not_mem_nil
  | q :: k, lo, e, hs, h => by
    simp only [sorB, Bool.and_eq_true] at hs
    unfold lkE
    rcases List.mem_cons.mp h with rfl | h
    · rw [if_pos rfl]
    · have := sorB_ge hs.2 h
      rw [if_neg (by omega)]
      exact lkE_mem hs.2 h
theorem avL_get {ls : AL} {a : Nat} {v : AV} (h : ls[a]? = some (some v)) : (avL ls)[a]? = some (some (av v)) := by
  simp [avL, h]
theorem avL_set (ls : AL) (a : Nat) (v : AV) : avL (ls.set a (some v)) = (avL ls).set a (some (av v)) := by
  simp [avL, List.map_set]
theorem avL_len (ls : AL) : (avL ls).length = ls.length := by simp [avL]
theorem okFL_set {ls : AL} {a : Nat} {v : AV} (h : okFL ls) (hv : okF v) : okFL (ls.set a (some v)) := by
  intro w hw
  rcases List.mem_or_eq_of_mem_set hw with h1 | h1
  · exact h w h1
  · cases h1; exact hv
theorem okFS_cons {st : List AV} {v : AV} (hv : okF v) (h : okFS st) : okFS (v :: st) := by
  intro w hw
  rcases List.mem_cons.mp hw with rfl | h1
  · exact hv
  · exact h w h1
theorem okFS_tail {st : List AV} {v : AV} (h : okFS (v :: st)) : okFS st := fun w hw => h w (List.mem_cons_of_mem _ hw)
theorem okFS_head {st : List AV} {v : AV} (h : okFS (v :: st)) : okF v := h v List.mem_cons_self
theorem okF_f (x : Int) : okF (.inl (0, x)) := fun h => absurd rfl h
theorem okF_1 {x : Int} (h : inR x) (k : Nat) : okF (.inl (k, x)) := fun _ => h
theorem okFL_get {ls : AL} {a : Nat} {v : AV} (h : okFL ls) (hv : ls[a]? = some (some v)) : okF v := h v (List.mem_of_getElem? hv)
theorem rgB_spec {x : Int} (h : rgB x = true) : inR x := by
  simp only [rgB, Bool.and_eq_true, decide_eq_true_eq] at h
  exact h
theorem okF_nm (k : Bool) (x : Int) : okF (.inl (nmv k x)) := by
  cases k with
  | false => exact okF_f x
  | true =>
    cases hr : rgB x with
    | true =>
      have e : nmv true x = (2, x) := by show (match rgB x with | true => ((2, x) : NV) | false => (0, x)) = _; rw [hr]
      rw [e]
      exact okF_1 (rgB_spec hr) 2
    | false =>
      have e : nmv true x = (0, x) := by show (match rgB x with | true => ((2, x) : NV) | false => (0, x)) = _; rw [hr]
      rw [e]
      exact okF_f x
theorem av_nm (k : Bool) (x : Int) : av (.inl (nmv k x)) = .int (Int32.ofInt x) := by
  cases k with
  | false => rfl
  | true =>
    show Value.int (Int32.ofInt (match rgB x with | true => ((2, x) : NV) | false => (0, x)).2) = _
    cases rgB x <;> rfl
theorem li1_spec {x : NV} (h : li1 x = true) : vi x = x.2 := by
  obtain ⟨k, y⟩ := x
  simp only [li1, decide_eq_true_eq] at h
  subst h
  rfl
theorem li2_spec {x y : NV} (h : li2 x y = true) : vi x = x.2 ∧ vi y = y.2 := by
  obtain ⟨k, z⟩ := x
  obtain ⟨k', z'⟩ := y
  simp only [li2, Bool.and_eq_true, decide_eq_true_eq] at h
  obtain ⟨rfl, rfl⟩ := h
  exact ⟨rfl, rfl⟩
theorem brP_spec {k b : Bool} {c A B : Prop} (h : brP k b c A B) (hk : k = true → (b = true ↔ c)) : (c → A) ∧ (¬ c → B) := by
  cases k with
  | false => exact h
  | true =>
    have hk := hk rfl
    cases b with
    | true => exact ⟨fun _ => h, fun z => absurd (hk.mp rfl) z⟩
    | false => exact ⟨fun z => absurd (hk.mpr z) (by decide), fun _ => h⟩
theorem boP_spec {x : NV} {A : Prop} (h : boP x A) : (vi x = 0 ∨ vi x = 1) ∧ A := by
  unfold boP at h
  split at h
  · rename_i hl
    rw [li1_spec hl]
    split at h
    · rename_i hb
      simp only [Bool.or_eq_true, decide_eq_true_eq] at hb
      exact ⟨hb, h⟩
    · exact h.elim
  · exact h
theorem shC {N M : Nat} {G : Gm} {I : Mm} (hS : Shp N G) {r : RF} {a : Nat} (hv : okF (.inr r)) (h : tkd r.1 r.2.2 = a) : hsC (N, M, G, I) (adr r) a := ⟨(hS.1 r hv.1 hv.2).1, (hS.1 r hv.1 hv.2).2.1.trans h⟩
theorem shL {N : Nat} {G : Gm} (hS : Shp N G) {r : RF} (hv : okF (.inr r)) : (G (adr r)).2.1 = tln r.1 r.2.2 := (hS.1 r hv.1 hv.2).2.2.1
theorem shR {N : Nat} {G : Gm} (hS : Shp N G) {r : RF} {j q : Nat} (hv : okF (.inr r)) (h : trf r.1 r.2.2 j = some q) : (G (adr r)).2.2 j = some (adr (r.1, r.2.1, q)) := ((hS.1 r hv.1 hv.2).2.2.2 j q h).1
theorem trfOK : ∀ t, t < 4 → ∀ o, o < 48 → ∀ j, j < 55 → ∀ q, trf t o j = some q → ¬ tkd t q = 99 := by
  intro t ht o ho j hj q hq
  have key : ∀ t, t < 4 → ∀ o, o < 48 → ∀ j, j < 55 → (match trf t o j with | some q => decide (¬ tkd t q = 99) | none => true) = true := by decide +kernel
  have := key t ht o ho j hj
  rw [hq] at this
  exact of_decide_eq_true this
theorem ascLt : ∀ {l : List (Nat × Nat)} {j q : Nat}, asc l j = some q → (∀ e ∈ l, e.1 < 55) → j < 55
  | [], j, q, h, _ => by cases h
  | (k, z) :: l, j, q, h, hl => by
    unfold asc at h
    split at h
    · rename_i e
      rw [← e]
      exact hl (k, z) List.mem_cons_self
    · exact ascLt h (fun e he => hl e (List.mem_cons_of_mem _ he))
theorem getLt {l : List (List (Nat × Nat))} {o j q : Nat} (h : asc ((l[o]?).getD []) j = some q) (hl : ∀ k ∈ l, ∀ e ∈ k, e.1 < 55) (hn : l.length ≤ 48) : o < 48 ∧ j < 55 := by
  cases hc : l[o]? with
  | none => rw [hc] at h; cases h
  | some k =>
    rw [hc] at h
    have := (List.getElem?_eq_some_iff.mp hc).1
    exact ⟨by omega, ascLt h (hl k (List.mem_of_getElem? hc))⟩
theorem trfLt {t o j q : Nat} (h : trf t o j = some q) : t < 4 ∧ o < 48 ∧ j < 55 := by
  unfold trf at h
  split at h
  · exact ⟨by decide, getLt h (by decide) (by decide)⟩
  · exact ⟨by decide, getLt h (by decide) (by decide)⟩
  · exact ⟨by decide, getLt h (by decide) (by decide)⟩
  · exact ⟨by decide, getLt h (by decide) (by decide)⟩
  · cases h
theorem okF_rf {r : RF} {j q : Nat} (hv : okF (.inr r)) (h : trf r.1 r.2.2 j = some q) : okF (.inr (r.1, r.2.1, q)) := ⟨hv.1, trfOK _ (trfLt h).1 _ (trfLt h).2.1 _ (trfLt h).2.2 _ h⟩
theorem okF_t {j : Nat} (h : j < 8) : okF (.inr (1, 22 + 5 * j, 0)) := ⟨(show ∃ k, k < 8 ∧ 22 + 5 * j = 22 + 5 * k from ⟨j, h, rfl⟩), (by decide : ¬ tkd 1 0 = 99)⟩
theorem okF_x {j : Nat} (h : j < 6) : okF (.inr (2, 62 + 25 * j, 0)) := ⟨(show ∃ k, k < 6 ∧ 62 + 25 * j = 62 + 25 * k from ⟨j, h, rfl⟩), (by decide : ¬ tkd 2 0 = 99)⟩
theorem okl_of {N : Nat} {G : Gm} (hS : Shp N G) {ls : AL} (h : okFL ls) : okl N (avL ls) = true := by
  refine List.all_eq_true.mpr (fun o ho => ?_)
  obtain ⟨w, hw, rfl⟩ := List.mem_map.mp ho
  cases w with
  | none => rfl
  | some v =>
    have := h v hw
    cases v with
    | inl q => rfl
    | inr r => exact decide_eq_true (hS.1 r this.1 this.2).1
theorem okv_of {N : Nat} {G : Gm} (hS : Shp N G) {st : List AV} (h : okFS st) : (st.map av).all (okv N) = true ∧ (st.map av).all (oka N) = true := by
  constructor
  · refine List.all_eq_true.mpr (fun o ho => ?_)
    obtain ⟨v, hv, rfl⟩ := List.mem_map.mp ho
    have := h v hv
    cases v with
    | inl q => rfl
    | inr r => exact decide_eq_true (hS.1 r this.1 this.2).1
  · refine List.all_eq_true.mpr (fun o ho => ?_)
    obtain ⟨v, hv, rfl⟩ := List.mem_map.mp ho
    have := h v hv
    cases v with
    | inl q => rfl
    | inr r => exact decide_eq_true (hS.1 r this.1 this.2).1
theorem clamp_wr {x : Int} (h : 0 ≤ wr x) : (Int32.ofInt x).toNatClampNeg = (wr x).toNat := rfl
theorem not_ibd {x : Int} {n : Nat} (h : 0 ≤ wr x ∧ wr x < n) : ¬ ibd (Int32.ofInt x) n := by
  rintro (h1 | h1)
  · rw [Int32.lt_iff_toInt_lt] at h1
    have : (Int32.ofInt x).toInt = wr x := rfl
    rw [this, Int32.toInt_zero] at h1
    omega
  · rw [clamp_wr h.1] at h1
    omega
theorem bo_wr {x : Int} (h : wr x = 0 ∨ wr x = 1) : Int32.ofInt x = 0 ∨ Int32.ofInt x = 1 := by
  rcases h with h | h
  · left; exact Int32.toInt_inj.mp h
  · right; exact Int32.toInt_inj.mp h
theorem wtS (N M : Nat) (G : Gm) (I : Mm) (r k : Nat) (x : Int) : wrI (N, M, G, I) r k (Int32.ofInt x) = (N, M, G, wt I r k x) := rfl
theorem i_eq0 (x : Int) : Int32.ofInt x = 0 ↔ wr x = 0 := i_eq x 0
theorem i_lt0 (x : Int) : Int32.ofInt x < 0 ↔ wr x < 0 := i_lt x 0
theorem i_le0 (x : Int) : Int32.ofInt x ≤ 0 ↔ wr x ≤ 0 := i_le x 0
theorem i_gt0 (x : Int) : 0 < Int32.ofInt x ↔ 0 < wr x := i_lt 0 x
theorem i_ge0 (x : Int) : 0 ≤ Int32.ofInt x ↔ 0 ≤ wr x := i_le 0 x
theorem tln_le (t r : Nat) : tln t r ≤ 40000 := by
  unfold tln
  have key : ∀ (l : List Nat), (∀ x ∈ l, x ≤ 40000) → ∀ i : Nat, (l[i]?).getD 0 ≤ 40000 := by
    intro l hl i
    cases hc : l[i]? with
    | none => simp
    | some k => exact hl k (List.mem_of_getElem? hc)
  split
  · exact key _ (by decide) _
  · exact key _ (by decide) _
  · exact key _ (by decide) _
  · exact key _ (by decide) _
  · decide
theorem tln_in (t r : Nat) : inR (tln t r : Int) := by
  have := tln_le t r
  unfold inR
  omega
theorem nz_of {y : Int} (h : 0 < wr y) : ¬ Int32.ofInt y = 0 := by
  intro e
  have : wr y = wr 0 := (i_eq y 0).mp e
  have h0 : wr 0 = 0 := rfl
  omega
theorem div_in {x y : Int} (hx : inR x) (h0 : 0 ≤ x) (h9 : 0 < y) : inR (x / y) := by
  have h1 : 0 ≤ x / y := Int.ediv_nonneg h0 (by omega)
  have h2 : x / y ≤ x := Int.ediv_le_self y h0
  unfold inR at hx ⊢
  omega
theorem mod_in {x y : Int} (hx : inR x) (h0 : 0 ≤ x) (h9 : 0 < y) : inR (x % y) := by
  have h1 : 0 ≤ x % y := Int.emod_nonneg x (by omega)
  have h2 : x % y ≤ x := by
    have := Int.mul_ediv_add_emod x y
    have h3 : 0 ≤ y * (x / y) := Int.mul_nonneg (by omega) (Int.ediv_nonneg h0 (by omega))
    omega
  unfold inR at hx ⊢
  omega
theorem div_wr {x y : Int} (h0 : 0 ≤ wr x) (h9 : 0 < wr y) : Int32.ofInt x / Int32.ofInt y = Int32.ofInt (wr x / wr y) := by
  apply Int32.toInt_inj.mp
  have e1 : (Int32.ofInt (wr x / wr y)).toInt = wr x / wr y := wr_of (div_in (wr_in x) h0 h9)
  rw [e1, Int32.toInt_div_of_ne_right]
  · show (wr x).tdiv (wr y) = _
    rw [Int.tdiv_eq_ediv_of_nonneg h0]
  · intro e
    have : wr y = wr (-1) := (i_eq y (-1)).mp e
    have h1 : wr (-1) = -1 := rfl
    omega
theorem mod_wr {x y : Int} (h0 : 0 ≤ wr x) (h9 : 0 < wr y) : Int32.ofInt x - Int32.ofInt x / Int32.ofInt y * Int32.ofInt y = Int32.ofInt (wr x % wr y) := by
  rw [div_wr h0 h9]
  have e : wr x % wr y = wr x - wr x / wr y * wr y := by
    have := Int.mul_ediv_add_emod (wr x) (wr y)
    rw [Int.mul_comm] at this
    omega
  rw [e, Int32.ofInt_sub, Int32.ofInt_mul, of_wr, of_wr]
theorem sv_iconst {f : Nat} {mm : MT} {pc n a b : Nat} {v : Int32} {ls : AL} {st : List AV} {I : Mm} {P : Option Value → Mm → Prop} {kn : Nat → AL → List AV → Mm → Prop} {cz : Nat → List AV → Mm → (NV → Mm → Prop) → Prop} {cv : Nat → List AV → Mm → (Mm → Prop) → Prop} {cr : Nat → List AV → Mm → (RF → Mm → Prop) → Prop} {rt : AR → Mm → Prop} (hm : mT f = some mm) (hls : okFL ls) (hst : okFS st) (hkn : ∀ pc ls st I, okFL ls → okFS st → kn pc ls st I → GoI f pc (avL ls) (st.map av) I P) {z : Int} (hl : lkE (cd f) pc = some (pc, .iconst z, n, v, a, b)) (hz : okZ (pc, .iconst z, n, v, a, b) = true) (h : vst mm (pc, .iconst z, n, v, a, b) ls st I kn cz cv cr rt) : GoI f pc (avL ls) (st.map av) I P := by
  simp only [okZ, Bool.and_eq_true, decide_eq_true_eq] at hz
  have h : kn (pc + n) ls (.inl (2, z) :: st) I := h
  have K := hkn _ _ _ _ hls (okFS_cons (okF_1 ⟨hz.1.2, hz.2⟩ 2) hst) h
  refine GoI.of_stp hm hl ?_
  intro N M G hS
  obtain ⟨n0, r0, I0, h1, h2⟩ := K N M G hS
  refine ⟨n0, r0, I0, fun n9 hn => ?_, h2⟩
  show run n9 none f (pc + n) (avL ls) (.int v :: st.map av) (N, M, G, I) = _
  rw [← hz.1.1]
  exact h1 n9 hn
theorem sv_bipush {f : Nat} {mm : MT} {pc n a b : Nat} {v : Int32} {ls : AL} {st : List AV} {I : Mm} {P : Option Value → Mm → Prop} {kn : Nat → AL → List AV → Mm → Prop} {cz : Nat → List AV → Mm → (NV → Mm → Prop) → Prop} {cv : Nat → List AV → Mm → (Mm → Prop) → Prop} {cr : Nat → List AV → Mm → (RF → Mm → Prop) → Prop} {rt : AR → Mm → Prop} (hm : mT f = some mm) (hls : okFL ls) (hst : okFS st) (hkn : ∀ pc ls st I, okFL ls → okFS st → kn pc ls st I → GoI f pc (avL ls) (st.map av) I P) {z : Int} (hl : lkE (cd f) pc = some (pc, .bipush z, n, v, a, b)) (hz : okZ (pc, .bipush z, n, v, a, b) = true) (h : vst mm (pc, .bipush z, n, v, a, b) ls st I kn cz cv cr rt) : GoI f pc (avL ls) (st.map av) I P := by
  simp only [okZ, Bool.and_eq_true, decide_eq_true_eq] at hz
  have h : kn (pc + n) ls (.inl (2, z) :: st) I := h
  have K := hkn _ _ _ _ hls (okFS_cons (okF_1 ⟨hz.1.2, hz.2⟩ 2) hst) h
  refine GoI.of_stp hm hl ?_
  intro N M G hS
  obtain ⟨n0, r0, I0, h1, h2⟩ := K N M G hS
  refine ⟨n0, r0, I0, fun n9 hn => ?_, h2⟩
  show run n9 none f (pc + n) (avL ls) (.int v :: st.map av) (N, M, G, I) = _
  rw [← hz.1.1]
  exact h1 n9 hn
theorem sv_sipush {f : Nat} {mm : MT} {pc n a b : Nat} {v : Int32} {ls : AL} {st : List AV} {I : Mm} {P : Option Value → Mm → Prop} {kn : Nat → AL → List AV → Mm → Prop} {cz : Nat → List AV → Mm → (NV → Mm → Prop) → Prop} {cv : Nat → List AV → Mm → (Mm → Prop) → Prop} {cr : Nat → List AV → Mm → (RF → Mm → Prop) → Prop} {rt : AR → Mm → Prop} (hm : mT f = some mm) (hls : okFL ls) (hst : okFS st) (hkn : ∀ pc ls st I, okFL ls → okFS st → kn pc ls st I → GoI f pc (avL ls) (st.map av) I P) {z : Int} (hl : lkE (cd f) pc = some (pc, .sipush z, n, v, a, b)) (hz : okZ (pc, .sipush z, n, v, a, b) = true) (h : vst mm (pc, .sipush z, n, v, a, b) ls st I kn cz cv cr rt) : GoI f pc (avL ls) (st.map av) I P := by
  simp only [okZ, Bool.and_eq_true, decide_eq_true_eq] at hz
  have h : kn (pc + n) ls (.inl (2, z) :: st) I := h
  have K := hkn _ _ _ _ hls (okFS_cons (okF_1 ⟨hz.1.2, hz.2⟩ 2) hst) h
  refine GoI.of_stp hm hl ?_
  intro N M G hS
  obtain ⟨n0, r0, I0, h1, h2⟩ := K N M G hS
  refine ⟨n0, r0, I0, fun n9 hn => ?_, h2⟩
  show run n9 none f (pc + n) (avL ls) (.int v :: st.map av) (N, M, G, I) = _
  rw [← hz.1.1]
  exact h1 n9 hn
theorem sv_ldc {f : Nat} {mm : MT} {pc n a b : Nat} {v : Int32} {ls : AL} {st : List AV} {I : Mm} {P : Option Value → Mm → Prop} {kn : Nat → AL → List AV → Mm → Prop} {cz : Nat → List AV → Mm → (NV → Mm → Prop) → Prop} {cv : Nat → List AV → Mm → (Mm → Prop) → Prop} {cr : Nat → List AV → Mm → (RF → Mm → Prop) → Prop} {rt : AR → Mm → Prop} (hm : mT f = some mm) (hls : okFL ls) (hst : okFS st) (hkn : ∀ pc ls st I, okFL ls → okFS st → kn pc ls st I → GoI f pc (avL ls) (st.map av) I P) {z : Nat} (hl : lkE (cd f) pc = some (pc, .ldc z, n, v, a, b)) (h : vst mm (pc, .ldc z, n, v, a, b) ls st I kn cz cv cr rt) : GoI f pc (avL ls) (st.map av) I P := by
  have h : kn (pc + n) ls (.inl (1, v.toInt) :: st) I := h
  have K := hkn _ _ _ _ hls (okFS_cons (okF_1 (x := v.toInt) (rd_in (fun _ _ => v) 0 0) 1) hst) h
  refine GoI.of_stp hm hl ?_
  intro N M G hS
  obtain ⟨n0, r0, I0, h1, h2⟩ := K N M G hS
  refine ⟨n0, r0, I0, fun n9 hn => ?_, h2⟩
  show run n9 none f (pc + n) (avL ls) (.int v :: st.map av) (N, M, G, I) = _
  have e : av (.inl (1, v.toInt)) = .int v := by show Value.int (Int32.ofInt v.toInt) = _; rw [Int32.ofInt_toInt]
  rw [List.map_cons, e] at h1
  exact h1 n9 hn
theorem sv_iload {f : Nat} {mm : MT} {pc n a b : Nat} {v : Int32} {ls : AL} {st : List AV} {I : Mm} {P : Option Value → Mm → Prop} {kn : Nat → AL → List AV → Mm → Prop} {cz : Nat → List AV → Mm → (NV → Mm → Prop) → Prop} {cv : Nat → List AV → Mm → (Mm → Prop) → Prop} {cr : Nat → List AV → Mm → (RF → Mm → Prop) → Prop} {rt : AR → Mm → Prop} (hm : mT f = some mm) (hls : okFL ls) (hst : okFS st) (hkn : ∀ pc ls st I, okFL ls → okFS st → kn pc ls st I → GoI f pc (avL ls) (st.map av) I P) {z : Nat} (hl : lkE (cd f) pc = some (pc, .iload z, n, v, a, b)) (h : vst mm (pc, .iload z, n, v, a, b) ls st I kn cz cv cr rt) : GoI f pc (avL ls) (st.map av) I P := by
  simp only [vst] at h
  split at h
  · rename_i q hq
    have K := hkn _ _ _ _ hls (okFS_cons (okFL_get hls hq) hst) h
    refine GoI.of_stp hm hl ?_
    intro N M G hS
    obtain ⟨n0, r0, I0, h1, h2⟩ := K N M G hS
    refine ⟨n0, r0, I0, fun n9 hn => ?_, h2⟩
    simp only [stp, avL_get hq, av]
    exact h1 n9 hn
  · exact h.elim
theorem sv_iload_n {f : Nat} {mm : MT} {pc n a b : Nat} {v : Int32} {ls : AL} {st : List AV} {I : Mm} {P : Option Value → Mm → Prop} {kn : Nat → AL → List AV → Mm → Prop} {cz : Nat → List AV → Mm → (NV → Mm → Prop) → Prop} {cv : Nat → List AV → Mm → (Mm → Prop) → Prop} {cr : Nat → List AV → Mm → (RF → Mm → Prop) → Prop} {rt : AR → Mm → Prop} (hm : mT f = some mm) (hls : okFL ls) (hst : okFS st) (hkn : ∀ pc ls st I, okFL ls → okFS st → kn pc ls st I → GoI f pc (avL ls) (st.map av) I P) {z : Fin 4} (hl : lkE (cd f) pc = some (pc, .iload_n z, n, v, a, b)) (h : vst mm (pc, .iload_n z, n, v, a, b) ls st I kn cz cv cr rt) : GoI f pc (avL ls) (st.map av) I P := by
  simp only [vst] at h
  split at h
  · rename_i q hq
    have K := hkn _ _ _ _ hls (okFS_cons (okFL_get hls hq) hst) h
    refine GoI.of_stp hm hl ?_
    intro N M G hS
    obtain ⟨n0, r0, I0, h1, h2⟩ := K N M G hS
    refine ⟨n0, r0, I0, fun n9 hn => ?_, h2⟩
    simp only [stp, avL_get hq, av]
    exact h1 n9 hn
  · exact h.elim
theorem sv_aload {f : Nat} {mm : MT} {pc n a b : Nat} {v : Int32} {ls : AL} {st : List AV} {I : Mm} {P : Option Value → Mm → Prop} {kn : Nat → AL → List AV → Mm → Prop} {cz : Nat → List AV → Mm → (NV → Mm → Prop) → Prop} {cv : Nat → List AV → Mm → (Mm → Prop) → Prop} {cr : Nat → List AV → Mm → (RF → Mm → Prop) → Prop} {rt : AR → Mm → Prop} (hm : mT f = some mm) (hls : okFL ls) (hst : okFS st) (hkn : ∀ pc ls st I, okFL ls → okFS st → kn pc ls st I → GoI f pc (avL ls) (st.map av) I P) {z : Nat} (hl : lkE (cd f) pc = some (pc, .aload z, n, v, a, b)) (h : vst mm (pc, .aload z, n, v, a, b) ls st I kn cz cv cr rt) : GoI f pc (avL ls) (st.map av) I P := by
  simp only [vst] at h
  split at h
  · rename_i q hq
    have K := hkn _ _ _ _ hls (okFS_cons (okFL_get hls hq) hst) h
    refine GoI.of_stp hm hl ?_
    intro N M G hS
    obtain ⟨n0, r0, I0, h1, h2⟩ := K N M G hS
    refine ⟨n0, r0, I0, fun n9 hn => ?_, h2⟩
    simp only [stp, avL_get hq, av]
    exact h1 n9 hn
  · exact h.elim
theorem sv_aload_n {f : Nat} {mm : MT} {pc n a b : Nat} {v : Int32} {ls : AL} {st : List AV} {I : Mm} {P : Option Value → Mm → Prop} {kn : Nat → AL → List AV → Mm → Prop} {cz : Nat → List AV → Mm → (NV → Mm → Prop) → Prop} {cv : Nat → List AV → Mm → (Mm → Prop) → Prop} {cr : Nat → List AV → Mm → (RF → Mm → Prop) → Prop} {rt : AR → Mm → Prop} (hm : mT f = some mm) (hls : okFL ls) (hst : okFS st) (hkn : ∀ pc ls st I, okFL ls → okFS st → kn pc ls st I → GoI f pc (avL ls) (st.map av) I P) {z : Fin 4} (hl : lkE (cd f) pc = some (pc, .aload_n z, n, v, a, b)) (h : vst mm (pc, .aload_n z, n, v, a, b) ls st I kn cz cv cr rt) : GoI f pc (avL ls) (st.map av) I P := by
  simp only [vst] at h
  split at h
  · rename_i q hq
    have K := hkn _ _ _ _ hls (okFS_cons (okFL_get hls hq) hst) h
    refine GoI.of_stp hm hl ?_
    intro N M G hS
    obtain ⟨n0, r0, I0, h1, h2⟩ := K N M G hS
    refine ⟨n0, r0, I0, fun n9 hn => ?_, h2⟩
    simp only [stp, avL_get hq, av]
    exact h1 n9 hn
  · exact h.elim
theorem sv_istore {f : Nat} {mm : MT} {pc n a b : Nat} {v : Int32} {ls : AL} {st : List AV} {I : Mm} {P : Option Value → Mm → Prop} {kn : Nat → AL → List AV → Mm → Prop} {cz : Nat → List AV → Mm → (NV → Mm → Prop) → Prop} {cv : Nat → List AV → Mm → (Mm → Prop) → Prop} {cr : Nat → List AV → Mm → (RF → Mm → Prop) → Prop} {rt : AR → Mm → Prop} (hm : mT f = some mm) (hls : okFL ls) (hst : okFS st) (hkn : ∀ pc ls st I, okFL ls → okFS st → kn pc ls st I → GoI f pc (avL ls) (st.map av) I P) {z : Nat} (hl : lkE (cd f) pc = some (pc, .istore z, n, v, a, b)) (h : vst mm (pc, .istore z, n, v, a, b) ls st I kn cz cv cr rt) : GoI f pc (avL ls) (st.map av) I P := by
  simp only [vst] at h
  split at h
  · rename_i q st'
    have hv := okFS_head hst
    split at h
    · rename_i ha
      split at h
      · have K := hkn _ _ _ _ (okFL_set hls hv) (okFS_tail hst) h
        rw [avL_set] at K
        refine GoI.of_stp hm hl ?_
        intro N M G hS
        obtain ⟨n0, r0, I0, h1, h2⟩ := K N M G hS
        refine ⟨n0, r0, I0, fun n9 hn => ?_, h2⟩
        simp only [stp, List.map_cons, av]
        rw [if_pos (by rw [avL_len]; exact ha)]
        exact h1 n9 hn
      · have hin : inR (vi q) := by rw [vi_wr hv]; exact wr_in _
        have K := hkn _ _ _ _ (okFL_set hls (okF_1 hin 1)) (okFS_tail hst) (h _ rfl hin)
        rw [avL_set] at K
        have e : av (.inl (1, vi q)) = .int (Int32.ofInt q.2) := by show Value.int (Int32.ofInt (vi q)) = _; rw [vi_wr hv, of_wr]
        rw [e] at K
        refine GoI.of_stp hm hl ?_
        intro N M G hS
        obtain ⟨n0, r0, I0, h1, h2⟩ := K N M G hS
        refine ⟨n0, r0, I0, fun n9 hn => ?_, h2⟩
        simp only [stp, List.map_cons, av]
        rw [if_pos (by rw [avL_len]; exact ha)]
        exact h1 n9 hn
    · exact h.elim
  · exact h.elim
theorem sv_istore_n {f : Nat} {mm : MT} {pc n a b : Nat} {v : Int32} {ls : AL} {st : List AV} {I : Mm} {P : Option Value → Mm → Prop} {kn : Nat → AL → List AV → Mm → Prop} {cz : Nat → List AV → Mm → (NV → Mm → Prop) → Prop} {cv : Nat → List AV → Mm → (Mm → Prop) → Prop} {cr : Nat → List AV → Mm → (RF → Mm → Prop) → Prop} {rt : AR → Mm → Prop} (hm : mT f = some mm) (hls : okFL ls) (hst : okFS st) (hkn : ∀ pc ls st I, okFL ls → okFS st → kn pc ls st I → GoI f pc (avL ls) (st.map av) I P) {z : Fin 4} (hl : lkE (cd f) pc = some (pc, .istore_n z, n, v, a, b)) (h : vst mm (pc, .istore_n z, n, v, a, b) ls st I kn cz cv cr rt) : GoI f pc (avL ls) (st.map av) I P := by
  simp only [vst] at h
  split at h
  · rename_i q st'
    have hv := okFS_head hst
    split at h
    · rename_i ha
      split at h
      · have K := hkn _ _ _ _ (okFL_set hls hv) (okFS_tail hst) h
        rw [avL_set] at K
        refine GoI.of_stp hm hl ?_
        intro N M G hS
        obtain ⟨n0, r0, I0, h1, h2⟩ := K N M G hS
        refine ⟨n0, r0, I0, fun n9 hn => ?_, h2⟩
        simp only [stp, List.map_cons, av]
        rw [if_pos (by rw [avL_len]; exact ha)]
        exact h1 n9 hn
      · have hin : inR (vi q) := by rw [vi_wr hv]; exact wr_in _
        have K := hkn _ _ _ _ (okFL_set hls (okF_1 hin 1)) (okFS_tail hst) (h _ rfl hin)
        rw [avL_set] at K
        have e : av (.inl (1, vi q)) = .int (Int32.ofInt q.2) := by show Value.int (Int32.ofInt (vi q)) = _; rw [vi_wr hv, of_wr]
        rw [e] at K
        refine GoI.of_stp hm hl ?_
        intro N M G hS
        obtain ⟨n0, r0, I0, h1, h2⟩ := K N M G hS
        refine ⟨n0, r0, I0, fun n9 hn => ?_, h2⟩
        simp only [stp, List.map_cons, av]
        rw [if_pos (by rw [avL_len]; exact ha)]
        exact h1 n9 hn
    · exact h.elim
  · exact h.elim
theorem sv_astore {f : Nat} {mm : MT} {pc n a b : Nat} {v : Int32} {ls : AL} {st : List AV} {I : Mm} {P : Option Value → Mm → Prop} {kn : Nat → AL → List AV → Mm → Prop} {cz : Nat → List AV → Mm → (NV → Mm → Prop) → Prop} {cv : Nat → List AV → Mm → (Mm → Prop) → Prop} {cr : Nat → List AV → Mm → (RF → Mm → Prop) → Prop} {rt : AR → Mm → Prop} (hm : mT f = some mm) (hls : okFL ls) (hst : okFS st) (hkn : ∀ pc ls st I, okFL ls → okFS st → kn pc ls st I → GoI f pc (avL ls) (st.map av) I P) {z : Nat} (hl : lkE (cd f) pc = some (pc, .astore z, n, v, a, b)) (h : vst mm (pc, .astore z, n, v, a, b) ls st I kn cz cv cr rt) : GoI f pc (avL ls) (st.map av) I P := by
  simp only [vst] at h
  split at h
  · rename_i q st'
    split at h
    · rename_i ha
      have K := hkn _ _ _ _ (okFL_set hls (okFS_head hst)) (okFS_tail hst) h
      rw [avL_set] at K
      refine GoI.of_stp hm hl ?_
      intro N M G hS
      obtain ⟨n0, r0, I0, h1, h2⟩ := K N M G hS
      refine ⟨n0, r0, I0, fun n9 hn => ?_, h2⟩
      simp only [stp, List.map_cons, av]
      rw [if_pos (by rw [avL_len]; exact ha)]
      exact h1 n9 hn
    · exact h.elim
  · exact h.elim
theorem sv_astore_n {f : Nat} {mm : MT} {pc n a b : Nat} {v : Int32} {ls : AL} {st : List AV} {I : Mm} {P : Option Value → Mm → Prop} {kn : Nat → AL → List AV → Mm → Prop} {cz : Nat → List AV → Mm → (NV → Mm → Prop) → Prop} {cv : Nat → List AV → Mm → (Mm → Prop) → Prop} {cr : Nat → List AV → Mm → (RF → Mm → Prop) → Prop} {rt : AR → Mm → Prop} (hm : mT f = some mm) (hls : okFL ls) (hst : okFS st) (hkn : ∀ pc ls st I, okFL ls → okFS st → kn pc ls st I → GoI f pc (avL ls) (st.map av) I P) {z : Fin 4} (hl : lkE (cd f) pc = some (pc, .astore_n z, n, v, a, b)) (h : vst mm (pc, .astore_n z, n, v, a, b) ls st I kn cz cv cr rt) : GoI f pc (avL ls) (st.map av) I P := by
  simp only [vst] at h
  split at h
  · rename_i q st'
    split at h
    · rename_i ha
      have K := hkn _ _ _ _ (okFL_set hls (okFS_head hst)) (okFS_tail hst) h
      rw [avL_set] at K
      refine GoI.of_stp hm hl ?_
      intro N M G hS
      obtain ⟨n0, r0, I0, h1, h2⟩ := K N M G hS
      refine ⟨n0, r0, I0, fun n9 hn => ?_, h2⟩
      simp only [stp, List.map_cons, av]
      rw [if_pos (by rw [avL_len]; exact ha)]
      exact h1 n9 hn
    · exact h.elim
  · exact h.elim
theorem sv_iinc {f : Nat} {mm : MT} {pc n a b : Nat} {v : Int32} {ls : AL} {st : List AV} {I : Mm} {P : Option Value → Mm → Prop} {kn : Nat → AL → List AV → Mm → Prop} {cz : Nat → List AV → Mm → (NV → Mm → Prop) → Prop} {cv : Nat → List AV → Mm → (Mm → Prop) → Prop} {cr : Nat → List AV → Mm → (RF → Mm → Prop) → Prop} {rt : AR → Mm → Prop} (hm : mT f = some mm) (hls : okFL ls) (hst : okFS st) (hkn : ∀ pc ls st I, okFL ls → okFS st → kn pc ls st I → GoI f pc (avL ls) (st.map av) I P) {z : Nat} {y : Int} (hl : lkE (cd f) pc = some (pc, .iinc z y, n, v, a, b)) (hz : okZ (pc, .iinc z y, n, v, a, b) = true) (h : vst mm (pc, .iinc z y, n, v, a, b) ls st I kn cz cv cr rt) : GoI f pc (avL ls) (st.map av) I P := by
  simp only [okZ, decide_eq_true_eq] at hz
  simp only [vst] at h
  split at h
  · rename_i q hq
    split at h
    · have K := hkn _ _ _ _ (okFL_set hls (okF_nm _ _)) hst h
      rw [avL_set] at K
      refine GoI.of_stp hm hl ?_
      intro N M G hS
      obtain ⟨n0, r0, I0, h1, h2⟩ := K N M G hS
      refine ⟨n0, r0, I0, fun n9 hn => ?_, h2⟩
      simp only [stp, avL_get hq, av]
      rw [av_nm, Int32.ofInt_add, hz] at h1
      exact h1 n9 hn
    · have K := hkn _ _ _ _ (okFL_set hls (okF_1 (wr_in (q.2 + y)) 1)) hst (h _ rfl (wr_in _))
      rw [avL_set] at K
      have e : av (.inl (1, wr (q.2 + y))) = .int (Int32.ofInt (q.2 + y)) := by show Value.int (Int32.ofInt (wr (q.2 + y))) = _; rw [of_wr]
      rw [e] at K
      refine GoI.of_stp hm hl ?_
      intro N M G hS
      obtain ⟨n0, r0, I0, h1, h2⟩ := K N M G hS
      refine ⟨n0, r0, I0, fun n9 hn => ?_, h2⟩
      simp only [stp, avL_get hq, av]
      rw [Int32.ofInt_add, hz] at h1
      exact h1 n9 hn
  · exact h.elim
theorem sv_iadd {f : Nat} {mm : MT} {pc n a b : Nat} {v : Int32} {ls : AL} {st : List AV} {I : Mm} {P : Option Value → Mm → Prop} {kn : Nat → AL → List AV → Mm → Prop} {cz : Nat → List AV → Mm → (NV → Mm → Prop) → Prop} {cv : Nat → List AV → Mm → (Mm → Prop) → Prop} {cr : Nat → List AV → Mm → (RF → Mm → Prop) → Prop} {rt : AR → Mm → Prop} (hm : mT f = some mm) (hls : okFL ls) (hst : okFS st) (hkn : ∀ pc ls st I, okFL ls → okFS st → kn pc ls st I → GoI f pc (avL ls) (st.map av) I P) (hl : lkE (cd f) pc = some (pc, .iadd, n, v, a, b)) (h : vst mm (pc, .iadd, n, v, a, b) ls st I kn cz cv cr rt) : GoI f pc (avL ls) (st.map av) I P := by
  simp only [vst] at h
  split at h
  · rename_i y x st'
    have K := hkn _ _ _ _ hls (okFS_cons (okF_nm _ _) (okFS_tail (okFS_tail hst))) h
    refine GoI.of_stp hm hl ?_
    intro N M G hS
    obtain ⟨n0, r0, I0, h1, h2⟩ := K N M G hS
    refine ⟨n0, r0, I0, fun n9 hn => ?_, h2⟩
    simp only [stp, List.map_cons, av]
    rw [List.map_cons, av_nm, Int32.ofInt_add] at h1
    exact h1 n9 hn
  · exact h.elim
theorem sv_isub {f : Nat} {mm : MT} {pc n a b : Nat} {v : Int32} {ls : AL} {st : List AV} {I : Mm} {P : Option Value → Mm → Prop} {kn : Nat → AL → List AV → Mm → Prop} {cz : Nat → List AV → Mm → (NV → Mm → Prop) → Prop} {cv : Nat → List AV → Mm → (Mm → Prop) → Prop} {cr : Nat → List AV → Mm → (RF → Mm → Prop) → Prop} {rt : AR → Mm → Prop} (hm : mT f = some mm) (hls : okFL ls) (hst : okFS st) (hkn : ∀ pc ls st I, okFL ls → okFS st → kn pc ls st I → GoI f pc (avL ls) (st.map av) I P) (hl : lkE (cd f) pc = some (pc, .isub, n, v, a, b)) (h : vst mm (pc, .isub, n, v, a, b) ls st I kn cz cv cr rt) : GoI f pc (avL ls) (st.map av) I P := by
  simp only [vst] at h
  split at h
  · rename_i y x st'
    have K := hkn _ _ _ _ hls (okFS_cons (okF_nm _ _) (okFS_tail (okFS_tail hst))) h
    refine GoI.of_stp hm hl ?_
    intro N M G hS
    obtain ⟨n0, r0, I0, h1, h2⟩ := K N M G hS
    refine ⟨n0, r0, I0, fun n9 hn => ?_, h2⟩
    simp only [stp, List.map_cons, av]
    rw [List.map_cons, av_nm, Int32.ofInt_sub] at h1
    exact h1 n9 hn
  · exact h.elim
theorem sv_imul {f : Nat} {mm : MT} {pc n a b : Nat} {v : Int32} {ls : AL} {st : List AV} {I : Mm} {P : Option Value → Mm → Prop} {kn : Nat → AL → List AV → Mm → Prop} {cz : Nat → List AV → Mm → (NV → Mm → Prop) → Prop} {cv : Nat → List AV → Mm → (Mm → Prop) → Prop} {cr : Nat → List AV → Mm → (RF → Mm → Prop) → Prop} {rt : AR → Mm → Prop} (hm : mT f = some mm) (hls : okFL ls) (hst : okFS st) (hkn : ∀ pc ls st I, okFL ls → okFS st → kn pc ls st I → GoI f pc (avL ls) (st.map av) I P) (hl : lkE (cd f) pc = some (pc, .imul, n, v, a, b)) (h : vst mm (pc, .imul, n, v, a, b) ls st I kn cz cv cr rt) : GoI f pc (avL ls) (st.map av) I P := by
  simp only [vst] at h
  split at h
  · rename_i y x st'
    have K := hkn _ _ _ _ hls (okFS_cons (okF_nm _ _) (okFS_tail (okFS_tail hst))) h
    refine GoI.of_stp hm hl ?_
    intro N M G hS
    obtain ⟨n0, r0, I0, h1, h2⟩ := K N M G hS
    refine ⟨n0, r0, I0, fun n9 hn => ?_, h2⟩
    simp only [stp, List.map_cons, av]
    rw [List.map_cons, av_nm, Int32.ofInt_mul] at h1
    exact h1 n9 hn
  · exact h.elim
theorem sv_dup {f : Nat} {mm : MT} {pc n a b : Nat} {v : Int32} {ls : AL} {st : List AV} {I : Mm} {P : Option Value → Mm → Prop} {kn : Nat → AL → List AV → Mm → Prop} {cz : Nat → List AV → Mm → (NV → Mm → Prop) → Prop} {cv : Nat → List AV → Mm → (Mm → Prop) → Prop} {cr : Nat → List AV → Mm → (RF → Mm → Prop) → Prop} {rt : AR → Mm → Prop} (hm : mT f = some mm) (hls : okFL ls) (hst : okFS st) (hkn : ∀ pc ls st I, okFL ls → okFS st → kn pc ls st I → GoI f pc (avL ls) (st.map av) I P) (hl : lkE (cd f) pc = some (pc, .dup, n, v, a, b)) (h : vst mm (pc, .dup, n, v, a, b) ls st I kn cz cv cr rt) : GoI f pc (avL ls) (st.map av) I P := by
  simp only [vst] at h
  split at h
  · rename_i x st'
    have K := hkn _ _ _ _ hls (okFS_cons (okFS_head hst) hst) h
    rcases x with q | q
    · refine GoI.of_stp hm hl ?_
      intro N M G hS
      obtain ⟨n0, r0, I0, h1, h2⟩ := K N M G hS
      refine ⟨n0, r0, I0, fun n9 hn => ?_, h2⟩
      simp only [stp, List.map_cons, av]
      exact h1 n9 hn
    · refine GoI.of_stp hm hl ?_
      intro N M G hS
      obtain ⟨n0, r0, I0, h1, h2⟩ := K N M G hS
      refine ⟨n0, r0, I0, fun n9 hn => ?_, h2⟩
      simp only [stp, List.map_cons, av]
      exact h1 n9 hn
  · exact h.elim
theorem sv_dup2 {f : Nat} {mm : MT} {pc n a b : Nat} {v : Int32} {ls : AL} {st : List AV} {I : Mm} {P : Option Value → Mm → Prop} {kn : Nat → AL → List AV → Mm → Prop} {cz : Nat → List AV → Mm → (NV → Mm → Prop) → Prop} {cv : Nat → List AV → Mm → (Mm → Prop) → Prop} {cr : Nat → List AV → Mm → (RF → Mm → Prop) → Prop} {rt : AR → Mm → Prop} (hm : mT f = some mm) (hls : okFL ls) (hst : okFS st) (hkn : ∀ pc ls st I, okFL ls → okFS st → kn pc ls st I → GoI f pc (avL ls) (st.map av) I P) (hl : lkE (cd f) pc = some (pc, .dup2, n, v, a, b)) (h : vst mm (pc, .dup2, n, v, a, b) ls st I kn cz cv cr rt) : GoI f pc (avL ls) (st.map av) I P := by
  simp only [vst] at h
  split at h
  · rename_i x y st'
    have K := hkn _ _ _ _ hls (okFS_cons (okFS_head hst) (okFS_cons (okFS_head (okFS_tail hst)) hst)) h
    refine GoI.of_stp hm hl ?_
    intro N M G hS
    obtain ⟨n0, r0, I0, h1, h2⟩ := K N M G hS
    refine ⟨n0, r0, I0, fun n9 hn => ?_, h2⟩
    simp only [stp, List.map_cons, av]
    exact h1 n9 hn
  · exact h.elim
theorem sv_goto {f : Nat} {mm : MT} {pc n a b : Nat} {v : Int32} {ls : AL} {st : List AV} {I : Mm} {P : Option Value → Mm → Prop} {kn : Nat → AL → List AV → Mm → Prop} {cz : Nat → List AV → Mm → (NV → Mm → Prop) → Prop} {cv : Nat → List AV → Mm → (Mm → Prop) → Prop} {cr : Nat → List AV → Mm → (RF → Mm → Prop) → Prop} {rt : AR → Mm → Prop} (hm : mT f = some mm) (hls : okFL ls) (hst : okFS st) (hkn : ∀ pc ls st I, okFL ls → okFS st → kn pc ls st I → GoI f pc (avL ls) (st.map av) I P) {z : Int} (hl : lkE (cd f) pc = some (pc, .goto z, n, v, a, b)) (h : vst mm (pc, .goto z, n, v, a, b) ls st I kn cz cv cr rt) : GoI f pc (avL ls) (st.map av) I P := by
  have h : kn a ls st I := h
  have K := hkn _ _ _ _ hls hst h
  refine GoI.of_stp hm hl ?_
  intro N M G hS
  obtain ⟨n0, r0, I0, h1, h2⟩ := K N M G hS
  refine ⟨n0, r0, I0, fun n9 hn => ?_, h2⟩
  exact h1 n9 hn
theorem sv_getfield {f : Nat} {mm : MT} {pc n a b : Nat} {v : Int32} {ls : AL} {st : List AV} {I : Mm} {P : Option Value → Mm → Prop} {kn : Nat → AL → List AV → Mm → Prop} {cz : Nat → List AV → Mm → (NV → Mm → Prop) → Prop} {cv : Nat → List AV → Mm → (Mm → Prop) → Prop} {cr : Nat → List AV → Mm → (RF → Mm → Prop) → Prop} {rt : AR → Mm → Prop} (hm : mT f = some mm) (hls : okFL ls) (hst : okFS st) (hkn : ∀ pc ls st I, okFL ls → okFS st → kn pc ls st I → GoI f pc (avL ls) (st.map av) I P) {z : Nat} (hl : lkE (cd f) pc = some (pc, .getfield z, n, v, a, b)) (h : vst mm (pc, .getfield z, n, v, a, b) ls st I kn cz cv cr rt) : GoI f pc (avL ls) (st.map av) I P := by
  simp only [vst] at h
  split at h
  · rename_i rr st'
    have hv := okFS_head hst
    split at h
    · rename_i hA
      split at h
      · rename_i hft
        split at h
        · rename_i q hq
          have K := hkn _ _ _ _ hls (okFS_cons (okF_rf hv hq) (okFS_tail hst)) h
          refine GoI.of_stp hm hl ?_
          intro N M G hS
          obtain ⟨n0, r0, I0, h1, h2⟩ := K N M G hS
          refine ⟨n0, r0, I0, fun n9 hn => ?_, h2⟩
          simp only [stp, List.map_cons, av]
          rw [if_pos (shC hS hv hA), hft]
          simp only [shR hS hv hq]
          exact h1 n9 hn
        · exact h.elim
      · rename_i t hne hft
        have K := hkn _ _ _ _ hls (okFS_cons (okF_1 (rd_in I (adr rr) b) 1) (okFS_tail hst)) h
        refine GoI.of_stp hm hl ?_
        intro N M G hS
        obtain ⟨n0, r0, I0, h1, h2⟩ := K N M G hS
        refine ⟨n0, r0, I0, fun n9 hn => ?_, h2⟩
        simp only [stp, List.map_cons, av]
        rw [if_pos (shC hS hv hA)]
        simp only [List.map_cons, av, of_rd] at h1
        split
        · rename_i h9; rw [hft] at h9; cases h9; exact absurd rfl hne
        · exact h1 n9 hn
        · rename_i h9; rw [hft] at h9; cases h9
      · exact h.elim
    · exact h.elim
  · exact h.elim
theorem sv_putfield {f : Nat} {mm : MT} {pc n a b : Nat} {v : Int32} {ls : AL} {st : List AV} {I : Mm} {P : Option Value → Mm → Prop} {kn : Nat → AL → List AV → Mm → Prop} {cz : Nat → List AV → Mm → (NV → Mm → Prop) → Prop} {cv : Nat → List AV → Mm → (Mm → Prop) → Prop} {cr : Nat → List AV → Mm → (RF → Mm → Prop) → Prop} {rt : AR → Mm → Prop} (hm : mT f = some mm) (hls : okFL ls) (hst : okFS st) (hkn : ∀ pc ls st I, okFL ls → okFS st → kn pc ls st I → GoI f pc (avL ls) (st.map av) I P) {z : Nat} (hl : lkE (cd f) pc = some (pc, .putfield z, n, v, a, b)) (h : vst mm (pc, .putfield z, n, v, a, b) ls st I kn cz cv cr rt) : GoI f pc (avL ls) (st.map av) I P := by
  simp only [vst] at h
  split at h
  · rename_i x rr st'
    have hv := okFS_head (okFS_tail hst)
    split at h
    · rename_i hA
      split at h
      · rename_i hft
        have K := hkn _ _ _ _ hls (okFS_tail (okFS_tail hst)) (h _ rfl)
        refine GoI.of_stp hm hl ?_
        intro N M G hS
        obtain ⟨n0, r0, I0, h1, h2⟩ := K N M G hS
        refine ⟨n0, r0, I0, fun n9 hn => ?_, h2⟩
        simp only [stp, List.map_cons, av]
        rw [if_pos (shC hS hv hA), hft]
        exact h1 n9 hn
      · rename_i hft
        obtain ⟨hx, h⟩ := boP_spec h
        rw [vi_wr (okFS_head hst)] at hx
        have K := hkn _ _ _ _ hls (okFS_tail (okFS_tail hst)) (h _ rfl)
        refine GoI.of_stp hm hl ?_
        intro N M G hS
        obtain ⟨n0, r0, I0, h1, h2⟩ := K N M G hS
        refine ⟨n0, r0, I0, fun n9 hn => ?_, h2⟩
        simp only [stp, List.map_cons, av]
        rw [if_pos (shC hS hv hA), hft]
        rw [if_pos (bo_wr hx)]
        exact h1 n9 hn
      · exact h.elim
    · exact h.elim
  · exact h.elim
theorem sv_iaload {f : Nat} {mm : MT} {pc n a b : Nat} {v : Int32} {ls : AL} {st : List AV} {I : Mm} {P : Option Value → Mm → Prop} {kn : Nat → AL → List AV → Mm → Prop} {cz : Nat → List AV → Mm → (NV → Mm → Prop) → Prop} {cv : Nat → List AV → Mm → (Mm → Prop) → Prop} {cr : Nat → List AV → Mm → (RF → Mm → Prop) → Prop} {rt : AR → Mm → Prop} (hm : mT f = some mm) (hls : okFL ls) (hst : okFS st) (hkn : ∀ pc ls st I, okFL ls → okFS st → kn pc ls st I → GoI f pc (avL ls) (st.map av) I P) (hl : lkE (cd f) pc = some (pc, .iaload, n, v, a, b)) (h : vst mm (pc, .iaload, n, v, a, b) ls st I kn cz cv cr rt) : GoI f pc (avL ls) (st.map av) I P := by
  simp only [vst] at h
  split at h
  · rename_i i rr st'
    have hv := okFS_head (okFS_tail hst)
    split at h
    · rename_i hA
      obtain ⟨hb, h⟩ := h
      rw [vi_wr (okFS_head hst)] at hb h
      have K := hkn _ _ _ _ hls (okFS_cons (okF_1 (rd_in I (adr rr) _) 1) (okFS_tail (okFS_tail hst))) h
      refine GoI.of_stp hm hl ?_
      intro N M G hS
      obtain ⟨n0, r0, I0, h1, h2⟩ := K N M G hS
      refine ⟨n0, r0, I0, fun n9 hn => ?_, h2⟩
      simp only [stp, List.map_cons, av]
      rw [if_pos (shC hS hv hA), if_neg (by rw [shL hS hv]; exact not_ibd hb)]
      simp only [List.map_cons, av, of_rd] at h1
      exact h1 n9 hn
    · exact h.elim
  · exact h.elim
theorem sv_baload {f : Nat} {mm : MT} {pc n a b : Nat} {v : Int32} {ls : AL} {st : List AV} {I : Mm} {P : Option Value → Mm → Prop} {kn : Nat → AL → List AV → Mm → Prop} {cz : Nat → List AV → Mm → (NV → Mm → Prop) → Prop} {cv : Nat → List AV → Mm → (Mm → Prop) → Prop} {cr : Nat → List AV → Mm → (RF → Mm → Prop) → Prop} {rt : AR → Mm → Prop} (hm : mT f = some mm) (hls : okFL ls) (hst : okFS st) (hkn : ∀ pc ls st I, okFL ls → okFS st → kn pc ls st I → GoI f pc (avL ls) (st.map av) I P) (hl : lkE (cd f) pc = some (pc, .baload, n, v, a, b)) (h : vst mm (pc, .baload, n, v, a, b) ls st I kn cz cv cr rt) : GoI f pc (avL ls) (st.map av) I P := by
  simp only [vst] at h
  split at h
  · rename_i i rr st'
    have hv := okFS_head (okFS_tail hst)
    split at h
    · rename_i hA
      obtain ⟨hb, h⟩ := h
      rw [vi_wr (okFS_head hst)] at hb h
      have K := hkn _ _ _ _ hls (okFS_cons (okF_1 (rd_in I (adr rr) _) 1) (okFS_tail (okFS_tail hst))) h
      refine GoI.of_stp hm hl ?_
      intro N M G hS
      obtain ⟨n0, r0, I0, h1, h2⟩ := K N M G hS
      refine ⟨n0, r0, I0, fun n9 hn => ?_, h2⟩
      simp only [stp, List.map_cons, av]
      rw [if_pos (shC hS hv hA), if_neg (by rw [shL hS hv]; exact not_ibd hb)]
      simp only [List.map_cons, av, of_rd] at h1
      exact h1 n9 hn
    · exact h.elim
  · exact h.elim
theorem sv_iastore {f : Nat} {mm : MT} {pc n a b : Nat} {v : Int32} {ls : AL} {st : List AV} {I : Mm} {P : Option Value → Mm → Prop} {kn : Nat → AL → List AV → Mm → Prop} {cz : Nat → List AV → Mm → (NV → Mm → Prop) → Prop} {cv : Nat → List AV → Mm → (Mm → Prop) → Prop} {cr : Nat → List AV → Mm → (RF → Mm → Prop) → Prop} {rt : AR → Mm → Prop} (hm : mT f = some mm) (hls : okFL ls) (hst : okFS st) (hkn : ∀ pc ls st I, okFL ls → okFS st → kn pc ls st I → GoI f pc (avL ls) (st.map av) I P) (hl : lkE (cd f) pc = some (pc, .iastore, n, v, a, b)) (h : vst mm (pc, .iastore, n, v, a, b) ls st I kn cz cv cr rt) : GoI f pc (avL ls) (st.map av) I P := by
  simp only [vst] at h
  split at h
  · rename_i x i rr st'
    have hv := okFS_head (okFS_tail (okFS_tail hst))
    split at h
    · rename_i hA
      obtain ⟨hb, h⟩ := h
      rw [vi_wr (okFS_head (okFS_tail hst))] at hb h
      have K := hkn _ _ _ _ hls (okFS_tail (okFS_tail (okFS_tail hst))) (h _ rfl)
      refine GoI.of_stp hm hl ?_
      intro N M G hS
      obtain ⟨n0, r0, I0, h1, h2⟩ := K N M G hS
      refine ⟨n0, r0, I0, fun n9 hn => ?_, h2⟩
      simp only [stp, List.map_cons, av]
      rw [if_pos (shC hS hv hA), if_neg (by rw [shL hS hv]; exact not_ibd hb)]
      exact h1 n9 hn
    · exact h.elim
  · exact h.elim
theorem sv_bastore {f : Nat} {mm : MT} {pc n a b : Nat} {v : Int32} {ls : AL} {st : List AV} {I : Mm} {P : Option Value → Mm → Prop} {kn : Nat → AL → List AV → Mm → Prop} {cz : Nat → List AV → Mm → (NV → Mm → Prop) → Prop} {cv : Nat → List AV → Mm → (Mm → Prop) → Prop} {cr : Nat → List AV → Mm → (RF → Mm → Prop) → Prop} {rt : AR → Mm → Prop} (hm : mT f = some mm) (hls : okFL ls) (hst : okFS st) (hkn : ∀ pc ls st I, okFL ls → okFS st → kn pc ls st I → GoI f pc (avL ls) (st.map av) I P) (hl : lkE (cd f) pc = some (pc, .bastore, n, v, a, b)) (h : vst mm (pc, .bastore, n, v, a, b) ls st I kn cz cv cr rt) : GoI f pc (avL ls) (st.map av) I P := by
  simp only [vst] at h
  split at h
  · rename_i x i rr st'
    have hv := okFS_head (okFS_tail (okFS_tail hst))
    split at h
    · rename_i hA
      obtain ⟨hb, h⟩ := h
      obtain ⟨hx, h⟩ := boP_spec h
      rw [vi_wr (okFS_head (okFS_tail hst))] at hb h
      rw [vi_wr (okFS_head hst)] at hx
      have K := hkn _ _ _ _ hls (okFS_tail (okFS_tail (okFS_tail hst))) (h _ rfl)
      refine GoI.of_stp hm hl ?_
      intro N M G hS
      obtain ⟨n0, r0, I0, h1, h2⟩ := K N M G hS
      refine ⟨n0, r0, I0, fun n9 hn => ?_, h2⟩
      simp only [stp, List.map_cons, av]
      rw [if_pos ⟨shC hS hv hA, bo_wr hx⟩, if_neg (by rw [shL hS hv]; exact not_ibd hb)]
      exact h1 n9 hn
    · exact h.elim
  · exact h.elim
theorem sv_aaload {f : Nat} {mm : MT} {pc n a b : Nat} {v : Int32} {ls : AL} {st : List AV} {I : Mm} {P : Option Value → Mm → Prop} {kn : Nat → AL → List AV → Mm → Prop} {cz : Nat → List AV → Mm → (NV → Mm → Prop) → Prop} {cv : Nat → List AV → Mm → (Mm → Prop) → Prop} {cr : Nat → List AV → Mm → (RF → Mm → Prop) → Prop} {rt : AR → Mm → Prop} (hm : mT f = some mm) (hls : okFL ls) (hst : okFS st) (hkn : ∀ pc ls st I, okFL ls → okFS st → kn pc ls st I → GoI f pc (avL ls) (st.map av) I P) (hl : lkE (cd f) pc = some (pc, .aaload, n, v, a, b)) (h : vst mm (pc, .aaload, n, v, a, b) ls st I kn cz cv cr rt) : GoI f pc (avL ls) (st.map av) I P := by
  simp only [vst] at h
  split at h
  · rename_i i rr st'
    have hv := okFS_head (okFS_tail hst)
    obtain ⟨t, bs, off⟩ := rr
    split at h
    · rename_i hA
      obtain ⟨rfl, rfl⟩ : t = 0 ∧ off = 13 := hA
      obtain ⟨hb, h⟩ := h
      rw [vi_wr (okFS_head hst)] at hb h
      have K := hkn _ _ _ _ hls (okFS_cons (okF_t (by omega)) (okFS_tail (okFS_tail hst))) h
      refine GoI.of_stp hm hl ?_
      intro N M G hS
      obtain ⟨n0, r0, I0, h1, h2⟩ := K N M G hS
      refine ⟨n0, r0, I0, fun n9 hn => ?_, h2⟩
      simp only [stp, List.map_cons, av]
      rw [if_pos (Or.inl (shC (a := 12) hS hv rfl)), if_neg (by rw [shL hS hv]; exact not_ibd hb)]
      have e : (G (adr (0, bs, 13))).2.2 (wr i.2).toNat = some (22 + 5 * (wr i.2).toNat) := hS.2.1 _ (by omega)
      rw [clamp_wr hb.1, e]
      exact h1 n9 hn
    · split at h
      · rename_i hA
        obtain ⟨rfl, rfl⟩ : t = 0 ∧ off = 14 := hA
        obtain ⟨hb, h⟩ := h
        rw [vi_wr (okFS_head hst)] at hb h
        have K := hkn _ _ _ _ hls (okFS_cons (okF_x (by omega)) (okFS_tail (okFS_tail hst))) h
        refine GoI.of_stp hm hl ?_
        intro N M G hS
        obtain ⟨n0, r0, I0, h1, h2⟩ := K N M G hS
        refine ⟨n0, r0, I0, fun n9 hn => ?_, h2⟩
        simp only [stp, List.map_cons, av]
        rw [if_pos (Or.inr (shC (a := 13) hS hv rfl)), if_neg (by rw [shL hS hv]; exact not_ibd hb)]
        have e : (G (adr (0, bs, 14))).2.2 (wr i.2).toNat = some (62 + 25 * (wr i.2).toNat) := hS.2.2 _ (by omega)
        rw [clamp_wr hb.1, e]
        exact h1 n9 hn
      · exact h.elim
  · exact h.elim
theorem sv_alen {f : Nat} {mm : MT} {pc n a b : Nat} {v : Int32} {ls : AL} {st : List AV} {I : Mm} {P : Option Value → Mm → Prop} {kn : Nat → AL → List AV → Mm → Prop} {cz : Nat → List AV → Mm → (NV → Mm → Prop) → Prop} {cv : Nat → List AV → Mm → (Mm → Prop) → Prop} {cr : Nat → List AV → Mm → (RF → Mm → Prop) → Prop} {rt : AR → Mm → Prop} (hm : mT f = some mm) (hls : okFL ls) (hst : okFS st) (hkn : ∀ pc ls st I, okFL ls → okFS st → kn pc ls st I → GoI f pc (avL ls) (st.map av) I P) (hl : lkE (cd f) pc = some (pc, .arraylength, n, v, a, b)) (h : vst mm (pc, .arraylength, n, v, a, b) ls st I kn cz cv cr rt) : GoI f pc (avL ls) (st.map av) I P := by
  simp only [vst] at h
  split at h
  · rename_i rr st'
    have hv := okFS_head hst
    split at h
    · rename_i hA
      have K := hkn _ _ _ _ hls (okFS_cons (okF_1 (tln_in rr.1 rr.2.2) 2) (okFS_tail hst)) h
      refine GoI.of_stp hm hl ?_
      intro N M G hS
      obtain ⟨n0, r0, I0, h1, h2⟩ := K N M G hS
      refine ⟨n0, r0, I0, fun n9 hn => ?_, h2⟩
      simp only [stp, List.map_cons, av]
      rw [if_pos (shC hS hv hA), shL hS hv]
      exact h1 n9 hn
    · exact h.elim
  · exact h.elim
theorem sv_ifCond {f : Nat} {mm : MT} {pc n a b : Nat} {v : Int32} {ls : AL} {st : List AV} {I : Mm} {P : Option Value → Mm → Prop} {kn : Nat → AL → List AV → Mm → Prop} {cz : Nat → List AV → Mm → (NV → Mm → Prop) → Prop} {cv : Nat → List AV → Mm → (Mm → Prop) → Prop} {cr : Nat → List AV → Mm → (RF → Mm → Prop) → Prop} {rt : AR → Mm → Prop} (hm : mT f = some mm) (hls : okFL ls) (hst : okFS st) (hkn : ∀ pc ls st I, okFL ls → okFS st → kn pc ls st I → GoI f pc (avL ls) (st.map av) I P) {cc : ClassFile.Cond} {z : Int} (hl : lkE (cd f) pc = some (pc, .ifCond cc z, n, v, a, b)) (h : vst mm (pc, .ifCond cc z, n, v, a, b) ls st I kn cz cv cr rt) : GoI f pc (avL ls) (st.map av) I P := by
  simp only [vst] at h
  split at h
  · rename_i x st'
    have e1 := vi_wr (okFS_head hst)
    have e2 := fun z => li1_spec (x := x) z
    cases cc
    · simp only at h
      have h := brP_spec h (fun z => by rw [e2 z, decide_eq_true_eq])
      rw [e1] at h
      by_cases hc : wr x.2 = 0
      · have K := hkn _ _ _ _ hls (okFS_tail hst) (h.1 hc)
        refine GoI.of_stp hm hl ?_
        intro N M G hS
        obtain ⟨n0, r0, I0, h1, h2⟩ := K N M G hS
        refine ⟨n0, r0, I0, fun n9 hn => ?_, h2⟩
        simp only [stp, List.map_cons, av]
        rw [if_pos ((i_eq0 x.2).mpr hc)]
        exact h1 n9 hn
      · have K := hkn _ _ _ _ hls (okFS_tail hst) (h.2 hc)
        refine GoI.of_stp hm hl ?_
        intro N M G hS
        obtain ⟨n0, r0, I0, h1, h2⟩ := K N M G hS
        refine ⟨n0, r0, I0, fun n9 hn => ?_, h2⟩
        simp only [stp, List.map_cons, av]
        rw [if_neg (fun z => hc ((i_eq0 x.2).mp z))]
        exact h1 n9 hn
    · simp only at h
      have h := brP_spec h (fun z => by rw [e2 z, decide_eq_true_eq])
      rw [e1] at h
      by_cases hc : wr x.2 = 0
      · have K := hkn _ _ _ _ hls (okFS_tail hst) (h.1 hc)
        refine GoI.of_stp hm hl ?_
        intro N M G hS
        obtain ⟨n0, r0, I0, h1, h2⟩ := K N M G hS
        refine ⟨n0, r0, I0, fun n9 hn => ?_, h2⟩
        simp only [stp, List.map_cons, av]
        rw [if_pos ((i_eq0 x.2).mpr hc)]
        exact h1 n9 hn
      · have K := hkn _ _ _ _ hls (okFS_tail hst) (h.2 hc)
        refine GoI.of_stp hm hl ?_
        intro N M G hS
        obtain ⟨n0, r0, I0, h1, h2⟩ := K N M G hS
        refine ⟨n0, r0, I0, fun n9 hn => ?_, h2⟩
        simp only [stp, List.map_cons, av]
        rw [if_neg (fun z => hc ((i_eq0 x.2).mp z))]
        exact h1 n9 hn
    · simp only at h
      have h := brP_spec h (fun z => by rw [e2 z, decide_eq_true_eq])
      rw [e1] at h
      by_cases hc : wr x.2 < 0
      · have K := hkn _ _ _ _ hls (okFS_tail hst) (h.1 hc)
        refine GoI.of_stp hm hl ?_
        intro N M G hS
        obtain ⟨n0, r0, I0, h1, h2⟩ := K N M G hS
        refine ⟨n0, r0, I0, fun n9 hn => ?_, h2⟩
        simp only [stp, List.map_cons, av]
        rw [if_pos ((i_lt0 x.2).mpr hc)]
        exact h1 n9 hn
      · have K := hkn _ _ _ _ hls (okFS_tail hst) (h.2 hc)
        refine GoI.of_stp hm hl ?_
        intro N M G hS
        obtain ⟨n0, r0, I0, h1, h2⟩ := K N M G hS
        refine ⟨n0, r0, I0, fun n9 hn => ?_, h2⟩
        simp only [stp, List.map_cons, av]
        rw [if_neg (fun z => hc ((i_lt0 x.2).mp z))]
        exact h1 n9 hn
    · simp only at h
      have h := brP_spec h (fun z => by rw [e2 z, decide_eq_true_eq])
      rw [e1] at h
      by_cases hc : 0 ≤ wr x.2
      · have K := hkn _ _ _ _ hls (okFS_tail hst) (h.1 hc)
        refine GoI.of_stp hm hl ?_
        intro N M G hS
        obtain ⟨n0, r0, I0, h1, h2⟩ := K N M G hS
        refine ⟨n0, r0, I0, fun n9 hn => ?_, h2⟩
        simp only [stp, List.map_cons, av]
        rw [if_pos ((i_ge0 x.2).mpr hc)]
        exact h1 n9 hn
      · have K := hkn _ _ _ _ hls (okFS_tail hst) (h.2 hc)
        refine GoI.of_stp hm hl ?_
        intro N M G hS
        obtain ⟨n0, r0, I0, h1, h2⟩ := K N M G hS
        refine ⟨n0, r0, I0, fun n9 hn => ?_, h2⟩
        simp only [stp, List.map_cons, av]
        rw [if_neg (fun z => hc ((i_ge0 x.2).mp z))]
        exact h1 n9 hn
    · simp only at h
      have h := brP_spec h (fun z => by rw [e2 z, decide_eq_true_eq])
      rw [e1] at h
      by_cases hc : 0 < wr x.2
      · have K := hkn _ _ _ _ hls (okFS_tail hst) (h.1 hc)
        refine GoI.of_stp hm hl ?_
        intro N M G hS
        obtain ⟨n0, r0, I0, h1, h2⟩ := K N M G hS
        refine ⟨n0, r0, I0, fun n9 hn => ?_, h2⟩
        simp only [stp, List.map_cons, av]
        rw [if_pos ((i_gt0 x.2).mpr hc)]
        exact h1 n9 hn
      · have K := hkn _ _ _ _ hls (okFS_tail hst) (h.2 hc)
        refine GoI.of_stp hm hl ?_
        intro N M G hS
        obtain ⟨n0, r0, I0, h1, h2⟩ := K N M G hS
        refine ⟨n0, r0, I0, fun n9 hn => ?_, h2⟩
        simp only [stp, List.map_cons, av]
        rw [if_neg (fun z => hc ((i_gt0 x.2).mp z))]
        exact h1 n9 hn
    · simp only at h
      have h := brP_spec h (fun z => by rw [e2 z, decide_eq_true_eq])
      rw [e1] at h
      by_cases hc : wr x.2 ≤ 0
      · have K := hkn _ _ _ _ hls (okFS_tail hst) (h.1 hc)
        refine GoI.of_stp hm hl ?_
        intro N M G hS
        obtain ⟨n0, r0, I0, h1, h2⟩ := K N M G hS
        refine ⟨n0, r0, I0, fun n9 hn => ?_, h2⟩
        simp only [stp, List.map_cons, av]
        rw [if_pos ((i_le0 x.2).mpr hc)]
        exact h1 n9 hn
      · have K := hkn _ _ _ _ hls (okFS_tail hst) (h.2 hc)
        refine GoI.of_stp hm hl ?_
        intro N M G hS
        obtain ⟨n0, r0, I0, h1, h2⟩ := K N M G hS
        refine ⟨n0, r0, I0, fun n9 hn => ?_, h2⟩
        simp only [stp, List.map_cons, av]
        rw [if_neg (fun z => hc ((i_le0 x.2).mp z))]
        exact h1 n9 hn
  · exact h.elim
theorem sv_icmp {f : Nat} {mm : MT} {pc n a b : Nat} {v : Int32} {ls : AL} {st : List AV} {I : Mm} {P : Option Value → Mm → Prop} {kn : Nat → AL → List AV → Mm → Prop} {cz : Nat → List AV → Mm → (NV → Mm → Prop) → Prop} {cv : Nat → List AV → Mm → (Mm → Prop) → Prop} {cr : Nat → List AV → Mm → (RF → Mm → Prop) → Prop} {rt : AR → Mm → Prop} (hm : mT f = some mm) (hls : okFL ls) (hst : okFS st) (hkn : ∀ pc ls st I, okFL ls → okFS st → kn pc ls st I → GoI f pc (avL ls) (st.map av) I P) {cc : ClassFile.Cond} {z : Int} (hl : lkE (cd f) pc = some (pc, .if_icmp cc z, n, v, a, b)) (h : vst mm (pc, .if_icmp cc z, n, v, a, b) ls st I kn cz cv cr rt) : GoI f pc (avL ls) (st.map av) I P := by
  simp only [vst] at h
  split at h
  · rename_i y x st'
    have e1 := vi_wr (okFS_head hst)
    have e3 := vi_wr (okFS_head (okFS_tail hst))
    have e2 := fun z => li2_spec (x := x) (y := y) z
    cases cc
    · simp only at h
      have h := brP_spec h (fun z => by rw [(e2 z).1, (e2 z).2, decide_eq_true_eq])
      rw [e1, e3] at h
      by_cases hc : wr x.2 = wr y.2
      · have K := hkn _ _ _ _ hls (okFS_tail (okFS_tail hst)) (h.1 hc)
        refine GoI.of_stp hm hl ?_
        intro N M G hS
        obtain ⟨n0, r0, I0, h1, h2⟩ := K N M G hS
        refine ⟨n0, r0, I0, fun n9 hn => ?_, h2⟩
        simp only [stp, List.map_cons, av]
        rw [if_pos ((i_eq x.2 y.2).mpr hc)]
        exact h1 n9 hn
      · have K := hkn _ _ _ _ hls (okFS_tail (okFS_tail hst)) (h.2 hc)
        refine GoI.of_stp hm hl ?_
        intro N M G hS
        obtain ⟨n0, r0, I0, h1, h2⟩ := K N M G hS
        refine ⟨n0, r0, I0, fun n9 hn => ?_, h2⟩
        simp only [stp, List.map_cons, av]
        rw [if_neg (fun z => hc ((i_eq x.2 y.2).mp z))]
        exact h1 n9 hn
    · simp only at h
      have h := brP_spec h (fun z => by rw [(e2 z).1, (e2 z).2, decide_eq_true_eq])
      rw [e1, e3] at h
      by_cases hc : wr x.2 = wr y.2
      · have K := hkn _ _ _ _ hls (okFS_tail (okFS_tail hst)) (h.1 hc)
        refine GoI.of_stp hm hl ?_
        intro N M G hS
        obtain ⟨n0, r0, I0, h1, h2⟩ := K N M G hS
        refine ⟨n0, r0, I0, fun n9 hn => ?_, h2⟩
        simp only [stp, List.map_cons, av]
        rw [if_pos ((i_eq x.2 y.2).mpr hc)]
        exact h1 n9 hn
      · have K := hkn _ _ _ _ hls (okFS_tail (okFS_tail hst)) (h.2 hc)
        refine GoI.of_stp hm hl ?_
        intro N M G hS
        obtain ⟨n0, r0, I0, h1, h2⟩ := K N M G hS
        refine ⟨n0, r0, I0, fun n9 hn => ?_, h2⟩
        simp only [stp, List.map_cons, av]
        rw [if_neg (fun z => hc ((i_eq x.2 y.2).mp z))]
        exact h1 n9 hn
    · simp only at h
      have h := brP_spec h (fun z => by rw [(e2 z).1, (e2 z).2, decide_eq_true_eq])
      rw [e1, e3] at h
      by_cases hc : wr x.2 < wr y.2
      · have K := hkn _ _ _ _ hls (okFS_tail (okFS_tail hst)) (h.1 hc)
        refine GoI.of_stp hm hl ?_
        intro N M G hS
        obtain ⟨n0, r0, I0, h1, h2⟩ := K N M G hS
        refine ⟨n0, r0, I0, fun n9 hn => ?_, h2⟩
        simp only [stp, List.map_cons, av]
        rw [if_pos ((i_lt x.2 y.2).mpr hc)]
        exact h1 n9 hn
      · have K := hkn _ _ _ _ hls (okFS_tail (okFS_tail hst)) (h.2 hc)
        refine GoI.of_stp hm hl ?_
        intro N M G hS
        obtain ⟨n0, r0, I0, h1, h2⟩ := K N M G hS
        refine ⟨n0, r0, I0, fun n9 hn => ?_, h2⟩
        simp only [stp, List.map_cons, av]
        rw [if_neg (fun z => hc ((i_lt x.2 y.2).mp z))]
        exact h1 n9 hn
    · simp only at h
      have h := brP_spec h (fun z => by rw [(e2 z).1, (e2 z).2, decide_eq_true_eq])
      rw [e1, e3] at h
      by_cases hc : wr y.2 ≤ wr x.2
      · have K := hkn _ _ _ _ hls (okFS_tail (okFS_tail hst)) (h.1 hc)
        refine GoI.of_stp hm hl ?_
        intro N M G hS
        obtain ⟨n0, r0, I0, h1, h2⟩ := K N M G hS
        refine ⟨n0, r0, I0, fun n9 hn => ?_, h2⟩
        simp only [stp, List.map_cons, av]
        rw [if_pos ((i_le y.2 x.2).mpr hc)]
        exact h1 n9 hn
      · have K := hkn _ _ _ _ hls (okFS_tail (okFS_tail hst)) (h.2 hc)
        refine GoI.of_stp hm hl ?_
        intro N M G hS
        obtain ⟨n0, r0, I0, h1, h2⟩ := K N M G hS
        refine ⟨n0, r0, I0, fun n9 hn => ?_, h2⟩
        simp only [stp, List.map_cons, av]
        rw [if_neg (fun z => hc ((i_le y.2 x.2).mp z))]
        exact h1 n9 hn
    · simp only at h
      have h := brP_spec h (fun z => by rw [(e2 z).1, (e2 z).2, decide_eq_true_eq])
      rw [e1, e3] at h
      by_cases hc : wr y.2 < wr x.2
      · have K := hkn _ _ _ _ hls (okFS_tail (okFS_tail hst)) (h.1 hc)
        refine GoI.of_stp hm hl ?_
        intro N M G hS
        obtain ⟨n0, r0, I0, h1, h2⟩ := K N M G hS
        refine ⟨n0, r0, I0, fun n9 hn => ?_, h2⟩
        simp only [stp, List.map_cons, av]
        rw [if_pos ((i_lt y.2 x.2).mpr hc)]
        exact h1 n9 hn
      · have K := hkn _ _ _ _ hls (okFS_tail (okFS_tail hst)) (h.2 hc)
        refine GoI.of_stp hm hl ?_
        intro N M G hS
        obtain ⟨n0, r0, I0, h1, h2⟩ := K N M G hS
        refine ⟨n0, r0, I0, fun n9 hn => ?_, h2⟩
        simp only [stp, List.map_cons, av]
        rw [if_neg (fun z => hc ((i_lt y.2 x.2).mp z))]
        exact h1 n9 hn
    · simp only at h
      have h := brP_spec h (fun z => by rw [(e2 z).1, (e2 z).2, decide_eq_true_eq])
      rw [e1, e3] at h
      by_cases hc : wr x.2 ≤ wr y.2
      · have K := hkn _ _ _ _ hls (okFS_tail (okFS_tail hst)) (h.1 hc)
        refine GoI.of_stp hm hl ?_
        intro N M G hS
        obtain ⟨n0, r0, I0, h1, h2⟩ := K N M G hS
        refine ⟨n0, r0, I0, fun n9 hn => ?_, h2⟩
        simp only [stp, List.map_cons, av]
        rw [if_pos ((i_le x.2 y.2).mpr hc)]
        exact h1 n9 hn
      · have K := hkn _ _ _ _ hls (okFS_tail (okFS_tail hst)) (h.2 hc)
        refine GoI.of_stp hm hl ?_
        intro N M G hS
        obtain ⟨n0, r0, I0, h1, h2⟩ := K N M G hS
        refine ⟨n0, r0, I0, fun n9 hn => ?_, h2⟩
        simp only [stp, List.map_cons, av]
        rw [if_neg (fun z => hc ((i_le x.2 y.2).mp z))]
        exact h1 n9 hn
  · exact h.elim
theorem sv_idiv {f : Nat} {mm : MT} {pc n a b : Nat} {v : Int32} {ls : AL} {st : List AV} {I : Mm} {P : Option Value → Mm → Prop} {kn : Nat → AL → List AV → Mm → Prop} {cz : Nat → List AV → Mm → (NV → Mm → Prop) → Prop} {cv : Nat → List AV → Mm → (Mm → Prop) → Prop} {cr : Nat → List AV → Mm → (RF → Mm → Prop) → Prop} {rt : AR → Mm → Prop} (hm : mT f = some mm) (hls : okFL ls) (hst : okFS st) (hkn : ∀ pc ls st I, okFL ls → okFS st → kn pc ls st I → GoI f pc (avL ls) (st.map av) I P) (hl : lkE (cd f) pc = some (pc, .idiv, n, v, a, b)) (h : vst mm (pc, .idiv, n, v, a, b) ls st I kn cz cv cr rt) : GoI f pc (avL ls) (st.map av) I P := by
  simp only [vst] at h
  split at h
  · rename_i y x st'
    rw [vi_wr (okFS_head hst), vi_wr (okFS_head (okFS_tail hst))] at h
    obtain ⟨⟨h0, h9⟩, h⟩ := h
    have K := hkn _ _ _ _ hls (okFS_cons (okF_1 (div_in (wr_in _) h0 h9) 1) (okFS_tail (okFS_tail hst))) h
    refine GoI.of_stp hm hl ?_
    intro N M G hS
    obtain ⟨n0, r0, I0, h1, h2⟩ := K N M G hS
    refine ⟨n0, r0, I0, fun n9 hn => ?_, h2⟩
    simp only [stp, List.map_cons, av]
    rw [if_neg (nz_of h9), div_wr h0 h9]
    exact h1 n9 hn
  · exact h.elim
theorem sv_irem {f : Nat} {mm : MT} {pc n a b : Nat} {v : Int32} {ls : AL} {st : List AV} {I : Mm} {P : Option Value → Mm → Prop} {kn : Nat → AL → List AV → Mm → Prop} {cz : Nat → List AV → Mm → (NV → Mm → Prop) → Prop} {cv : Nat → List AV → Mm → (Mm → Prop) → Prop} {cr : Nat → List AV → Mm → (RF → Mm → Prop) → Prop} {rt : AR → Mm → Prop} (hm : mT f = some mm) (hls : okFL ls) (hst : okFS st) (hkn : ∀ pc ls st I, okFL ls → okFS st → kn pc ls st I → GoI f pc (avL ls) (st.map av) I P) (hl : lkE (cd f) pc = some (pc, .irem, n, v, a, b)) (h : vst mm (pc, .irem, n, v, a, b) ls st I kn cz cv cr rt) : GoI f pc (avL ls) (st.map av) I P := by
  simp only [vst] at h
  split at h
  · rename_i y x st'
    rw [vi_wr (okFS_head hst), vi_wr (okFS_head (okFS_tail hst))] at h
    obtain ⟨⟨h0, h9⟩, h⟩ := h
    have K := hkn _ _ _ _ hls (okFS_cons (okF_1 (mod_in (wr_in _) h0 h9) 1) (okFS_tail (okFS_tail hst))) h
    refine GoI.of_stp hm hl ?_
    intro N M G hS
    obtain ⟨n0, r0, I0, h1, h2⟩ := K N M G hS
    refine ⟨n0, r0, I0, fun n9 hn => ?_, h2⟩
    simp only [stp, List.map_cons, av]
    rw [if_neg (nz_of h9), mod_wr h0 h9]
    exact h1 n9 hn
  · exact h.elim
end
section
def arv (v : AR) : Option Value := match v with
  | none => none
  | some (.inl x) => some (.int (Int32.ofInt x.2))
  | some (.inr q) => some (.ref (adr q))
def okR (v : AR) : Prop := match v with
  | none => True
  | some (.inl x) => okF (.inl x)
  | some (.inr q) => okF (.inr q)
def GoA (f pc : Nat) (ls : AL) (st : List AV) (I : Mm) (rt : AR → Mm → Prop) : Prop := GoI f pc (avL ls) (st.map av) I (fun r I' => ∃ v : AR, r = arv v ∧ okR v ∧ rt v I')
theorem vi_in {x : NV} (h : okF (.inl x)) : inR (vi x) := by rw [vi_wr h]; exact wr_in _
theorem of_vi {x : NV} (h : okF (.inl x)) : Int32.ofInt (vi x) = Int32.ofInt x.2 := by rw [vi_wr h, of_wr]
def AV.av' (as : List AV) : List Value := as.map av
theorem sv_virt {f : Nat} {mm : MT} {pc n a b : Nat} {v : Int32} {ls : AL} {st : List AV} {I : Mm} {P : Option Value → Mm → Prop} {kn : Nat → AL → List AV → Mm → Prop} {cz : Nat → List AV → Mm → (NV → Mm → Prop) → Prop} {cv : Nat → List AV → Mm → (Mm → Prop) → Prop} {cr : Nat → List AV → Mm → (RF → Mm → Prop) → Prop} {rt : AR → Mm → Prop} (hm : mT f = some mm) (hls : okFL ls) (hst : okFS st) (hkn : ∀ pc ls st I, okFL ls → okFS st → kn pc ls st I → GoI f pc (avL ls) (st.map av) I P) {z : Nat} (hcz : ∀ (g : Nat) (as : List AV) (I : Mm) (K : NV → Mm → Prop), cz g as I K → okFS as → CallN g as I K) (hcv : ∀ (g : Nat) (as : List AV) (I : Mm) (K : Mm → Prop), cv g as I K → okFS as → CallV g as I K) (hcr : ∀ (g : Nat) (as : List AV) (I : Mm) (K : RF → Mm → Prop), cr g as I K → okFS as → CallR g as I K) (hl : lkE (cd f) pc = some (pc, .invokevirtual z, n, v, a, b)) (h : vst mm (pc, .invokevirtual z, n, v, a, b) ls st I kn cz cv cr rt) : GoI f pc (avL ls) (st.map av) I P := by
  simp only [vst] at h
  split at h
  · rename_i g hg
    split at h
    · rename_i rr rest hdr
      split at h
      · rename_i hc
        have hsp : st = st.take (g.2.2.2.2.2.1 - 1) ++ .inr rr :: rest := by rw [← hdr, List.take_append_drop]
        have hokr : okFS rest := fun w hw => hst w (by rw [hsp]; exact List.mem_append_right _ (List.mem_cons_of_mem _ hw))
        have hv : okF (.inr rr) := hst _ (by rw [hsp]; exact List.mem_append_right _ List.mem_cons_self)
        have hokk : okFS (st.take (g.2.2.2.2.2.1 - 1)) := fun w hw => hst w (List.mem_of_mem_take hw)
        have hokt : okFS (.inr rr :: (st.take (g.2.2.2.2.2.1 - 1)).reverse) := okFS_cons hv (fun w hw => hokk w (List.mem_reverse.mp hw))
        have e1 : (st.map av).drop (g.2.2.2.2.2.1 - 1) = .ref (adr rr) :: rest.map av := by rw [← List.map_drop, hdr]; rfl
        have key : ∀ (N M : Nat) (G : Gm) (w : Option Value) (I0 : Mm) (n9 : Nat), Shp N G → run n9 none a 0 (entL g ((AV.av' (.inr rr :: (st.take (g.2.2.2.2.2.1 - 1)).reverse)))) [] (N, M, G, I) = some (w, (N, M, G, I0)) → stp none (clR n9) (run n9 none f) mm (pc, .invokevirtual z, n, v, a, b) (avL ls) (st.map av) (N, M, G, I) = run n9 none f (pc + n) (avL ls) (w.toList ++ rest.map av) (N, M, G, I0) := by
          intro N M G w I0 n9 hS h1
          have e2 : clR n9 a (.ref (adr rr) :: ((st.map av).take (g.2.2.2.2.2.1 - 1)).reverse) (N, M, G, I) = some (w, (N, M, G, I0)) := by
            unfold clR
            rw [hg]
            unfold AV.av' at h1
            rw [List.map_cons, List.map_reverse, List.map_take] at h1
            exact h1
          simp only [stp, hg, e1, e2]
          rw [if_pos ⟨by simpa using hc.1, shC hS hv hc.2, by rw [← List.map_take]; exact (okv_of hS hokk).2, okl_of hS hls, (okv_of hS hokr).1⟩]
        split at h
        · obtain ⟨mg, hmg, K⟩ := hcv _ _ _ _ h hokt
          rw [hg] at hmg
          cases hmg
          refine GoI.of_stp hm hl ?_
          intro N M G hS
          obtain ⟨n0, r0, I0, h1, rfl, hk2⟩ := K N M G hS
          obtain ⟨n1, r1, I1, h3, h4⟩ := hkn _ _ _ _ hls hokr hk2 N M G hS
          refine ⟨max n0 n1, r1, I1, fun n9 hn => ?_, h4⟩
          rw [key N M G _ I0 n9 hS (h1 n9 (by omega))]
          exact h3 n9 (by omega)
        · obtain ⟨mg, hmg, K⟩ := hcz _ _ _ _ h hokt
          rw [hg] at hmg
          cases hmg
          refine GoI.of_stp hm hl ?_
          intro N M G hS
          obtain ⟨n0, r0, I0, h1, x, rfl, hx, hk2⟩ := K N M G hS
          obtain ⟨n1, r1, I1, h3, h4⟩ := hkn _ _ _ _ hls (okFS_cons hx hokr) hk2 N M G hS
          refine ⟨max n0 n1, r1, I1, fun n9 hn => ?_, h4⟩
          rw [key N M G _ I0 n9 hS (h1 n9 (by omega))]
          exact h3 n9 (by omega)
        · obtain ⟨mg, hmg, K⟩ := hcz _ _ _ _ h hokt
          rw [hg] at hmg
          cases hmg
          refine GoI.of_stp hm hl ?_
          intro N M G hS
          obtain ⟨n0, r0, I0, h1, x, rfl, hx, hk2⟩ := K N M G hS
          obtain ⟨n1, r1, I1, h3, h4⟩ := hkn _ _ _ _ hls (okFS_cons hx hokr) hk2 N M G hS
          refine ⟨max n0 n1, r1, I1, fun n9 hn => ?_, h4⟩
          rw [key N M G _ I0 n9 hS (h1 n9 (by omega))]
          exact h3 n9 (by omega)
        · obtain ⟨mg, hmg, K⟩ := hcr _ _ _ _ h hokt
          rw [hg] at hmg
          cases hmg
          refine GoI.of_stp hm hl ?_
          intro N M G hS
          obtain ⟨n0, r0, I0, h1, q, rfl, hx, hk2⟩ := K N M G hS
          obtain ⟨n1, r1, I1, h3, h4⟩ := hkn _ _ _ _ hls (okFS_cons hx hokr) hk2 N M G hS
          refine ⟨max n0 n1, r1, I1, fun n9 hn => ?_, h4⟩
          rw [key N M G _ I0 n9 hS (h1 n9 (by omega))]
          exact h3 n9 (by omega)
        · exact h.elim
      · exact h.elim
    · exact h.elim
  · exact h.elim
theorem sv_stat {f : Nat} {mm : MT} {pc n a b : Nat} {v : Int32} {ls : AL} {st : List AV} {I : Mm} {P : Option Value → Mm → Prop} {kn : Nat → AL → List AV → Mm → Prop} {cz : Nat → List AV → Mm → (NV → Mm → Prop) → Prop} {cv : Nat → List AV → Mm → (Mm → Prop) → Prop} {cr : Nat → List AV → Mm → (RF → Mm → Prop) → Prop} {rt : AR → Mm → Prop} (hm : mT f = some mm) (hls : okFL ls) (hst : okFS st) (hkn : ∀ pc ls st I, okFL ls → okFS st → kn pc ls st I → GoI f pc (avL ls) (st.map av) I P) {z : Nat} (hcz : ∀ (g : Nat) (as : List AV) (I : Mm) (K : NV → Mm → Prop), cz g as I K → okFS as → CallN g as I K) (hcv : ∀ (g : Nat) (as : List AV) (I : Mm) (K : Mm → Prop), cv g as I K → okFS as → CallV g as I K) (hcr : ∀ (g : Nat) (as : List AV) (I : Mm) (K : RF → Mm → Prop), cr g as I K → okFS as → CallR g as I K) (hl : lkE (cd f) pc = some (pc, .invokestatic z, n, v, a, b)) (h : vst mm (pc, .invokestatic z, n, v, a, b) ls st I kn cz cv cr rt) : GoI f pc (avL ls) (st.map av) I P := by
  simp only [vst] at h
  split at h
  · rename_i ha
    split at h
    · rename_i mz dp r1 sp r0 rest
      split at h
      · rename_i hc
        obtain ⟨t0, t1, c7⟩ := hc
        have hr0 : rest = [] := List.eq_nil_of_length_eq_zero (by omega)
        subst hr0
        obtain ⟨⟨c2, c3, c4, c5, c6⟩, h⟩ := h
        have hv1 := okFS_head (okFS_tail (okFS_tail hst))
        have hv0 := okFS_head (okFS_tail (okFS_tail (okFS_tail (okFS_tail hst))))
        rw [vi_wr (okFS_head hst)] at c4 c5 c6 h
        rw [vi_wr (okFS_head (okFS_tail hst))] at c3 c6 h
        rw [vi_wr (okFS_head (okFS_tail (okFS_tail (okFS_tail hst))))] at c2 c5 h
        have K := hkn _ _ _ _ hls (fun w hw => absurd hw List.not_mem_nil) (h _ rfl)
        refine GoI.of_stp hm hl ?_
        intro N M G hS
        obtain ⟨n0, r0, I0, h1, h2⟩ := K N M G hS
        refine ⟨n0, r0, I0, fun n9 hn => ?_, h2⟩
        simp only [stp, List.map_cons, av]
        have q2 : ∀ {x : Int}, 0 ≤ wr x → ¬ Int32.ofInt x < 0 := fun hx e => by have := (i_lt0 _).mp e; omega
        rw [if_pos ha, if_pos ⟨shC hS hv0 t0, shC hS hv1 t1, q2 c2, q2 c3, q2 c4, by rw [shL hS hv0, clamp_wr c2, clamp_wr c4]; omega, by rw [shL hS hv1, clamp_wr c3, clamp_wr c4]; omega, Nat.le_refl 0⟩]
        exact h1 n9 hn
      · exact h.elim
    · exact h.elim
  · rename_i ha
    split at h
    · rename_i hb
      split at h
      · rename_i y x rest
        split at h
        · rename_i c1
          rw [vi_wr (okFS_head hst), vi_wr (okFS_head (okFS_tail hst))] at h
          have K := hkn _ _ _ _ hls (okFS_cons (okF_1 (x := if wr y.2 < wr x.2 then wr y.2 else wr x.2) (by split <;> exact wr_in _) 1) (okFS_tail (okFS_tail hst))) h
          refine GoI.of_stp hm hl ?_
          intro N M G hS
          obtain ⟨n0, r0, I0, h1, h2⟩ := K N M G hS
          refine ⟨n0, r0, I0, fun n9 hn => ?_, h2⟩
          simp only [stp, List.map_cons, av]
          rw [if_neg ha, if_pos hb, if_pos ⟨by simpa using c1, (okv_of hS (okFS_tail (okFS_tail hst))).1⟩]
          have e : (if Int32.ofInt y.2 < Int32.ofInt x.2 then Int32.ofInt y.2 else Int32.ofInt x.2) = Int32.ofInt (if wr y.2 < wr x.2 then wr y.2 else wr x.2) := by
            by_cases hc : wr y.2 < wr x.2
            · rw [if_pos hc, if_pos ((i_lt _ _).mpr hc), of_wr]
            · rw [if_neg hc, if_neg (fun z => hc ((i_lt _ _).mp z)), of_wr]
          rw [e]
          exact h1 n9 hn
        · exact h.elim
      · exact h.elim
    · rename_i hb
      split at h
      · rename_i g hg
        split at h
        · rename_i hc
          have hsp : st = st.take g.2.2.2.2.2.1 ++ st.drop g.2.2.2.2.2.1 := by rw [List.take_append_drop]
          have hokr : okFS (st.drop g.2.2.2.2.2.1) := fun w hw => hst w (List.mem_of_mem_drop hw)
          have hokk : okFS (st.take g.2.2.2.2.2.1) := fun w hw => hst w (List.mem_of_mem_take hw)
          have hokt : okFS (st.take g.2.2.2.2.2.1).reverse := fun w hw => hokk w (List.mem_reverse.mp hw)
          have key : ∀ (N M : Nat) (G : Gm) (w : Option Value) (I0 : Mm) (n9 : Nat), Shp N G → run n9 none a 0 (entL g (AV.av' (st.take g.2.2.2.2.2.1).reverse)) [] (N, M, G, I) = some (w, (N, M, G, I0)) → stp none (clR n9) (run n9 none f) mm (pc, .invokestatic z, n, v, a, b) (avL ls) (st.map av) (N, M, G, I) = run n9 none f (pc + n) (avL ls) (w.toList ++ (st.drop g.2.2.2.2.2.1).map av) (N, M, G, I0) := by
            intro N M G w I0 n9 hS h1
            have e2 : clR n9 a ((st.map av).take g.2.2.2.2.2.1).reverse (N, M, G, I) = some (w, (N, M, G, I0)) := by
              unfold clR
              rw [hg]
              unfold AV.av' at h1
              rw [List.map_reverse, List.map_take] at h1
              exact h1
            simp only [stp, hg, e2]
            rw [if_neg ha, if_neg hb, if_pos ⟨by simpa using hc.1, by simpa using hc.2, by rw [← List.map_take]; exact (okv_of hS hokk).2, okl_of hS hls, by rw [← List.map_drop]; exact (okv_of hS hokr).1⟩, ← List.map_drop]
          split at h
          · obtain ⟨mg, hmg, K⟩ := hcv _ _ _ _ h hokt
            rw [hg] at hmg
            cases hmg
            refine GoI.of_stp hm hl ?_
            intro N M G hS
            obtain ⟨n0, r0, I0, h1, rfl, hk2⟩ := K N M G hS
            obtain ⟨n1, r1, I1, h3, h4⟩ := hkn _ _ _ _ hls hokr hk2 N M G hS
            refine ⟨max n0 n1, r1, I1, fun n9 hn => ?_, h4⟩
            rw [key N M G _ I0 n9 hS (h1 n9 (by omega))]
            exact h3 n9 (by omega)
          · obtain ⟨mg, hmg, K⟩ := hcz _ _ _ _ h hokt
            rw [hg] at hmg
            cases hmg
            refine GoI.of_stp hm hl ?_
            intro N M G hS
            obtain ⟨n0, r0, I0, h1, x, rfl, hx, hk2⟩ := K N M G hS
            obtain ⟨n1, r1, I1, h3, h4⟩ := hkn _ _ _ _ hls (okFS_cons hx hokr) hk2 N M G hS
            refine ⟨max n0 n1, r1, I1, fun n9 hn => ?_, h4⟩
            rw [key N M G _ I0 n9 hS (h1 n9 (by omega))]
            exact h3 n9 (by omega)
          · obtain ⟨mg, hmg, K⟩ := hcz _ _ _ _ h hokt
            rw [hg] at hmg
            cases hmg
            refine GoI.of_stp hm hl ?_
            intro N M G hS
            obtain ⟨n0, r0, I0, h1, x, rfl, hx, hk2⟩ := K N M G hS
            obtain ⟨n1, r1, I1, h3, h4⟩ := hkn _ _ _ _ hls (okFS_cons hx hokr) hk2 N M G hS
            refine ⟨max n0 n1, r1, I1, fun n9 hn => ?_, h4⟩
            rw [key N M G _ I0 n9 hS (h1 n9 (by omega))]
            exact h3 n9 (by omega)
          · exact h.elim
        · exact h.elim
      · exact h.elim
theorem sv_ireturn {f : Nat} {mm : MT} {pc n a b : Nat} {v : Int32} {ls : AL} {st : List AV} {I : Mm} {P : Option Value → Mm → Prop} {kn : Nat → AL → List AV → Mm → Prop} {cz : Nat → List AV → Mm → (NV → Mm → Prop) → Prop} {cv : Nat → List AV → Mm → (Mm → Prop) → Prop} {cr : Nat → List AV → Mm → (RF → Mm → Prop) → Prop} {rt : AR → Mm → Prop} (hm : mT f = some mm) (hls : okFL ls) (hst : okFS st) (hkn : ∀ pc ls st I, okFL ls → okFS st → kn pc ls st I → GoI f pc (avL ls) (st.map av) I P) (hrt : ∀ v I, rt v I → okR v → P (arv v) I) (hl : lkE (cd f) pc = some (pc, .ireturn, n, v, a, b)) (h : vst mm (pc, .ireturn, n, v, a, b) ls st I kn cz cv cr rt) : GoI f pc (avL ls) (st.map av) I P := by
  simp only [vst] at h
  split at h
  · rename_i x
    have hf := okFS_head hst
    split at h
    · rename_i hr
      refine GoI.of_stp hm hl ?_
      intro N M G hS
      refine ⟨0, _, I, fun n9 _ => ?_, hrt _ _ h (hf)⟩
      simp only [stp, List.map_cons, List.map_nil, av, hr, arv]
    · rename_i hr
      obtain ⟨hx, h⟩ := boP_spec h
      rw [vi_wr hf] at hx
      refine GoI.of_stp hm hl ?_
      intro N M G hS
      refine ⟨0, _, I, fun n9 _ => ?_, hrt _ _ h (hf)⟩
      simp only [stp, List.map_cons, List.map_nil, av, hr, arv]
      rw [if_pos (bo_wr hx)]
    · exact h.elim
  · exact h.elim
theorem sv_areturn {f : Nat} {mm : MT} {pc n a b : Nat} {v : Int32} {ls : AL} {st : List AV} {I : Mm} {P : Option Value → Mm → Prop} {kn : Nat → AL → List AV → Mm → Prop} {cz : Nat → List AV → Mm → (NV → Mm → Prop) → Prop} {cv : Nat → List AV → Mm → (Mm → Prop) → Prop} {cr : Nat → List AV → Mm → (RF → Mm → Prop) → Prop} {rt : AR → Mm → Prop} (hm : mT f = some mm) (hls : okFL ls) (hst : okFS st) (hkn : ∀ pc ls st I, okFL ls → okFS st → kn pc ls st I → GoI f pc (avL ls) (st.map av) I P) (hrt : ∀ v I, rt v I → okR v → P (arv v) I) (hl : lkE (cd f) pc = some (pc, .areturn, n, v, a, b)) (h : vst mm (pc, .areturn, n, v, a, b) ls st I kn cz cv cr rt) : GoI f pc (avL ls) (st.map av) I P := by
  simp only [vst] at h
  split at h
  · rename_i x
    split at h
    · rename_i nm hr
      refine GoI.of_stp hm hl ?_
      intro N M G hS
      refine ⟨0, _, I, fun n9 _ => ?_, hrt _ _ h (okFS_head hst)⟩
      simp only [stp, List.map_cons, List.map_nil, av, hr, arv]
      rw [if_pos (hS.1 x (okFS_head hst).1 (okFS_head hst).2).1]
    · exact h.elim
  · exact h.elim
theorem sv_return {f : Nat} {mm : MT} {pc n a b : Nat} {v : Int32} {ls : AL} {st : List AV} {I : Mm} {P : Option Value → Mm → Prop} {kn : Nat → AL → List AV → Mm → Prop} {cz : Nat → List AV → Mm → (NV → Mm → Prop) → Prop} {cv : Nat → List AV → Mm → (Mm → Prop) → Prop} {cr : Nat → List AV → Mm → (RF → Mm → Prop) → Prop} {rt : AR → Mm → Prop} (hm : mT f = some mm) (hls : okFL ls) (hst : okFS st) (hkn : ∀ pc ls st I, okFL ls → okFS st → kn pc ls st I → GoI f pc (avL ls) (st.map av) I P) (hrt : ∀ v I, rt v I → okR v → P (arv v) I) (hl : lkE (cd f) pc = some (pc, .return_, n, v, a, b)) (h : vst mm (pc, .return_, n, v, a, b) ls st I kn cz cv cr rt) : GoI f pc (avL ls) (st.map av) I P := by
  simp only [vst] at h
  split at h
  · split at h
    · rename_i hr
      refine GoI.of_stp hm hl ?_
      intro N M G hS
      refine ⟨0, _, I, fun n9 _ => ?_, hrt _ _ h (trivial)⟩
      simp only [stp, List.map_nil, hr, arv]
    · exact h.elim
  · exact h.elim
theorem swP_get {K : Nat → Int → Prop} {pc : Nat} : ∀ {offs : List Int} {lo : Int} {k : Nat} {off : Int}, swP K pc lo offs → offs[k]? = some off → K ((pc : Int) + off).toNat (lo + k)
  | [], lo, k, off, _, h => by cases h
  | q :: offs, lo, 0, off, hs, h => by
    cases h
    have := hs.1
    simpa using this
  | q :: offs, lo, k + 1, off, hs, h => by
    have := swP_get (lo := lo + 1) (k := k) hs.2 h
    rw [show lo + ((k + 1 : Nat) : Int) = lo + 1 + (k : Int) by omega]
    exact this
theorem sv_tabsw {f : Nat} {mm : MT} {pc n a b : Nat} {v : Int32} {ls : AL} {st : List AV} {I : Mm} {P : Option Value → Mm → Prop} {kn : Nat → AL → List AV → Mm → Prop} {cz : Nat → List AV → Mm → (NV → Mm → Prop) → Prop} {cv : Nat → List AV → Mm → (Mm → Prop) → Prop} {cr : Nat → List AV → Mm → (RF → Mm → Prop) → Prop} {rt : AR → Mm → Prop} (hm : mT f = some mm) (hls : okFL ls) (hst : okFS st) (hkn : ∀ pc ls st I, okFL ls → okFS st → kn pc ls st I → GoI f pc (avL ls) (st.map av) I P) {d lo hi : Int} {offs : Array Int} (hl : lkE (cd f) pc = some (pc, .tableswitch d lo hi offs, n, v, a, b)) (hz : okZ (pc, .tableswitch d lo hi offs, n, v, a, b) = true) (h : vst mm (pc, .tableswitch d lo hi offs, n, v, a, b) ls st I kn cz cv cr rt) : GoI f pc (avL ls) (st.map av) I P := by
  simp only [okZ, decide_eq_true_eq] at hz
  simp only [vst] at h
  split at h
  · rename_i x st'
    rw [vi_wr (okFS_head hst)] at h
    have e0 : (Int32.ofInt x.2).toInt = wr x.2 := rfl
    by_cases hc : wr x.2 < lo ∨ hi < wr x.2
    · have K := hkn _ _ _ _ hls (okFS_tail hst) (h.1 hc)
      refine GoI.of_stp hm hl ?_
      intro N M G hS
      obtain ⟨n0, r0, I0, h1, h2⟩ := K N M G hS
      refine ⟨n0, r0, I0, fun n9 hn => ?_, h2⟩
      simp only [stp, List.map_cons, av, e0]
      rw [if_pos hc]
      exact h1 n9 hn
    · have hlt : (wr x.2 - lo).toNat < offs.toList.length := by omega
      have ho : offs.toList[(wr x.2 - lo).toNat]? = some (offs.toList[(wr x.2 - lo).toNat]) := List.getElem?_eq_getElem hlt
      have K := hkn _ _ _ _ hls (okFS_tail hst) (swP_get h.2 ho (by omega))
      refine GoI.of_stp hm hl ?_
      intro N M G hS
      obtain ⟨n0, r0, I0, h1, h2⟩ := K N M G hS
      refine ⟨n0, r0, I0, fun n9 hn => ?_, h2⟩
      simp only [stp, List.map_cons, av, e0]
      rw [if_neg hc, ← Array.getElem?_toList, ho]
      exact h1 n9 hn
  · exact h.elim
theorem sv_looksw {f : Nat} {mm : MT} {pc n a b : Nat} {v : Int32} {ls : AL} {st : List AV} {I : Mm} {P : Option Value → Mm → Prop} {kn : Nat → AL → List AV → Mm → Prop} {cz : Nat → List AV → Mm → (NV → Mm → Prop) → Prop} {cv : Nat → List AV → Mm → (Mm → Prop) → Prop} {cr : Nat → List AV → Mm → (RF → Mm → Prop) → Prop} {rt : AR → Mm → Prop} (hm : mT f = some mm) (hls : okFL ls) (hst : okFS st) (hkn : ∀ pc ls st I, okFL ls → okFS st → kn pc ls st I → GoI f pc (avL ls) (st.map av) I P) {d : Int} {ps : Array (Int × Int)} (hl : lkE (cd f) pc = some (pc, .lookupswitch d ps, n, v, a, b)) (h : vst mm (pc, .lookupswitch d ps, n, v, a, b) ls st I kn cz cv cr rt) : GoI f pc (avL ls) (st.map av) I P := by
  simp only [vst] at h
  split at h
  · rename_i x st'
    rw [vi_wr (okFS_head hst)] at h
    have e0 : (Int32.ofInt x.2).toInt = wr x.2 := rfl
    have K := hkn _ _ _ _ hls (okFS_tail hst) h
    refine GoI.of_stp hm hl ?_
    intro N M G hS
    obtain ⟨n0, r0, I0, h1, h2⟩ := K N M G hS
    refine ⟨n0, r0, I0, fun n9 hn => ?_, h2⟩
    simp only [stp, List.map_cons, av, e0]
    exact h1 n9 hn
  · exact h.elim
set_option maxHeartbeats 1000000 in
theorem vst_sound {f : Nat} {mm : MT} {en : En} {ls : AL} {st : List AV} {I : Mm} {P : Option Value → Mm → Prop} {kn : Nat → AL → List AV → Mm → Prop} {cz : Nat → List AV → Mm → (NV → Mm → Prop) → Prop} {cv : Nat → List AV → Mm → (Mm → Prop) → Prop} {cr : Nat → List AV → Mm → (RF → Mm → Prop) → Prop} {rt : AR → Mm → Prop} (hm : mT f = some mm) (hen : en ∈ cd f) (hls : okFL ls) (hst : okFS st) (hkn : ∀ pc ls st I, okFL ls → okFS st → kn pc ls st I → GoI f pc (avL ls) (st.map av) I P) (hcz : ∀ (g : Nat) (as : List AV) (I : Mm) (K : NV → Mm → Prop), cz g as I K → okFS as → CallN g as I K) (hcv : ∀ (g : Nat) (as : List AV) (I : Mm) (K : Mm → Prop), cv g as I K → okFS as → CallV g as I K) (hcr : ∀ (g : Nat) (as : List AV) (I : Mm) (K : RF → Mm → Prop), cr g as I K → okFS as → CallR g as I K) (hrt : ∀ v I, rt v I → okR v → P (arv v) I) (h : vst mm en ls st I kn cz cv cr rt) : GoI f en.1 (avL ls) (st.map av) I P := by
  have hl := lkE_mem (sorB_all f) hen
  have hz := List.all_eq_true.mp (okZ_all f) en hen
  obtain ⟨pc, i, n, v, a, b⟩ := en
  cases i with
  | iconst z => exact sv_iconst hm hls hst hkn hl hz h
  | bipush z => exact sv_bipush hm hls hst hkn hl hz h
  | sipush z => exact sv_sipush hm hls hst hkn hl hz h
  | ldc z => exact sv_ldc hm hls hst hkn hl h
  | iload z => exact sv_iload hm hls hst hkn hl h
  | iload_n z => exact sv_iload_n hm hls hst hkn hl h
  | aload z => exact sv_aload hm hls hst hkn hl h
  | aload_n z => exact sv_aload_n hm hls hst hkn hl h
  | istore z => exact sv_istore hm hls hst hkn hl h
  | istore_n z => exact sv_istore_n hm hls hst hkn hl h
  | astore z => exact sv_astore hm hls hst hkn hl h
  | astore_n z => exact sv_astore_n hm hls hst hkn hl h
  | iinc z y => exact sv_iinc hm hls hst hkn hl hz h
  | iadd => exact sv_iadd hm hls hst hkn hl h
  | isub => exact sv_isub hm hls hst hkn hl h
  | imul => exact sv_imul hm hls hst hkn hl h
  | idiv => exact sv_idiv hm hls hst hkn hl h
  | irem => exact sv_irem hm hls hst hkn hl h
  | dup => exact sv_dup hm hls hst hkn hl h
  | dup2 => exact sv_dup2 hm hls hst hkn hl h
  | ifCond c z => exact sv_ifCond hm hls hst hkn hl h
  | if_icmp c z => exact sv_icmp hm hls hst hkn hl h
  | goto z => exact sv_goto hm hls hst hkn hl h
  | getfield z => exact sv_getfield hm hls hst hkn hl h
  | putfield z => exact sv_putfield hm hls hst hkn hl h
  | iaload => exact sv_iaload hm hls hst hkn hl h
  | baload => exact sv_baload hm hls hst hkn hl h
  | iastore => exact sv_iastore hm hls hst hkn hl h
  | bastore => exact sv_bastore hm hls hst hkn hl h
  | aaload => exact sv_aaload hm hls hst hkn hl h
  | arraylength => exact sv_alen hm hls hst hkn hl h
  | tableswitch d lo hi offs => exact sv_tabsw hm hls hst hkn hl hz h
  | lookupswitch d ps => exact sv_looksw hm hls hst hkn hl h
  | invokevirtual z => exact sv_virt hm hls hst hkn hcz hcv hcr hl h
  | invokestatic z => exact sv_stat hm hls hst hkn hcz hcv hcr hl h
  | ireturn => exact sv_ireturn hm hls hst hkn hrt hl h
  | areturn => exact sv_areturn hm hls hst hkn hrt hl h
  | return_ => exact sv_return hm hls hst hkn hrt hl h
  | _ => exact (show False from h).elim
/-! stretches of code -/
def hdE (es : List En) (pc : Nat) : Bool := match es with
  | [] => false
  | e :: _ => decide (e.1 = pc)
def lkL : List En → Nat → List En
  | [], _ => []
  | e :: es, pc => if e.1 = pc then e :: es else lkL es pc
def sfx (f : Nat) (es : List En) (pc : Nat) : List En := if hdE es pc = true then es else lkL (cd f) pc
def entA (g : MT) (as : List AV) : AL := as.map some ++ List.replicate (g.2.2.1 - as.length) none
def rN (K : NV → Mm → Prop) (v : AR) (I : Mm) : Prop := match v with
  | some (.inl x) => K x I
  | _ => False
def rZ (K : Int → Mm → Prop) : AR → Mm → Prop := rN (fun x I => K (vi x) I)
def rV (K : Mm → Prop) (v : AR) (I : Mm) : Prop := match v with
  | none => K I
  | _ => False
def rR (K : RF → Mm → Prop) (v : AR) (I : Mm) : Prop := match v with
  | some (.inr q) => K q I
  | _ => False
def vcs (inl : List Nat) : Nat → List Nat → Nat → MT → (Nat → AL → List AV → Mm → Prop) → (AR → Mm → Prop) → List En → Nat → AL → List AV → Mm → Prop
  | 0, _, _, _, _, _, _, _, _, _, _ => False
  | n + 1, cuts, f, mm, kt, rt, es, pc, ls, st, I => match sfx f es pc with
    | [] => False
    | e :: es' => vst mm e ls st I (fun pc' ls' st' I' => if pc' ∈ cuts then kt pc' ls' st' I' else vcs inl n cuts f mm kt rt es' pc' ls' st' I')
      (fun g as I K => if g ∈ inl then (match mT g with
        | some mg => vcs inl n [] g mg (fun _ _ _ _ => False) (rN K) (cd g) 0 (entA mg as) [] I
        | none => False) else CallZ g as I (fun x I' => K (1, x) I'))
      (fun g as I K => if g ∈ inl then (match mT g with
        | some mg => vcs inl n [] g mg (fun _ _ _ _ => False) (rV K) (cd g) 0 (entA mg as) [] I
        | none => False) else CallV g as I K)
      (fun g as I K => if g ∈ inl then (match mT g with
        | some mg => vcs inl n [] g mg (fun _ _ _ _ => False) (rR K) (cd g) 0 (entA mg as) [] I
        | none => False) else CallR g as I K) rt
theorem lkL_spec : ∀ {k : List En} {pc : Nat} {e : En} {es : List En}, lkL k pc = e :: es → e.1 = pc ∧ (∀ q ∈ e :: es, q ∈ k)
  | [], pc, e, es, h => by cases h
  | q :: k, pc, e, es, h => by
    unfold lkL at h
    split at h
    · rename_i hq
      cases h
      exact ⟨hq, fun _ h => h⟩
    · obtain ⟨h1, h2⟩ := lkL_spec h
      exact ⟨h1, fun q hq => List.mem_cons_of_mem _ (h2 q hq)⟩
theorem sfx_spec {f : Nat} {es : List En} {pc : Nat} {e : En} {es' : List En} (hes : ∀ q ∈ es, q ∈ cd f) (h : sfx f es pc = e :: es') : e.1 = pc ∧ (∀ q ∈ e :: es', q ∈ cd f) := by
  unfold sfx at h
  split at h
  · rename_i hh
    subst h
    refine ⟨?_, hes⟩
    simpa [hdE] using hh
  · exact lkL_spec h
theorem entA_eq (g : MT) (as : List AV) : avL (entA g as) = entL g (as.map av) := by
  simp [avL, entA, entL, List.map_append, List.map_map, Function.comp_def]
theorem okFL_ent {g : MT} {as : List AV} (h : okFS as) : okFL (entA g as) := by
  intro v hv
  unfold entA at hv
  rcases List.mem_append.mp hv with h1 | h1
  · obtain ⟨w, hw, e⟩ := List.mem_map.mp h1
    cases e
    exact h v hw
  · exact absurd (List.eq_of_mem_replicate h1) (by simp)
theorem GoI.mono {f pc : Nat} {ls : Lc} {st : List Value} {I : Mm} {P P' : Option Value → Mm → Prop} (h : GoI f pc ls st I P) (hp : ∀ r I', P r I' → P' r I') : GoI f pc ls st I P' := by
  intro N M G hS
  obtain ⟨n0, r, I', h1, h2⟩ := h N M G hS
  exact ⟨n0, r, I', h1, hp _ _ h2⟩
theorem callN_of {g : Nat} {mg : MT} {as : List AV} {I : Mm} {K : NV → Mm → Prop} (hm : mT g = some mg) (h : GoA g 0 (entA mg as) [] I (rN K)) : CallN g as I K := by
  refine ⟨mg, hm, ?_⟩
  unfold GoA at h
  rw [entA_eq] at h
  refine h.mono ?_
  rintro r I' ⟨v, rfl, h1, h2⟩
  cases v with
  | none => exact (show False from h2).elim
  | some w =>
    cases w with
    | inl x => exact ⟨x, rfl, h1, h2⟩
    | inr q => exact (show False from h2).elim
theorem callZ_of {g : Nat} {mg : MT} {as : List AV} {I : Mm} {K : Int → Mm → Prop} (hm : mT g = some mg) (h : GoA g 0 (entA mg as) [] I (rZ K)) : CallZ g as I K := by
  obtain ⟨mg, hm, K⟩ := callN_of hm h
  refine ⟨mg, hm, K.mono ?_⟩
  rintro r I' ⟨x, rfl, h1, h2⟩
  exact ⟨vi x, by rw [of_vi h1], vi_in h1, h2⟩
theorem callV_of {g : Nat} {mg : MT} {as : List AV} {I : Mm} {K : Mm → Prop} (hm : mT g = some mg) (h : GoA g 0 (entA mg as) [] I (rV K)) : CallV g as I K := by
  refine ⟨mg, hm, ?_⟩
  unfold GoA at h
  rw [entA_eq] at h
  refine h.mono ?_
  rintro r I' ⟨v, rfl, h1, h2⟩
  cases v with
  | none => exact ⟨rfl, h2⟩
  | some w => exact (show False from h2).elim
theorem callR_of {g : Nat} {mg : MT} {as : List AV} {I : Mm} {K : RF → Mm → Prop} (hm : mT g = some mg) (h : GoA g 0 (entA mg as) [] I (rR K)) : CallR g as I K := by
  refine ⟨mg, hm, ?_⟩
  unfold GoA at h
  rw [entA_eq] at h
  refine h.mono ?_
  rintro r I' ⟨v, rfl, h1, h2⟩
  cases v with
  | none => exact (show False from h2).elim
  | some w =>
    cases w with
    | inl x => exact (show False from h2).elim
    | inr q => exact ⟨q, rfl, h1, h2⟩
theorem vcs_sound (inl : List Nat) : ∀ (n : Nat) (cuts : List Nat) (f : Nat) (mm : MT) (kt : Nat → AL → List AV → Mm → Prop) (rt : AR → Mm → Prop) (es : List En) (pc : Nat) (ls : AL) (st : List AV) (I : Mm), mT f = some mm → (∀ q ∈ es, q ∈ cd f) → (∀ pc ls st I, kt pc ls st I → GoA f pc ls st I rt) → okFL ls → okFS st → vcs inl n cuts f mm kt rt es pc ls st I → GoA f pc ls st I rt := by
  intro n
  induction n with
  | zero => intro cuts f mm kt rt es pc ls st I _ _ _ _ _ h; exact h.elim
  | succ n ih =>
    intro cuts f mm kt rt es pc ls st I hm hes hkt hls hst h
    unfold vcs at h
    split at h
    · exact h.elim
    · rename_i e es' hs
      obtain ⟨rfl, hmem⟩ := sfx_spec hes hs
      have hnil : okFS [] := fun w hw => absurd hw List.not_mem_nil
      refine vst_sound hm (hmem e List.mem_cons_self) hls hst ?_ ?_ ?_ ?_ ?_ h
      · intro pc' ls' st' I' hl' hs' hk
        split at hk
        · exact hkt _ _ _ _ hk
        · exact ih cuts f mm kt rt es' pc' ls' st' I' hm (fun q hq => hmem q (List.mem_cons_of_mem _ hq)) hkt hl' hs' hk
      · intro g as I' K hc hok
        split at hc
        · split at hc
          · rename_i mg hmg
            exact callN_of hmg (ih [] g mg _ (rN K) (cd g) 0 (entA mg as) [] I' hmg (fun _ h => h) (fun _ _ _ _ h => h.elim) (okFL_ent hok) hnil hc)
          · exact hc.elim
        · obtain ⟨mg, hmg, hc⟩ := hc
          refine ⟨mg, hmg, hc.mono ?_⟩
          rintro r I2 ⟨x, rfl, hx, hk⟩
          exact ⟨(1, x), rfl, okF_1 hx 1, hk⟩
      · intro g as I' K hc hok
        split at hc
        · split at hc
          · rename_i mg hmg
            exact callV_of hmg (ih [] g mg _ (rV K) (cd g) 0 (entA mg as) [] I' hmg (fun _ h => h) (fun _ _ _ _ h => h.elim) (okFL_ent hok) hnil hc)
          · exact hc.elim
        · exact hc
      · intro g as I' K hc hok
        split at hc
        · split at hc
          · rename_i mg hmg
            exact callR_of hmg (ih [] g mg _ (rR K) (cd g) 0 (entA mg as) [] I' hmg (fun _ h => h) (fun _ _ _ _ h => h.elim) (okFL_ent hok) hnil hc)
          · exact hc.elim
        · exact hc
      · intro v I' h1 h2
        exact ⟨v, rfl, h2, h1⟩
/-- a stretch from any place; the numbers may be known by other means than before -/
theorem vgo {inl : List Nat} (n : Nat) (cuts : List Nat) {f pc : Nat} {mm : MT} {ls ls' : AL} {st : List AV} {I : Mm} {rt : AR → Mm → Prop} (hm : mT f = some mm) (he : avL ls' = avL ls) (hls : okFL ls') (hst : okFS st) (h : vcs inl n cuts f mm (fun pc ls st I => GoA f pc ls st I rt) rt (cd f) pc ls' st I) : GoA f pc ls st I rt := by
  have K := vcs_sound inl n cuts f mm _ rt (cd f) pc ls' st I hm (fun _ h => h) (fun _ _ _ _ h => h) hls hst h
  unfold GoA at K ⊢
  rw [he] at K
  exact K
theorem GoA.fl {f pc : Nat} {ls ls' : AL} {st st' : List AV} {I : Mm} {rt : AR → Mm → Prop} (he : avL ls' = avL ls) (hs : st'.map av = st.map av) (h : GoA f pc ls' st' I rt) : GoA f pc ls st I rt := by
  unfold GoA at h ⊢
  rw [he, hs] at h
  exact h
theorem okFL_e : okFL [] := fun w hw => absurd hw List.not_mem_nil
theorem okFS_e : okFS [] := fun w hw => absurd hw List.not_mem_nil
theorem okFL_s {v : AV} {ls : AL} (h : okF v) (t : okFL ls) : okFL (some v :: ls) := by
  intro w hw
  rcases List.mem_cons.mp hw with h1 | h1
  · cases h1; exact h
  · exact t w h1
theorem okFL_n {ls : AL} (t : okFL ls) : okFL (none :: ls) := by
  intro w hw
  rcases List.mem_cons.mp hw with h1 | h1
  · cases h1
  · exact t w h1
def isX (B : Nat) : Prop := ∃ i, i < 6 ∧ B = 62 + 25 * i
def isT (B : Nat) : Prop := ∃ i, i < 8 ∧ B = 22 + 5 * i
theorem okF_X {B o : Nat} (h : isX B) (ho : ¬ tkd 2 o = 99) : okF (.inr (2, B, o)) := ⟨h, ho⟩
theorem okF_T {B o : Nat} (h : isT B) (ho : ¬ tkd 1 o = 99) : okF (.inr (1, B, o)) := ⟨h, ho⟩
theorem okF_A {o : Nat} (ho : ¬ tkd 0 o = 99) : okF (.inr (0, 0, o)) := ⟨trivial, ho⟩
theorem okF_M {o : Nat} (ho : ¬ tkd 3 o = 99) : okF (.inr (3, 0, o)) := ⟨trivial, ho⟩
theorem callZ_fl {g : Nat} {as as' : List AV} {I : Mm} {K : Int → Mm → Prop} (he : as'.map av = as.map av) (h : CallZ g as' I K) : CallZ g as I K := by
  unfold CallZ at h ⊢
  rw [he] at h
  exact h
theorem callV_fl {g : Nat} {as as' : List AV} {I : Mm} {K : Mm → Prop} (he : as'.map av = as.map av) (h : CallV g as' I K) : CallV g as I K := by
  unfold CallV at h ⊢
  rw [he] at h
  exact h
theorem callR_fl {g : Nat} {as as' : List AV} {I : Mm} {K : RF → Mm → Prop} (he : as'.map av = as.map av) (h : CallR g as' I K) : CallR g as I K := by
  unfold CallR at h ⊢
  rw [he] at h
  exact h
end
section
/-! reading behind writing -/
theorem wrx {x : Int} (h1 : -2147483648 ≤ x) (h2 : x < 2147483648) : wr x = x := wr_of ⟨h1, h2⟩
theorem inRx {x : Int} (h1 : -2147483648 ≤ x) (h2 : x < 2147483648) : inR x := ⟨h1, h2⟩
theorem rd_lo (I : Mm) (a k : Nat) : -2147483648 ≤ rd I a k := (rd_in I a k).1
theorem rd_hi (I : Mm) (a k : Nat) : rd I a k < 2147483648 := (rd_in I a k).2
theorem rd_wt (I : Mm) (a k : Nat) (x : Int) (b j : Nat) : rd (wt I a k x) b j = if b = a then (if j = k then wr x else rd I a j) else rd I b j := by
  unfold rd wt va_up upd
  by_cases h1 : b = a
  · by_cases h2 : j = k
    · subst h1; subst h2; simp [wr]
    · subst h1; simp [h2]
  · simp [h1]
theorem rd_wt_s (I : Mm) (a k : Nat) {x : Int} (hx : inR x) : rd (wt I a k x) a k = x := by
  rw [rd_wt, if_pos rfl, if_pos rfl, wr_of hx]
theorem rd_wt_k (I : Mm) (a k : Nat) (x : Int) {j : Nat} (h : j ≠ k) : rd (wt I a k x) a j = rd I a j := by
  rw [rd_wt, if_pos rfl, if_neg h]
theorem rd_wt_a (I : Mm) (a k : Nat) (x : Int) {b : Nat} (h : b ≠ a) (j : Nat) : rd (wt I a k x) b j = rd I b j := by
  rw [rd_wt, if_neg h]
theorem rd_cp (I : Mm) (r0 r1 sp dp n b j : Nat) : rd (cp I r0 r1 sp dp n) b j = if b = r1 then (if dp ≤ j ∧ j < dp + n then rd I r0 (sp + (j - dp)) else rd I r1 j) else rd I b j := by
  unfold rd cp va_up va_cpy
  by_cases h1 : b = r1
  · by_cases h2 : dp ≤ j ∧ j < dp + n
    · subst h1; simp [h2]
    · subst h1; simp [h2]
  · simp [h1]
theorem rd_cp_a (I : Mm) (r0 r1 sp dp n : Nat) {b : Nat} (h : b ≠ r1) (j : Nat) : rd (cp I r0 r1 sp dp n) b j = rd I b j := by
  rw [rd_cp, if_neg h]
theorem rd_cp_i (I : Mm) (r0 r1 sp dp n : Nat) {j : Nat} (h : dp ≤ j ∧ j < dp + n) : rd (cp I r0 r1 sp dp n) r1 j = rd I r0 (sp + (j - dp)) := by
  rw [rd_cp, if_pos rfl, if_pos h]
theorem rd_cp_o (I : Mm) (r0 r1 sp dp n : Nat) {j : Nat} (h : ¬ (dp ≤ j ∧ j < dp + n)) : rd (cp I r0 r1 sp dp n) r1 j = rd I r1 j := by
  rw [rd_cp, if_pos rfl, if_neg h]
theorem wt_a (I : Mm) (a k : Nat) (x : Int) {b : Nat} (h : b ≠ a) : wt I a k x b = I b := by
  unfold wt; rw [va_up_ne _ _ h]
theorem cp_a (I : Mm) (r0 r1 sp dp n : Nat) {b : Nat} (h : b ≠ r1) : cp I r0 r1 sp dp n b = I b := by
  unfold cp; rw [va_up_ne _ _ h]
theorem rd_of {I I' : Mm} {a : Nat} (h : I' a = I a) (k : Nat) : rd I' a k = rd I a k := by
  unfold rd; rw [h]
def okO (m : Option AV) : Prop := ∀ v, m = some v → okF v
theorem okO_n : okO none := fun v h => by cases h
theorem okO_s {v : AV} (h : okF v) : okO (some v) := fun w e => by cases e; exact h
theorem okFL_o {m : Option AV} {ls : AL} (h : okO m) (t : okFL ls) : okFL (m :: ls) := by
  intro w hw
  rcases List.mem_cons.mp hw with h1 | h1
  · exact h w h1.symm
  · exact t w h1
/-! rows of an array -/
def seg (f : Nat → Int) (b n : Nat) : List Int := (List.range n).map (fun k => f (b + k))
theorem seg_len (f : Nat → Int) (b n : Nat) : (seg f b n).length = n := by simp [seg]
theorem seg_get (f : Nat → Int) (b : Nat) {n k : Nat} (h : k < n) : (seg f b n)[k]? = some (f (b + k)) := by simp [seg, h]
theorem seg_ext {f : Nat → Int} {b n : Nat} {l : List Int} (hl : l.length = n) (h : ∀ k, k < n → l[k]? = some (f (b + k))) : seg f b n = l := by
  apply List.ext_getElem?
  intro i
  by_cases hi : i < n
  · rw [seg_get f b hi, h i hi]
  · rw [List.getElem?_eq_none (by rw [seg_len]; omega), List.getElem?_eq_none (by omega)]
theorem seg_congr {f g : Nat → Int} {b c n : Nat} (h : ∀ k, k < n → f (b + k) = g (c + k)) : seg f b n = seg g c n := by
  apply seg_ext (seg_len _ _ _)
  intro k hk
  rw [seg_get g c hk, h k hk]
theorem seg_zero (f : Nat → Int) (b : Nat) : seg f b 0 = [] := rfl
theorem seg_succ (f : Nat → Int) (b n : Nat) : seg f b (n + 1) = seg f b n ++ [f (b + n)] := by
  simp [seg, List.range_succ]
theorem seg_cons (f : Nat → Int) (b n : Nat) : seg f b (n + 1) = f b :: seg f (b + 1) n := by
  apply seg_ext
  · simp [seg_len]
  · intro k hk
    cases k with
    | zero => simp
    | succ k =>
      rw [List.getElem?_cons_succ, seg_get f (b + 1) (by omega)]
      rw [show b + 1 + k = b + (k + 1) by omega]
theorem seg_app (f : Nat → Int) (b n m : Nat) : seg f b (n + m) = seg f b n ++ seg f (b + n) m := by
  apply seg_ext
  · simp [seg_len]
  · intro k hk
    by_cases h : k < n
    · rw [List.getElem?_append_left (by rw [seg_len]; exact h), seg_get f b h]
    · rw [List.getElem?_append_right (by rw [seg_len]; omega), seg_len, seg_get f (b + n) (by omega)]
      rw [show b + n + (k - n) = b + k by omega]
theorem seg_mem {f : Nat → Int} {b n : Nat} {x : Int} : x ∈ seg f b n ↔ ∃ k, k < n ∧ x = f (b + k) := by
  simp only [seg, List.mem_map, List.mem_range]
  constructor
  · rintro ⟨k, h, rfl⟩; exact ⟨k, h, rfl⟩
  · rintro ⟨k, h, rfl⟩; exact ⟨k, h, rfl⟩
end
section
set_option maxHeartbeats 4000000 in
set_option maxRecDepth 100000 in
theorem b_cmp_23_3 {I : Mm} {rt : AR → Mm → Prop} {B : Nat} (hB : isX B) {p : Int} (hp : inR p) {q : Int} (hq : inR q)  (h : GoA 4 3 [some (.inr (2, B, 23)), some (.inl (1, p)), some (.inr (2, B, 3)), some (.inl (1, q)), some (.inl (2, 0)), none, none] [] I rt) : GoA 4 0 [some (.inr (2, B, 23)), some (.inl (1, p)), some (.inr (2, B, 3)), some (.inl (1, q)), none, none, none] [] I rt :=
  vgo (inl := []) 7 [3] rfl rfl (okFL_s (okF_X hB (by decide)) (okFL_s (okF_1 hp 1) (okFL_s (okF_X hB (by decide)) (okFL_s (okF_1 hq 1) (okFL_n (okFL_n (okFL_n okFL_e))))))) okFS_e h
set_option maxHeartbeats 4000000 in
set_option maxRecDepth 100000 in
theorem b_cmp_23_3_3 {I : Mm} {rt : AR → Mm → Prop} {B : Nat} (hB : isX B)  {p : Int} (hp : inR p) {q : Int} (hq : inR q) {w : Int} (hw : inR w) {m5 : Option AV} (hm5 : okO m5) {m6 : Option AV} (hm6 : okO m6) (h : (4 ≤ w → rt (some (.inl (2, 0))) I) ∧ (¬ 4 ≤ w → (0 ≤ (wr ((p * 4) + w)) ∧ (wr ((p * 4) + w)) < 4) ∧ (∀ v5_1, v5_1 = rd I (B + 24) (wr ((p * 4) + w)).toNat → inR v5_1 → (0 ≤ (wr ((q * 4) + w)) ∧ (wr ((q * 4) + w)) < 2592) ∧ (∀ v6_2, v6_2 = rd I (B + 4) (wr ((q * 4) + w)).toNat → inR v6_2 → (v5_1 = v6_2 → ∀ v4_3, v4_3 = wr (w + 1) → inR v4_3 → GoA 4 3 [some (.inr (2, B, 23)), some (.inl (1, p)), some (.inr (2, B, 3)), some (.inl (1, q)), some (.inl (1, v4_3)), some (.inl (1, v5_1)), some (.inl (1, v6_2))] [] I rt) ∧ (¬ v5_1 = v6_2 → (v6_2 ≤ v5_1 → rt (some (.inl (2, 1))) I) ∧ (¬ v6_2 ≤ v5_1 → rt (some (.inl (2, (-1)))) I)))))) : GoA 4 3 [some (.inr (2, B, 23)), some (.inl (1, p)), some (.inr (2, B, 3)), some (.inl (1, q)), some (.inl (1, w)), m5, m6] [] I rt :=
  vgo (inl := []) 35 [3] rfl rfl (okFL_s (okF_X hB (by decide)) (okFL_s (okF_1 hp 1) (okFL_s (okF_X hB (by decide)) (okFL_s (okF_1 hq 1) (okFL_s (okF_1 hw 1) (okFL_o hm5 (okFL_o hm6 okFL_e))))))) okFS_e h

set_option maxHeartbeats 4000000 in
set_option maxRecDepth 100000 in
theorem b_cmp_20_3 {I : Mm} {rt : AR → Mm → Prop} {B : Nat} (hB : isX B) {p : Int} (hp : inR p) {q : Int} (hq : inR q)  (h : GoA 4 3 [some (.inr (2, B, 20)), some (.inl (1, p)), some (.inr (2, B, 3)), some (.inl (1, q)), some (.inl (2, 0)), none, none] [] I rt) : GoA 4 0 [some (.inr (2, B, 20)), some (.inl (1, p)), some (.inr (2, B, 3)), some (.inl (1, q)), none, none, none] [] I rt :=
  vgo (inl := []) 7 [3] rfl rfl (okFL_s (okF_X hB (by decide)) (okFL_s (okF_1 hp 1) (okFL_s (okF_X hB (by decide)) (okFL_s (okF_1 hq 1) (okFL_n (okFL_n (okFL_n okFL_e))))))) okFS_e h
set_option maxHeartbeats 4000000 in
set_option maxRecDepth 100000 in
theorem b_cmp_20_3_3 {I : Mm} {rt : AR → Mm → Prop} {B : Nat} (hB : isX B)  {p : Int} (hp : inR p) {q : Int} (hq : inR q) {w : Int} (hw : inR w) {m5 : Option AV} (hm5 : okO m5) {m6 : Option AV} (hm6 : okO m6) (h : (4 ≤ w → rt (some (.inl (2, 0))) I) ∧ (¬ 4 ≤ w → (0 ≤ (wr ((p * 4) + w)) ∧ (wr ((p * 4) + w)) < 2560) ∧ (∀ v5_1, v5_1 = rd I (B + 21) (wr ((p * 4) + w)).toNat → inR v5_1 → (0 ≤ (wr ((q * 4) + w)) ∧ (wr ((q * 4) + w)) < 2592) ∧ (∀ v6_2, v6_2 = rd I (B + 4) (wr ((q * 4) + w)).toNat → inR v6_2 → (v5_1 = v6_2 → ∀ v4_3, v4_3 = wr (w + 1) → inR v4_3 → GoA 4 3 [some (.inr (2, B, 20)), some (.inl (1, p)), some (.inr (2, B, 3)), some (.inl (1, q)), some (.inl (1, v4_3)), some (.inl (1, v5_1)), some (.inl (1, v6_2))] [] I rt) ∧ (¬ v5_1 = v6_2 → (v6_2 ≤ v5_1 → rt (some (.inl (2, 1))) I) ∧ (¬ v6_2 ≤ v5_1 → rt (some (.inl (2, (-1)))) I)))))) : GoA 4 3 [some (.inr (2, B, 20)), some (.inl (1, p)), some (.inr (2, B, 3)), some (.inl (1, q)), some (.inl (1, w)), m5, m6] [] I rt :=
  vgo (inl := []) 35 [3] rfl rfl (okFL_s (okF_X hB (by decide)) (okFL_s (okF_1 hp 1) (okFL_s (okF_X hB (by decide)) (okFL_s (okF_1 hq 1) (okFL_s (okF_1 hw 1) (okFL_o hm5 (okFL_o hm6 okFL_e))))))) okFS_e h

set_option maxHeartbeats 4000000 in
set_option maxRecDepth 100000 in
theorem b_cmp_16_3 {I : Mm} {rt : AR → Mm → Prop} {B : Nat} (hB : isX B) {p : Int} (hp : inR p) {q : Int} (hq : inR q)  (h : GoA 4 3 [some (.inr (2, B, 16)), some (.inl (1, p)), some (.inr (2, B, 3)), some (.inl (1, q)), some (.inl (2, 0)), none, none] [] I rt) : GoA 4 0 [some (.inr (2, B, 16)), some (.inl (1, p)), some (.inr (2, B, 3)), some (.inl (1, q)), none, none, none] [] I rt :=
  vgo (inl := []) 7 [3] rfl rfl (okFL_s (okF_X hB (by decide)) (okFL_s (okF_1 hp 1) (okFL_s (okF_X hB (by decide)) (okFL_s (okF_1 hq 1) (okFL_n (okFL_n (okFL_n okFL_e))))))) okFS_e h
set_option maxHeartbeats 4000000 in
set_option maxRecDepth 100000 in
theorem b_cmp_16_3_3 {I : Mm} {rt : AR → Mm → Prop} {B : Nat} (hB : isX B)  {p : Int} (hp : inR p) {q : Int} (hq : inR q) {w : Int} (hw : inR w) {m5 : Option AV} (hm5 : okO m5) {m6 : Option AV} (hm6 : okO m6) (h : (4 ≤ w → rt (some (.inl (2, 0))) I) ∧ (¬ 4 ≤ w → (0 ≤ (wr ((p * 4) + w)) ∧ (wr ((p * 4) + w)) < 1200) ∧ (∀ v5_1, v5_1 = rd I (B + 17) (wr ((p * 4) + w)).toNat → inR v5_1 → (0 ≤ (wr ((q * 4) + w)) ∧ (wr ((q * 4) + w)) < 2592) ∧ (∀ v6_2, v6_2 = rd I (B + 4) (wr ((q * 4) + w)).toNat → inR v6_2 → (v5_1 = v6_2 → ∀ v4_3, v4_3 = wr (w + 1) → inR v4_3 → GoA 4 3 [some (.inr (2, B, 16)), some (.inl (1, p)), some (.inr (2, B, 3)), some (.inl (1, q)), some (.inl (1, v4_3)), some (.inl (1, v5_1)), some (.inl (1, v6_2))] [] I rt) ∧ (¬ v5_1 = v6_2 → (v6_2 ≤ v5_1 → rt (some (.inl (2, 1))) I) ∧ (¬ v6_2 ≤ v5_1 → rt (some (.inl (2, (-1)))) I)))))) : GoA 4 3 [some (.inr (2, B, 16)), some (.inl (1, p)), some (.inr (2, B, 3)), some (.inl (1, q)), some (.inl (1, w)), m5, m6] [] I rt :=
  vgo (inl := []) 35 [3] rfl rfl (okFL_s (okF_X hB (by decide)) (okFL_s (okF_1 hp 1) (okFL_s (okF_X hB (by decide)) (okFL_s (okF_1 hq 1) (okFL_s (okF_1 hw 1) (okFL_o hm5 (okFL_o hm6 okFL_e))))))) okFS_e h

set_option maxHeartbeats 4000000 in
set_option maxRecDepth 100000 in
theorem b_cmp_3_3 {I : Mm} {rt : AR → Mm → Prop} {B : Nat} (hB : isX B) {p : Int} (hp : inR p) {q : Int} (hq : inR q)  (h : GoA 4 3 [some (.inr (2, B, 3)), some (.inl (1, p)), some (.inr (2, B, 3)), some (.inl (1, q)), some (.inl (2, 0)), none, none] [] I rt) : GoA 4 0 [some (.inr (2, B, 3)), some (.inl (1, p)), some (.inr (2, B, 3)), some (.inl (1, q)), none, none, none] [] I rt :=
  vgo (inl := []) 7 [3] rfl rfl (okFL_s (okF_X hB (by decide)) (okFL_s (okF_1 hp 1) (okFL_s (okF_X hB (by decide)) (okFL_s (okF_1 hq 1) (okFL_n (okFL_n (okFL_n okFL_e))))))) okFS_e h
set_option maxHeartbeats 4000000 in
set_option maxRecDepth 100000 in
theorem b_cmp_3_3_3 {I : Mm} {rt : AR → Mm → Prop} {B : Nat} (hB : isX B)  {p : Int} (hp : inR p) {q : Int} (hq : inR q) {w : Int} (hw : inR w) {m5 : Option AV} (hm5 : okO m5) {m6 : Option AV} (hm6 : okO m6) (h : (4 ≤ w → rt (some (.inl (2, 0))) I) ∧ (¬ 4 ≤ w → (0 ≤ (wr ((p * 4) + w)) ∧ (wr ((p * 4) + w)) < 2592) ∧ (∀ v5_1, v5_1 = rd I (B + 4) (wr ((p * 4) + w)).toNat → inR v5_1 → (0 ≤ (wr ((q * 4) + w)) ∧ (wr ((q * 4) + w)) < 2592) ∧ (∀ v6_2, v6_2 = rd I (B + 4) (wr ((q * 4) + w)).toNat → inR v6_2 → (v5_1 = v6_2 → ∀ v4_3, v4_3 = wr (w + 1) → inR v4_3 → GoA 4 3 [some (.inr (2, B, 3)), some (.inl (1, p)), some (.inr (2, B, 3)), some (.inl (1, q)), some (.inl (1, v4_3)), some (.inl (1, v5_1)), some (.inl (1, v6_2))] [] I rt) ∧ (¬ v5_1 = v6_2 → (v6_2 ≤ v5_1 → rt (some (.inl (2, 1))) I) ∧ (¬ v6_2 ≤ v5_1 → rt (some (.inl (2, (-1)))) I)))))) : GoA 4 3 [some (.inr (2, B, 3)), some (.inl (1, p)), some (.inr (2, B, 3)), some (.inl (1, q)), some (.inl (1, w)), m5, m6] [] I rt :=
  vgo (inl := []) 35 [3] rfl rfl (okFL_s (okF_X hB (by decide)) (okFL_s (okF_1 hp 1) (okFL_s (okF_X hB (by decide)) (okFL_s (okF_1 hq 1) (okFL_s (okF_1 hw 1) (okFL_o hm5 (okFL_o hm6 okFL_e))))))) okFS_e h

set_option maxHeartbeats 4000000 in
set_option maxRecDepth 100000 in
theorem b_cmp_20_20 {I : Mm} {rt : AR → Mm → Prop} {B : Nat} (hB : isX B) {p : Int} (hp : inR p) {q : Int} (hq : inR q)  (h : GoA 4 3 [some (.inr (2, B, 20)), some (.inl (1, p)), some (.inr (2, B, 20)), some (.inl (1, q)), some (.inl (2, 0)), none, none] [] I rt) : GoA 4 0 [some (.inr (2, B, 20)), some (.inl (1, p)), some (.inr (2, B, 20)), some (.inl (1, q)), none, none, none] [] I rt :=
  vgo (inl := []) 7 [3] rfl rfl (okFL_s (okF_X hB (by decide)) (okFL_s (okF_1 hp 1) (okFL_s (okF_X hB (by decide)) (okFL_s (okF_1 hq 1) (okFL_n (okFL_n (okFL_n okFL_e))))))) okFS_e h
set_option maxHeartbeats 4000000 in
set_option maxRecDepth 100000 in
theorem b_cmp_20_20_3 {I : Mm} {rt : AR → Mm → Prop} {B : Nat} (hB : isX B)  {p : Int} (hp : inR p) {q : Int} (hq : inR q) {w : Int} (hw : inR w) {m5 : Option AV} (hm5 : okO m5) {m6 : Option AV} (hm6 : okO m6) (h : (4 ≤ w → rt (some (.inl (2, 0))) I) ∧ (¬ 4 ≤ w → (0 ≤ (wr ((p * 4) + w)) ∧ (wr ((p * 4) + w)) < 2560) ∧ (∀ v5_1, v5_1 = rd I (B + 21) (wr ((p * 4) + w)).toNat → inR v5_1 → (0 ≤ (wr ((q * 4) + w)) ∧ (wr ((q * 4) + w)) < 2560) ∧ (∀ v6_2, v6_2 = rd I (B + 21) (wr ((q * 4) + w)).toNat → inR v6_2 → (v5_1 = v6_2 → ∀ v4_3, v4_3 = wr (w + 1) → inR v4_3 → GoA 4 3 [some (.inr (2, B, 20)), some (.inl (1, p)), some (.inr (2, B, 20)), some (.inl (1, q)), some (.inl (1, v4_3)), some (.inl (1, v5_1)), some (.inl (1, v6_2))] [] I rt) ∧ (¬ v5_1 = v6_2 → (v6_2 ≤ v5_1 → rt (some (.inl (2, 1))) I) ∧ (¬ v6_2 ≤ v5_1 → rt (some (.inl (2, (-1)))) I)))))) : GoA 4 3 [some (.inr (2, B, 20)), some (.inl (1, p)), some (.inr (2, B, 20)), some (.inl (1, q)), some (.inl (1, w)), m5, m6] [] I rt :=
  vgo (inl := []) 35 [3] rfl rfl (okFL_s (okF_X hB (by decide)) (okFL_s (okF_1 hp 1) (okFL_s (okF_X hB (by decide)) (okFL_s (okF_1 hq 1) (okFL_s (okF_1 hw 1) (okFL_o hm5 (okFL_o hm6 okFL_e))))))) okFS_e h

set_option maxHeartbeats 4000000 in
set_option maxRecDepth 100000 in
theorem b_empty {I : Mm} {rt : AR → Mm → Prop} {B : Nat} (hB : isX B)  (h : GoA 59 2 [some (.inr (2, B, 2)), some (.inl (2, 0))] [] I rt) : GoA 59 0 [some (.inr (2, B, 2)), none] [] I rt :=
  vgo (inl := []) 7 [2, 35] rfl rfl (okFL_s (okF_X hB (by decide)) (okFL_n okFL_e)) okFS_e h
set_option maxHeartbeats 4000000 in
set_option maxRecDepth 100000 in
theorem b_empty_2 {I : Mm} {rt : AR → Mm → Prop} {B : Nat} (hB : isX B)  {k : Int} (hk : inR k) (h : (648 ≤ k → ∀ I1, I1 = wt I (B + 2) 2 648 → GoA 59 35 [some (.inr (2, B, 2)), some (.inl (2, 0))] [] I1 rt) ∧ (¬ 648 ≤ k → (0 ≤ k ∧ k < 648) ∧ (∀ I2, I2 = wt I (B + 5) k.toNat (647 - k) → ∀ v1_1, v1_1 = wr (k + 1) → inR v1_1 → GoA 59 2 [some (.inr (2, B, 2)), some (.inl (1, v1_1))] [] I2 rt))) : GoA 59 2 [some (.inr (2, B, 2)), some (.inl (1, k))] [] I rt :=
  vgo (inl := []) 17 [2, 35] rfl rfl (okFL_s (okF_X hB (by decide)) (okFL_s (okF_1 hk 1) okFL_e)) okFS_e h
set_option maxHeartbeats 4000000 in
set_option maxRecDepth 100000 in
theorem b_empty_35 {I : Mm} {rt : AR → Mm → Prop} {B : Nat} (hB : isX B)  {k : Int} (hk : inR k) (h : (348 ≤ k → ∀ I1, I1 = wt I (B + 2) 7 348 → CallZ 69 [.inr (2, B, 2)] I1 (fun x1 I2 => ∀ I3, I3 = wt I2 (B + 2) 8 x1 → ∀ I4, I4 = wt I3 (B + 2) 14 0 → rt none I4)) ∧ (¬ 348 ≤ k → (0 ≤ k ∧ k < 348) ∧ (∀ I5, I5 = wt I (B + 9) k.toNat (347 - k) → ∀ v1_1, v1_1 = wr (k + 1) → inR v1_1 → GoA 59 35 [some (.inr (2, B, 2)), some (.inl (1, v1_1))] [] I5 rt))) : GoA 59 35 [some (.inr (2, B, 2)), some (.inl (1, k))] [] I rt :=
  vgo (inl := []) 19 [2, 35] rfl rfl (okFL_s (okF_X hB (by decide)) (okFL_s (okF_1 hk 1) okFL_e)) okFS_e h

set_option maxHeartbeats 4000000 in
set_option maxRecDepth 100000 in
theorem b_height {I : Mm} {rt : AR → Mm → Prop} {B : Nat} (hB : isX B)  (h : ∀ v1_1, v1_1 = rd I (B + 2) 8 → inR v1_1 → GoA 62 7 [some (.inr (2, B, 2)), some (.inl (1, v1_1)), some (.inl (2, 1))] [] I rt) : GoA 62 0 [some (.inr (2, B, 2)), none, none] [] I rt :=
  vgo (inl := [68]) 10 [7] rfl rfl (okFL_s (okF_X hB (by decide)) (okFL_n (okFL_n okFL_e))) okFS_e h
set_option maxHeartbeats 4000000 in
set_option maxRecDepth 100000 in
theorem b_height_7 {I : Mm} {rt : AR → Mm → Prop} {B : Nat} (hB : isX B)  {nd : Int} (hnd : inR nd) {ht : Int} (hht : inR ht) (h : (12 ≤ ht → rt (some (.inl (1, ht))) I) ∧ (¬ 12 ≤ ht → (0 ≤ (wr (nd * 6)) ∧ (wr (nd * 6)) < 2088) ∧ ((rd I (B + 7) (wr (nd * 6)).toNat = (-1) → rt (some (.inl (1, ht))) I) ∧ (¬ rd I (B + 7) (wr (nd * 6)).toNat = (-1) → (0 ≤ (wr (nd * 6)) ∧ (wr (nd * 6)) < 2088) ∧ (∀ v1_1, v1_1 = rd I (B + 7) (wr (nd * 6)).toNat → inR v1_1 → ∀ v2_2, v2_2 = wr (ht + 1) → inR v2_2 → GoA 62 7 [some (.inr (2, B, 2)), some (.inl (1, v1_1)), some (.inl (1, v2_2))] [] I rt))))) : GoA 62 7 [some (.inr (2, B, 2)), some (.inl (1, nd)), some (.inl (1, ht))] [] I rt :=
  vgo (inl := [68]) 31 [7] rfl rfl (okFL_s (okF_X hB (by decide)) (okFL_s (okF_1 hnd 1) (okFL_s (okF_1 hht 1) okFL_e))) okFS_e h

set_option maxHeartbeats 4000000 in
set_option maxRecDepth 100000 in
theorem b_takeNode {I : Mm} {rt : AR → Mm → Prop} {B : Nat} (hB : isX B)  (h : ∀ I1, I1 = wt I (B + 2) 7 ((rd I (B + 2) 7) - 1) → (0 ≤ (rd I1 (B + 2) 7) ∧ (rd I1 (B + 2) 7) < 348) ∧ (∀ v1_1, v1_1 = rd I1 (B + 9) (rd I1 (B + 2) 7).toNat → inR v1_1 → (0 ≤ v1_1 ∧ v1_1 < 348) ∧ (∀ I2, I2 = wt I1 (B + 8) v1_1.toNat 0 → GoA 69 29 [some (.inr (2, B, 2)), some (.inl (1, v1_1)), some (.inl (2, 0))] [] I2 rt))) : GoA 69 0 [some (.inr (2, B, 2)), none, none] [] I rt :=
  vgo (inl := []) 24 [29] rfl rfl (okFL_s (okF_X hB (by decide)) (okFL_n (okFL_n okFL_e))) okFS_e h
set_option maxHeartbeats 4000000 in
set_option maxRecDepth 100000 in
theorem b_takeNode_29 {I : Mm} {rt : AR → Mm → Prop} {B : Nat} (hB : isX B)  {nd : Int} (hnd : inR nd) {k : Int} (hk : inR k) (h : (6 ≤ k → rt (some (.inl (1, nd))) I) ∧ (¬ 6 ≤ k → (0 ≤ (wr ((nd * 6) + k)) ∧ (wr ((nd * 6) + k)) < 2088) ∧ (∀ I1, I1 = wt I (B + 7) (wr ((nd * 6) + k)).toNat (-1) → ∀ v2_1, v2_1 = wr (k + 1) → inR v2_1 → GoA 69 29 [some (.inr (2, B, 2)), some (.inl (1, nd)), some (.inl (1, v2_1))] [] I1 rt))) : GoA 69 29 [some (.inr (2, B, 2)), some (.inl (1, nd)), some (.inl (1, k))] [] I rt :=
  vgo (inl := []) 19 [29] rfl rfl (okFL_s (okF_X hB (by decide)) (okFL_s (okF_1 hnd 1) (okFL_s (okF_1 hk 1) okFL_e))) okFS_e h

set_option maxHeartbeats 4000000 in
set_option maxRecDepth 100000 in
theorem b_giveNode {I : Mm} {rt : AR → Mm → Prop} {B : Nat} (hB : isX B) {nd : Int} (hnd : inR nd)  (h : (0 ≤ (rd I (B + 2) 7) ∧ (rd I (B + 2) 7) < 348) ∧ (∀ I1, I1 = wt I (B + 9) (rd I (B + 2) 7).toNat nd → ∀ I2, I2 = wt I1 (B + 2) 7 ((rd I1 (B + 2) 7) + 1) → rt none I2)) : GoA 70 0 [some (.inr (2, B, 2)), some (.inl (1, nd))] [] I rt :=
  vgo (inl := []) 18 [] rfl rfl (okFL_s (okF_X hB (by decide)) (okFL_s (okF_1 hnd 1) okFL_e)) okFS_e h

set_option maxHeartbeats 4000000 in
set_option maxRecDepth 100000 in
theorem b_putInto {I : Mm} {rt : AR → Mm → Prop} {B : Nat} (hB : isX B) {nd : Int} (hnd : inR nd) {sl : Int} (hsl : inR sl) {ad : Int} (had : inR ad) {kd : Int} (hkd : inR kd)  (h : (0 ≤ nd ∧ nd < 348) ∧ (∀ v5_1, v5_1 = wr ((rd I (B + 8) nd.toNat) - sl) → inR v5_1 → ∀ v6_2, v6_2 = wr ((nd * 5) + sl) → inR v6_2 → ∀ v7_3, v7_3 = wr (((nd * 6) + sl) + 1) → inR v7_3 → (0 ≤ v6_2 ∧ 0 ≤ (wr (v6_2 + 1)) ∧ 0 ≤ v5_1 ∧ v6_2 + v5_1 ≤ 1740 ∧ (wr (v6_2 + 1)) + v5_1 ≤ 1740) ∧ (∀ I1, I1 = cp I (B + 6) (B + 6) v6_2.toNat (wr (v6_2 + 1)).toNat v5_1.toNat → (0 ≤ v7_3 ∧ 0 ≤ (wr (v7_3 + 1)) ∧ 0 ≤ v5_1 ∧ v7_3 + v5_1 ≤ 2088 ∧ (wr (v7_3 + 1)) + v5_1 ≤ 2088) ∧ (∀ I2, I2 = cp I1 (B + 7) (B + 7) v7_3.toNat (wr (v7_3 + 1)).toNat v5_1.toNat → (0 ≤ v6_2 ∧ v6_2 < 1740) ∧ (∀ I3, I3 = wt I2 (B + 6) v6_2.toNat ad → (0 ≤ v7_3 ∧ v7_3 < 2088) ∧ (∀ I4, I4 = wt I3 (B + 7) v7_3.toNat kd → (0 ≤ nd ∧ nd < 348) ∧ ((0 ≤ nd ∧ nd < 348) ∧ (∀ I5, I5 = wt I4 (B + 8) nd.toNat ((rd I4 (B + 8) nd.toNat) + 1) → rt none I5)))))))) : GoA 73 0 [some (.inr (2, B, 2)), some (.inl (1, nd)), some (.inl (1, sl)), some (.inl (1, ad)), some (.inl (1, kd)), none, none, none] [] I rt :=
  vgo (inl := []) 65 [] rfl rfl (okFL_s (okF_X hB (by decide)) (okFL_s (okF_1 hnd 1) (okFL_s (okF_1 hsl 1) (okFL_s (okF_1 had 1) (okFL_s (okF_1 hkd 1) (okFL_n (okFL_n (okFL_n okFL_e)))))))) okFS_e h

set_option maxHeartbeats 4000000 in
set_option maxRecDepth 100000 in
theorem b_takeOut {I : Mm} {rt : AR → Mm → Prop} {B : Nat} (hB : isX B) {nd : Int} (hnd : inR nd) {sl : Int} (hsl : inR sl)  (h : (0 ≤ nd ∧ nd < 348) ∧ (∀ v3_1, v3_1 = wr (((rd I (B + 8) nd.toNat) - sl) - 1) → inR v3_1 → ∀ v4_2, v4_2 = wr ((nd * 5) + sl) → inR v4_2 → ∀ v5_3, v5_3 = wr (((nd * 6) + sl) + 1) → inR v5_3 → (0 ≤ (wr (v4_2 + 1)) ∧ 0 ≤ v4_2 ∧ 0 ≤ v3_1 ∧ (wr (v4_2 + 1)) + v3_1 ≤ 1740 ∧ v4_2 + v3_1 ≤ 1740) ∧ (∀ I1, I1 = cp I (B + 6) (B + 6) (wr (v4_2 + 1)).toNat v4_2.toNat v3_1.toNat → (0 ≤ (wr (v5_3 + 1)) ∧ 0 ≤ v5_3 ∧ 0 ≤ v3_1 ∧ (wr (v5_3 + 1)) + v3_1 ≤ 2088 ∧ v5_3 + v3_1 ≤ 2088) ∧ (∀ I2, I2 = cp I1 (B + 7) (B + 7) (wr (v5_3 + 1)).toNat v5_3.toNat v3_1.toNat → (0 ≤ nd ∧ nd < 348) ∧ ((0 ≤ nd ∧ nd < 348) ∧ (∀ I3, I3 = wt I2 (B + 8) nd.toNat ((rd I2 (B + 8) nd.toNat) - 1) → rt none I3)))))) : GoA 74 0 [some (.inr (2, B, 2)), some (.inl (1, nd)), some (.inl (1, sl)), none, none, none] [] I rt :=
  vgo (inl := []) 57 [] rfl rfl (okFL_s (okF_X hB (by decide)) (okFL_s (okF_1 hnd 1) (okFL_s (okF_1 hsl 1) (okFL_n (okFL_n (okFL_n okFL_e)))))) okFS_e h

set_option maxHeartbeats 4000000 in
set_option maxRecDepth 100000 in
theorem b_halve {I : Mm} {rt : AR → Mm → Prop} {B : Nat} (hB : isX B) {nd : Int} (hnd : inR nd) {ri : Int} (hri : inR ri)  (h : (0 ≤ (wr (((nd * 5) + 2) + 1)) ∧ 0 ≤ (wr (ri * 5)) ∧ 0 ≤ (2 : Int) ∧ (wr (((nd * 5) + 2) + 1)) + (2 : Int) ≤ 1740 ∧ (wr (ri * 5)) + (2 : Int) ≤ 1740) ∧ (∀ I1, I1 = cp I (B + 6) (B + 6) (wr (((nd * 5) + 2) + 1)).toNat (wr (ri * 5)).toNat 2 → (0 ≤ (wr (((nd * 6) + 2) + 1)) ∧ 0 ≤ (wr (ri * 6)) ∧ 0 ≤ (3 : Int) ∧ (wr (((nd * 6) + 2) + 1)) + (3 : Int) ≤ 2088 ∧ (wr (ri * 6)) + (3 : Int) ≤ 2088) ∧ (∀ I2, I2 = cp I1 (B + 7) (B + 7) (wr (((nd * 6) + 2) + 1)).toNat (wr (ri * 6)).toNat 3 → (0 ≤ ri ∧ ri < 348) ∧ (∀ I3, I3 = wt I2 (B + 8) ri.toNat 2 → (0 ≤ nd ∧ nd < 348) ∧ (∀ I4, I4 = wt I3 (B + 8) nd.toNat 2 → rt none I4))))) : GoA 76 0 [some (.inr (2, B, 2)), some (.inl (1, nd)), some (.inl (1, ri))] [] I rt :=
  vgo (inl := []) 48 [] rfl rfl (okFL_s (okF_X hB (by decide)) (okFL_s (okF_1 hnd 1) (okFL_s (okF_1 hri 1) okFL_e))) okFS_e h

set_option maxHeartbeats 4000000 in
set_option maxRecDepth 100000 in
theorem b_tfl {I : Mm} {rt : AR → Mm → Prop} {B : Nat} (hB : isX B) {ab : Int} (hab : inR ab) {sl : Int} (hsl : inR sl)  (h : (0 ≤ (wr (((ab * 6) + sl) - 1)) ∧ (wr (((ab * 6) + sl) - 1)) < 2088) ∧ (∀ v3_1, v3_1 = rd I (B + 7) (wr (((ab * 6) + sl) - 1)).toNat → inR v3_1 → (0 ≤ (wr ((ab * 6) + sl)) ∧ (wr ((ab * 6) + sl)) < 2088) ∧ (∀ v4_2, v4_2 = rd I (B + 7) (wr ((ab * 6) + sl)).toNat → inR v4_2 → ∀ v5_3, v5_3 = wr (((ab * 5) + sl) - 1) → inR v5_3 → (0 ≤ v4_2 ∧ v4_2 < 348) ∧ ((0 ≤ (wr (v4_2 * 5)) ∧ 0 ≤ (wr ((v4_2 * 5) + 1)) ∧ 0 ≤ (rd I (B + 8) v4_2.toNat) ∧ (wr (v4_2 * 5)) + (rd I (B + 8) v4_2.toNat) ≤ 1740 ∧ (wr ((v4_2 * 5) + 1)) + (rd I (B + 8) v4_2.toNat) ≤ 1740) ∧ (∀ I1, I1 = cp I (B + 6) (B + 6) (wr (v4_2 * 5)).toNat (wr ((v4_2 * 5) + 1)).toNat (rd I (B + 8) v4_2.toNat).toNat → (0 ≤ v4_2 ∧ v4_2 < 348) ∧ ((0 ≤ (wr (v4_2 * 6)) ∧ 0 ≤ (wr ((v4_2 * 6) + 1)) ∧ 0 ≤ (wr ((rd I1 (B + 8) v4_2.toNat) + 1)) ∧ (wr (v4_2 * 6)) + (wr ((rd I1 (B + 8) v4_2.toNat) + 1)) ≤ 2088 ∧ (wr ((v4_2 * 6) + 1)) + (wr ((rd I1 (B + 8) v4_2.toNat) + 1)) ≤ 2088) ∧ (∀ I2, I2 = cp I1 (B + 7) (B + 7) (wr (v4_2 * 6)).toNat (wr ((v4_2 * 6) + 1)).toNat (wr ((rd I1 (B + 8) v4_2.toNat) + 1)).toNat → (0 ≤ v5_3 ∧ v5_3 < 1740) ∧ ((0 ≤ (wr (v4_2 * 5)) ∧ (wr (v4_2 * 5)) < 1740) ∧ (∀ I3, I3 = wt I2 (B + 6) (wr (v4_2 * 5)).toNat (rd I2 (B + 6) v5_3.toNat) → (0 ≤ v3_1 ∧ v3_1 < 348) ∧ ((0 ≤ (wr ((v3_1 * 6) + (rd I3 (B + 8) v3_1.toNat))) ∧ (wr ((v3_1 * 6) + (rd I3 (B + 8) v3_1.toNat))) < 2088) ∧ ((0 ≤ (wr (v4_2 * 6)) ∧ (wr (v4_2 * 6)) < 2088) ∧ (∀ I4, I4 = wt I3 (B + 7) (wr (v4_2 * 6)).toNat (rd I3 (B + 7) (wr ((v3_1 * 6) + (rd I3 (B + 8) v3_1.toNat))).toNat) → (0 ≤ v4_2 ∧ v4_2 < 348) ∧ ((0 ≤ v4_2 ∧ v4_2 < 348) ∧ (∀ I5, I5 = wt I4 (B + 8) v4_2.toNat ((rd I4 (B + 8) v4_2.toNat) + 1) → (0 ≤ v3_1 ∧ v3_1 < 348) ∧ ((0 ≤ v3_1 ∧ v3_1 < 348) ∧ (∀ I6, I6 = wt I5 (B + 8) v3_1.toNat ((rd I5 (B + 8) v3_1.toNat) - 1) → (0 ≤ v3_1 ∧ v3_1 < 348) ∧ ((0 ≤ (wr ((v3_1 * 5) + (rd I6 (B + 8) v3_1.toNat))) ∧ (wr ((v3_1 * 5) + (rd I6 (B + 8) v3_1.toNat))) < 1740) ∧ ((0 ≤ v5_3 ∧ v5_3 < 1740) ∧ (∀ I7, I7 = wt I6 (B + 6) v5_3.toNat (rd I6 (B + 6) (wr ((v3_1 * 5) + (rd I6 (B + 8) v3_1.toNat))).toNat) → rt none I7))))))))))))))))))) : GoA 78 0 [some (.inr (2, B, 2)), some (.inl (1, ab)), some (.inl (1, sl)), none, none, none] [] I rt :=
  vgo (inl := []) 128 [] rfl rfl (okFL_s (okF_X hB (by decide)) (okFL_s (okF_1 hab 1) (okFL_s (okF_1 hsl 1) (okFL_n (okFL_n (okFL_n okFL_e)))))) okFS_e h

set_option maxHeartbeats 4000000 in
set_option maxRecDepth 100000 in
theorem b_tfr {I : Mm} {rt : AR → Mm → Prop} {B : Nat} (hB : isX B) {ab : Int} (hab : inR ab) {sl : Int} (hsl : inR sl)  (h : (0 ≤ (wr ((ab * 6) + sl)) ∧ (wr ((ab * 6) + sl)) < 2088) ∧ (∀ v3_1, v3_1 = rd I (B + 7) (wr ((ab * 6) + sl)).toNat → inR v3_1 → (0 ≤ (wr (((ab * 6) + sl) + 1)) ∧ (wr (((ab * 6) + sl) + 1)) < 2088) ∧ (∀ v4_2, v4_2 = rd I (B + 7) (wr (((ab * 6) + sl) + 1)).toNat → inR v4_2 → ∀ v5_3, v5_3 = wr ((ab * 5) + sl) → inR v5_3 → (0 ≤ v3_1 ∧ v3_1 < 348) ∧ ((0 ≤ v5_3 ∧ v5_3 < 1740) ∧ ((0 ≤ (wr ((v3_1 * 5) + (rd I (B + 8) v3_1.toNat))) ∧ (wr ((v3_1 * 5) + (rd I (B + 8) v3_1.toNat))) < 1740) ∧ (∀ I1, I1 = wt I (B + 6) (wr ((v3_1 * 5) + (rd I (B + 8) v3_1.toNat))).toNat (rd I (B + 6) v5_3.toNat) → (0 ≤ v3_1 ∧ v3_1 < 348) ∧ ((0 ≤ v3_1 ∧ v3_1 < 348) ∧ (∀ I2, I2 = wt I1 (B + 8) v3_1.toNat ((rd I1 (B + 8) v3_1.toNat) + 1) → (0 ≤ v3_1 ∧ v3_1 < 348) ∧ ((0 ≤ (wr (v4_2 * 6)) ∧ (wr (v4_2 * 6)) < 2088) ∧ ((0 ≤ (wr ((v3_1 * 6) + (rd I2 (B + 8) v3_1.toNat))) ∧ (wr ((v3_1 * 6) + (rd I2 (B + 8) v3_1.toNat))) < 2088) ∧ (∀ I3, I3 = wt I2 (B + 7) (wr ((v3_1 * 6) + (rd I2 (B + 8) v3_1.toNat))).toNat (rd I2 (B + 7) (wr (v4_2 * 6)).toNat) → (0 ≤ (wr (v4_2 * 5)) ∧ (wr (v4_2 * 5)) < 1740) ∧ ((0 ≤ v5_3 ∧ v5_3 < 1740) ∧ (∀ I4, I4 = wt I3 (B + 6) v5_3.toNat (rd I3 (B + 6) (wr (v4_2 * 5)).toNat) → (0 ≤ v4_2 ∧ v4_2 < 348) ∧ ((0 ≤ v4_2 ∧ v4_2 < 348) ∧ (∀ I5, I5 = wt I4 (B + 8) v4_2.toNat ((rd I4 (B + 8) v4_2.toNat) - 1) → (0 ≤ v4_2 ∧ v4_2 < 348) ∧ ((0 ≤ (wr ((v4_2 * 5) + 1)) ∧ 0 ≤ (wr (v4_2 * 5)) ∧ 0 ≤ (rd I5 (B + 8) v4_2.toNat) ∧ (wr ((v4_2 * 5) + 1)) + (rd I5 (B + 8) v4_2.toNat) ≤ 1740 ∧ (wr (v4_2 * 5)) + (rd I5 (B + 8) v4_2.toNat) ≤ 1740) ∧ (∀ I6, I6 = cp I5 (B + 6) (B + 6) (wr ((v4_2 * 5) + 1)).toNat (wr (v4_2 * 5)).toNat (rd I5 (B + 8) v4_2.toNat).toNat → (0 ≤ v4_2 ∧ v4_2 < 348) ∧ ((0 ≤ (wr ((v4_2 * 6) + 1)) ∧ 0 ≤ (wr (v4_2 * 6)) ∧ 0 ≤ (wr ((rd I6 (B + 8) v4_2.toNat) + 1)) ∧ (wr ((v4_2 * 6) + 1)) + (wr ((rd I6 (B + 8) v4_2.toNat) + 1)) ≤ 2088 ∧ (wr (v4_2 * 6)) + (wr ((rd I6 (B + 8) v4_2.toNat) + 1)) ≤ 2088) ∧ (∀ I7, I7 = cp I6 (B + 7) (B + 7) (wr ((v4_2 * 6) + 1)).toNat (wr (v4_2 * 6)).toNat (wr ((rd I6 (B + 8) v4_2.toNat) + 1)).toNat → rt none I7))))))))))))))))))) : GoA 79 0 [some (.inr (2, B, 2)), some (.inl (1, ab)), some (.inl (1, sl)), none, none, none] [] I rt :=
  vgo (inl := []) 126 [] rfl rfl (okFL_s (okF_X hB (by decide)) (okFL_s (okF_1 hab 1) (okFL_s (okF_1 hsl 1) (okFL_n (okFL_n (okFL_n okFL_e)))))) okFS_e h

set_option maxHeartbeats 4000000 in
set_option maxRecDepth 100000 in
theorem b_join {I : Mm} {rt : AR → Mm → Prop} {B : Nat} (hB : isX B) {ab : Int} (hab : inR ab) {sl : Int} (hsl : inR sl)  (h : (0 ≤ (wr ((ab * 6) + sl)) ∧ (wr ((ab * 6) + sl)) < 2088) ∧ (∀ v3_1, v3_1 = rd I (B + 7) (wr ((ab * 6) + sl)).toNat → inR v3_1 → (0 ≤ (wr (((ab * 6) + sl) + 1)) ∧ (wr (((ab * 6) + sl) + 1)) < 2088) ∧ (∀ v4_2, v4_2 = rd I (B + 7) (wr (((ab * 6) + sl) + 1)).toNat → inR v4_2 → (0 ≤ v3_1 ∧ v3_1 < 348) ∧ (∀ v5_3, v5_3 = rd I (B + 8) v3_1.toNat → inR v5_3 → (0 ≤ (wr ((ab * 5) + sl)) ∧ (wr ((ab * 5) + sl)) < 1740) ∧ ((0 ≤ (wr ((v3_1 * 5) + v5_3)) ∧ (wr ((v3_1 * 5) + v5_3)) < 1740) ∧ (∀ I1, I1 = wt I (B + 6) (wr ((v3_1 * 5) + v5_3)).toNat (rd I (B + 6) (wr ((ab * 5) + sl)).toNat) → (0 ≤ v4_2 ∧ v4_2 < 348) ∧ ((0 ≤ (wr (v4_2 * 5)) ∧ 0 ≤ (wr (((v3_1 * 5) + v5_3) + 1)) ∧ 0 ≤ (rd I1 (B + 8) v4_2.toNat) ∧ (wr (v4_2 * 5)) + (rd I1 (B + 8) v4_2.toNat) ≤ 1740 ∧ (wr (((v3_1 * 5) + v5_3) + 1)) + (rd I1 (B + 8) v4_2.toNat) ≤ 1740) ∧ (∀ I2, I2 = cp I1 (B + 6) (B + 6) (wr (v4_2 * 5)).toNat (wr (((v3_1 * 5) + v5_3) + 1)).toNat (rd I1 (B + 8) v4_2.toNat).toNat → (0 ≤ v4_2 ∧ v4_2 < 348) ∧ ((0 ≤ (wr (v4_2 * 6)) ∧ 0 ≤ (wr (((v3_1 * 6) + v5_3) + 1)) ∧ 0 ≤ (wr ((rd I2 (B + 8) v4_2.toNat) + 1)) ∧ (wr (v4_2 * 6)) + (wr ((rd I2 (B + 8) v4_2.toNat) + 1)) ≤ 2088 ∧ (wr (((v3_1 * 6) + v5_3) + 1)) + (wr ((rd I2 (B + 8) v4_2.toNat) + 1)) ≤ 2088) ∧ (∀ I3, I3 = cp I2 (B + 7) (B + 7) (wr (v4_2 * 6)).toNat (wr (((v3_1 * 6) + v5_3) + 1)).toNat (wr ((rd I2 (B + 8) v4_2.toNat) + 1)).toNat → (0 ≤ v4_2 ∧ v4_2 < 348) ∧ ((0 ≤ v3_1 ∧ v3_1 < 348) ∧ (∀ I4, I4 = wt I3 (B + 8) v3_1.toNat ((v5_3 + 1) + (rd I3 (B + 8) v4_2.toNat)) → (0 ≤ (rd I4 (B + 2) 7) ∧ (rd I4 (B + 2) 7) < 348) ∧ (∀ I5, I5 = wt I4 (B + 9) (rd I4 (B + 2) 7).toNat v4_2 → ∀ I6, I6 = wt I5 (B + 2) 7 ((rd I5 (B + 2) 7) + 1) → rt none I6))))))))))))) : GoA 80 0 [some (.inr (2, B, 2)), some (.inl (1, ab)), some (.inl (1, sl)), none, none, none] [] I rt :=
  vgo (inl := [70]) 115 [] rfl rfl (okFL_s (okF_X hB (by decide)) (okFL_s (okF_1 hab 1) (okFL_s (okF_1 hsl 1) (okFL_n (okFL_n (okFL_n okFL_e)))))) okFS_e h

set_option maxHeartbeats 4000000 in
set_option maxRecDepth 100000 in
theorem b_split {I : Mm} {rt : AR → Mm → Prop} {B : Nat} (hB : isX B)  (h : ∀ v1_1, v1_1 = rd I (B + 2) 11 → inR v1_1 → GoA 75 5 [some (.inr (2, B, 2)), some (.inl (1, v1_1)), none, none, none] [] I rt) : GoA 75 0 [some (.inr (2, B, 2)), none, none, none, none] [] I rt :=
  vgo (inl := []) 8 [5] rfl rfl (okFL_s (okF_X hB (by decide)) (okFL_n (okFL_n (okFL_n (okFL_n okFL_e))))) okFS_e h
set_option maxHeartbeats 4000000 in
set_option maxRecDepth 100000 in
theorem b_split_5 {I : Mm} {rt : AR → Mm → Prop} {B : Nat} (hB : isX B)  {lv : Int} (hlv : inR lv) {m2 : Option AV} (hm2 : okO m2) {m3 : Option AV} (hm3 : okO m3) {m4 : Option AV} (hm4 : okO m4) (h : (lv < 0 → rt none I) ∧ (¬ lv < 0 → (0 ≤ lv ∧ lv < 12) ∧ ((0 ≤ (rd I (B + 10) lv.toNat) ∧ (rd I (B + 10) lv.toNat) < 348) ∧ ((rd I (B + 8) (rd I (B + 10) lv.toNat).toNat ≤ 4 → rt none I) ∧ (¬ rd I (B + 8) (rd I (B + 10) lv.toNat).toNat ≤ 4 → (0 ≤ lv ∧ lv < 12) ∧ (∀ v2_1, v2_1 = rd I (B + 10) lv.toNat → inR v2_1 → CallZ 69 [.inr (2, B, 2)] I (fun x1 I1 => ∀ v3_2, v3_2 = x1 → inR v3_2 → (0 ≤ (wr ((v2_1 * 5) + 2)) ∧ (wr ((v2_1 * 5) + 2)) < 1740) ∧ (∀ v4_3, v4_3 = rd I1 (B + 6) (wr ((v2_1 * 5) + 2)).toNat → inR v4_3 → CallV 76 [.inr (2, B, 2), .inl (1, v2_1), .inl (1, v3_2)] I1 (fun I2 => (lv ≤ 0 → CallZ 69 [.inr (2, B, 2)] I2 (fun x2 I3 => ∀ I4, I4 = wt I3 (B + 2) 8 x2 → (0 ≤ (wr ((rd I4 (B + 2) 8) * 6)) ∧ (wr ((rd I4 (B + 2) 8) * 6)) < 2088) ∧ (∀ I5, I5 = wt I4 (B + 7) (wr ((rd I4 (B + 2) 8) * 6)).toNat v2_1 → CallV 73 [.inr (2, B, 2), .inl (1, rd I5 (B + 2) 8), .inl (2, 0), .inl (1, v4_3), .inl (1, v3_2)] I5 (fun I6 => ∀ v1_4, v1_4 = wr (lv + (-1)) → inR v1_4 → GoA 75 5 [some (.inr (2, B, 2)), some (.inl (1, v1_4)), some (.inl (1, v2_1)), some (.inl (1, v3_2)), some (.inl (1, v4_3))] [] I6 rt)))) ∧ (¬ lv ≤ 0 → (0 ≤ (wr (lv - 1)) ∧ (wr (lv - 1)) < 12) ∧ ((0 ≤ (wr (lv - 1)) ∧ (wr (lv - 1)) < 12) ∧ (CallV 73 [.inr (2, B, 2), .inl (1, rd I2 (B + 10) (wr (lv - 1)).toNat), .inl (1, rd I2 (B + 11) (wr (lv - 1)).toNat), .inl (1, v4_3), .inl (1, v3_2)] I2 (fun I7 => ∀ v1_5, v1_5 = wr (lv + (-1)) → inR v1_5 → GoA 75 5 [some (.inr (2, B, 2)), some (.inl (1, v1_5)), some (.inl (1, v2_1)), some (.inl (1, v3_2)), some (.inl (1, v4_3))] [] I7 rt))))))))))))) : GoA 75 5 [some (.inr (2, B, 2)), some (.inl (1, lv)), m2, m3, m4] [] I rt :=
  vgo (inl := []) 60 [5] rfl rfl (okFL_s (okF_X hB (by decide)) (okFL_s (okF_1 hlv 1) (okFL_o hm2 (okFL_o hm3 (okFL_o hm4 okFL_e))))) okFS_e h

set_option maxHeartbeats 4000000 in
set_option maxRecDepth 100000 in
theorem b_mend {I : Mm} {rt : AR → Mm → Prop} {B : Nat} (hB : isX B)  (h : ∀ v1_1, v1_1 = rd I (B + 2) 11 → inR v1_1 → GoA 77 5 [some (.inr (2, B, 2)), some (.inl (1, v1_1)), none, none, none] [] I rt) : GoA 77 0 [some (.inr (2, B, 2)), none, none, none, none] [] I rt :=
  vgo (inl := [68, 70]) 8 [5] rfl rfl (okFL_s (okF_X hB (by decide)) (okFL_n (okFL_n (okFL_n (okFL_n okFL_e))))) okFS_e h
set_option maxHeartbeats 4000000 in
set_option maxRecDepth 100000 in
theorem b_mend_5 {I : Mm} {rt : AR → Mm → Prop} {B : Nat} (hB : isX B)  {lv : Int} (hlv : inR lv) {m2 : Option AV} (hm2 : okO m2) {m3 : Option AV} (hm3 : okO m3) {m4 : Option AV} (hm4 : okO m4) (h : (lv ≤ 0 → (0 ≤ (rd I (B + 2) 8) ∧ (rd I (B + 2) 8) < 348) ∧ ((rd I (B + 8) (rd I (B + 2) 8).toNat = 0 → (0 ≤ (wr ((rd I (B + 2) 8) * 6)) ∧ (wr ((rd I (B + 2) 8) * 6)) < 2088) ∧ ((rd I (B + 7) (wr ((rd I (B + 2) 8) * 6)).toNat = (-1) → rt none I) ∧ (¬ rd I (B + 7) (wr ((rd I (B + 2) 8) * 6)).toNat = (-1) → (0 ≤ (rd I (B + 2) 7) ∧ (rd I (B + 2) 7) < 348) ∧ (∀ I1, I1 = wt I (B + 9) (rd I (B + 2) 7).toNat (rd I (B + 2) 8) → ∀ I2, I2 = wt I1 (B + 2) 7 ((rd I1 (B + 2) 7) + 1) → (0 ≤ (wr ((rd I2 (B + 2) 8) * 6)) ∧ (wr ((rd I2 (B + 2) 8) * 6)) < 2088) ∧ (∀ I3, I3 = wt I2 (B + 2) 8 (rd I2 (B + 7) (wr ((rd I2 (B + 2) 8) * 6)).toNat) → rt none I3))))) ∧ (¬ rd I (B + 8) (rd I (B + 2) 8).toNat = 0 → rt none I))) ∧ (¬ lv ≤ 0 → (0 ≤ lv ∧ lv < 12) ∧ ((0 ≤ (rd I (B + 10) lv.toNat) ∧ (rd I (B + 10) lv.toNat) < 348) ∧ ((2 ≤ rd I (B + 8) (rd I (B + 10) lv.toNat).toNat → (0 ≤ (rd I (B + 2) 8) ∧ (rd I (B + 2) 8) < 348) ∧ ((rd I (B + 8) (rd I (B + 2) 8).toNat = 0 → (0 ≤ (wr ((rd I (B + 2) 8) * 6)) ∧ (wr ((rd I (B + 2) 8) * 6)) < 2088) ∧ ((rd I (B + 7) (wr ((rd I (B + 2) 8) * 6)).toNat = (-1) → rt none I) ∧ (¬ rd I (B + 7) (wr ((rd I (B + 2) 8) * 6)).toNat = (-1) → (0 ≤ (rd I (B + 2) 7) ∧ (rd I (B + 2) 7) < 348) ∧ (∀ I4, I4 = wt I (B + 9) (rd I (B + 2) 7).toNat (rd I (B + 2) 8) → ∀ I5, I5 = wt I4 (B + 2) 7 ((rd I4 (B + 2) 7) + 1) → (0 ≤ (wr ((rd I5 (B + 2) 8) * 6)) ∧ (wr ((rd I5 (B + 2) 8) * 6)) < 2088) ∧ (∀ I6, I6 = wt I5 (B + 2) 8 (rd I5 (B + 7) (wr ((rd I5 (B + 2) 8) * 6)).toNat) → rt none I6))))) ∧ (¬ rd I (B + 8) (rd I (B + 2) 8).toNat = 0 → rt none I))) ∧ (¬ 2 ≤ rd I (B + 8) (rd I (B + 10) lv.toNat).toNat → (0 ≤ (wr (lv - 1)) ∧ (wr (lv - 1)) < 12) ∧ (∀ v2_1, v2_1 = rd I (B + 10) (wr (lv - 1)).toNat → inR v2_1 → (0 ≤ (wr (lv - 1)) ∧ (wr (lv - 1)) < 12) ∧ (∀ v3_2, v3_2 = rd I (B + 11) (wr (lv - 1)).toNat → inR v3_2 → (v3_2 ≤ 0 → (0 ≤ v2_1 ∧ v2_1 < 348) ∧ ((rd I (B + 8) v2_1.toNat ≤ v3_2 → (v3_2 ≤ 0 → ∀ v4_3, v4_3 = v3_2 → inR v4_3 → CallV 80 [.inr (2, B, 2), .inl (1, v2_1), .inl (1, v4_3)] I (fun I7 => CallV 74 [.inr (2, B, 2), .inl (1, v2_1), .inl (1, v4_3)] I7 (fun I8 => ∀ v1_4, v1_4 = wr (lv + (-1)) → inR v1_4 → GoA 77 5 [some (.inr (2, B, 2)), some (.inl (1, v1_4)), some (.inl (1, v2_1)), some (.inl (1, v3_2)), some (.inl (1, v4_3))] [] I8 rt))) ∧ (¬ v3_2 ≤ 0 → ∀ v4_5, v4_5 = wr (v3_2 - 1) → inR v4_5 → CallV 80 [.inr (2, B, 2), .inl (1, v2_1), .inl (1, v4_5)] I (fun I9 => CallV 74 [.inr (2, B, 2), .inl (1, v2_1), .inl (1, v4_5)] I9 (fun I10 => ∀ v1_6, v1_6 = wr (lv + (-1)) → inR v1_6 → GoA 77 5 [some (.inr (2, B, 2)), some (.inl (1, v1_6)), some (.inl (1, v2_1)), some (.inl (1, v3_2)), some (.inl (1, v4_5))] [] I10 rt)))) ∧ (¬ rd I (B + 8) v2_1.toNat ≤ v3_2 → (0 ≤ (wr (((v2_1 * 6) + v3_2) + 1)) ∧ (wr (((v2_1 * 6) + v3_2) + 1)) < 2088) ∧ ((0 ≤ (rd I (B + 7) (wr (((v2_1 * 6) + v3_2) + 1)).toNat) ∧ (rd I (B + 7) (wr (((v2_1 * 6) + v3_2) + 1)).toNat) < 348) ∧ ((rd I (B + 8) (rd I (B + 7) (wr (((v2_1 * 6) + v3_2) + 1)).toNat).toNat ≤ 2 → (v3_2 ≤ 0 → ∀ v4_7, v4_7 = v3_2 → inR v4_7 → CallV 80 [.inr (2, B, 2), .inl (1, v2_1), .inl (1, v4_7)] I (fun I11 => CallV 74 [.inr (2, B, 2), .inl (1, v2_1), .inl (1, v4_7)] I11 (fun I12 => ∀ v1_8, v1_8 = wr (lv + (-1)) → inR v1_8 → GoA 77 5 [some (.inr (2, B, 2)), some (.inl (1, v1_8)), some (.inl (1, v2_1)), some (.inl (1, v3_2)), some (.inl (1, v4_7))] [] I12 rt))) ∧ (¬ v3_2 ≤ 0 → ∀ v4_9, v4_9 = wr (v3_2 - 1) → inR v4_9 → CallV 80 [.inr (2, B, 2), .inl (1, v2_1), .inl (1, v4_9)] I (fun I13 => CallV 74 [.inr (2, B, 2), .inl (1, v2_1), .inl (1, v4_9)] I13 (fun I14 => ∀ v1_10, v1_10 = wr (lv + (-1)) → inR v1_10 → GoA 77 5 [some (.inr (2, B, 2)), some (.inl (1, v1_10)), some (.inl (1, v2_1)), some (.inl (1, v3_2)), some (.inl (1, v4_9))] [] I14 rt)))) ∧ (¬ rd I (B + 8) (rd I (B + 7) (wr (((v2_1 * 6) + v3_2) + 1)).toNat).toNat ≤ 2 → CallV 79 [.inr (2, B, 2), .inl (1, v2_1), .inl (1, v3_2)] I (fun I15 => ∀ v1_11, v1_11 = wr (lv + (-1)) → inR v1_11 → GoA 77 5 [some (.inr (2, B, 2)), some (.inl (1, v1_11)), some (.inl (1, v2_1)), some (.inl (1, v3_2)), m4] [] I15 rt))))))) ∧ (¬ v3_2 ≤ 0 → (0 ≤ (wr (((v2_1 * 6) + v3_2) - 1)) ∧ (wr (((v2_1 * 6) + v3_2) - 1)) < 2088) ∧ ((0 ≤ (rd I (B + 7) (wr (((v2_1 * 6) + v3_2) - 1)).toNat) ∧ (rd I (B + 7) (wr (((v2_1 * 6) + v3_2) - 1)).toNat) < 348) ∧ ((rd I (B + 8) (rd I (B + 7) (wr (((v2_1 * 6) + v3_2) - 1)).toNat).toNat ≤ 2 → (0 ≤ v2_1 ∧ v2_1 < 348) ∧ ((rd I (B + 8) v2_1.toNat ≤ v3_2 → (v3_2 ≤ 0 → ∀ v4_12, v4_12 = v3_2 → inR v4_12 → CallV 80 [.inr (2, B, 2), .inl (1, v2_1), .inl (1, v4_12)] I (fun I16 => CallV 74 [.inr (2, B, 2), .inl (1, v2_1), .inl (1, v4_12)] I16 (fun I17 => ∀ v1_13, v1_13 = wr (lv + (-1)) → inR v1_13 → GoA 77 5 [some (.inr (2, B, 2)), some (.inl (1, v1_13)), some (.inl (1, v2_1)), some (.inl (1, v3_2)), some (.inl (1, v4_12))] [] I17 rt))) ∧ (¬ v3_2 ≤ 0 → ∀ v4_14, v4_14 = wr (v3_2 - 1) → inR v4_14 → CallV 80 [.inr (2, B, 2), .inl (1, v2_1), .inl (1, v4_14)] I (fun I18 => CallV 74 [.inr (2, B, 2), .inl (1, v2_1), .inl (1, v4_14)] I18 (fun I19 => ∀ v1_15, v1_15 = wr (lv + (-1)) → inR v1_15 → GoA 77 5 [some (.inr (2, B, 2)), some (.inl (1, v1_15)), some (.inl (1, v2_1)), some (.inl (1, v3_2)), some (.inl (1, v4_14))] [] I19 rt)))) ∧ (¬ rd I (B + 8) v2_1.toNat ≤ v3_2 → (0 ≤ (wr (((v2_1 * 6) + v3_2) + 1)) ∧ (wr (((v2_1 * 6) + v3_2) + 1)) < 2088) ∧ ((0 ≤ (rd I (B + 7) (wr (((v2_1 * 6) + v3_2) + 1)).toNat) ∧ (rd I (B + 7) (wr (((v2_1 * 6) + v3_2) + 1)).toNat) < 348) ∧ ((rd I (B + 8) (rd I (B + 7) (wr (((v2_1 * 6) + v3_2) + 1)).toNat).toNat ≤ 2 → (v3_2 ≤ 0 → ∀ v4_16, v4_16 = v3_2 → inR v4_16 → CallV 80 [.inr (2, B, 2), .inl (1, v2_1), .inl (1, v4_16)] I (fun I20 => CallV 74 [.inr (2, B, 2), .inl (1, v2_1), .inl (1, v4_16)] I20 (fun I21 => ∀ v1_17, v1_17 = wr (lv + (-1)) → inR v1_17 → GoA 77 5 [some (.inr (2, B, 2)), some (.inl (1, v1_17)), some (.inl (1, v2_1)), some (.inl (1, v3_2)), some (.inl (1, v4_16))] [] I21 rt))) ∧ (¬ v3_2 ≤ 0 → ∀ v4_18, v4_18 = wr (v3_2 - 1) → inR v4_18 → CallV 80 [.inr (2, B, 2), .inl (1, v2_1), .inl (1, v4_18)] I (fun I22 => CallV 74 [.inr (2, B, 2), .inl (1, v2_1), .inl (1, v4_18)] I22 (fun I23 => ∀ v1_19, v1_19 = wr (lv + (-1)) → inR v1_19 → GoA 77 5 [some (.inr (2, B, 2)), some (.inl (1, v1_19)), some (.inl (1, v2_1)), some (.inl (1, v3_2)), some (.inl (1, v4_18))] [] I23 rt)))) ∧ (¬ rd I (B + 8) (rd I (B + 7) (wr (((v2_1 * 6) + v3_2) + 1)).toNat).toNat ≤ 2 → CallV 79 [.inr (2, B, 2), .inl (1, v2_1), .inl (1, v3_2)] I (fun I24 => ∀ v1_20, v1_20 = wr (lv + (-1)) → inR v1_20 → GoA 77 5 [some (.inr (2, B, 2)), some (.inl (1, v1_20)), some (.inl (1, v2_1)), some (.inl (1, v3_2)), m4] [] I24 rt))))))) ∧ (¬ rd I (B + 8) (rd I (B + 7) (wr (((v2_1 * 6) + v3_2) - 1)).toNat).toNat ≤ 2 → CallV 78 [.inr (2, B, 2), .inl (1, v2_1), .inl (1, v3_2)] I (fun I25 => ∀ v1_21, v1_21 = wr (lv + (-1)) → inR v1_21 → GoA 77 5 [some (.inr (2, B, 2)), some (.inl (1, v1_21)), some (.inl (1, v2_1)), some (.inl (1, v3_2)), m4] [] I25 rt)))))))))))) : GoA 77 5 [some (.inr (2, B, 2)), some (.inl (1, lv)), m2, m3, m4] [] I rt :=
  vgo (inl := [68, 70]) 85 [5] rfl rfl (okFL_s (okF_X hB (by decide)) (okFL_s (okF_1 hlv 1) (okFL_o hm2 (okFL_o hm3 (okFL_o hm4 okFL_e))))) okFS_e h

set_option maxHeartbeats 4000000 in
set_option maxRecDepth 100000 in
theorem b_gtgb {I : Mm} {rt : AR → Mm → Prop} {B : Nat} (hB : isX B)  (h : (0 ≤ (rd I (B + 2) 11) ∧ (rd I (B + 2) 11) < 12) ∧ ((0 ≤ (rd I (B + 2) 11) ∧ (rd I (B + 2) 11) < 12) ∧ ((0 ≤ (wr (((rd I (B + 10) (rd I (B + 2) 11).toNat) * 6) + (rd I (B + 11) (rd I (B + 2) 11).toNat))) ∧ (wr (((rd I (B + 10) (rd I (B + 2) 11).toNat) * 6) + (rd I (B + 11) (rd I (B + 2) 11).toNat))) < 2088) ∧ (∀ v1_1, v1_1 = rd I (B + 7) (wr (((rd I (B + 10) (rd I (B + 2) 11).toNat) * 6) + (rd I (B + 11) (rd I (B + 2) 11).toNat))).toNat → inR v1_1 → ∀ v2_2, v2_2 = wr ((rd I (B + 2) 11) + 1) → inR v2_2 → GoA 72 35 [some (.inr (2, B, 2)), some (.inl (1, v1_1)), some (.inl (1, v2_2))] [] I rt)))) : GoA 72 0 [some (.inr (2, B, 2)), none, none] [] I rt :=
  vgo (inl := [68]) 27 [35] rfl rfl (okFL_s (okF_X hB (by decide)) (okFL_n (okFL_n okFL_e))) okFS_e h
set_option maxHeartbeats 4000000 in
set_option maxRecDepth 100000 in
theorem b_gtgb_35 {I : Mm} {rt : AR → Mm → Prop} {B : Nat} (hB : isX B)  {nd : Int} (hnd : inR nd) {lv : Int} (hlv : inR lv) (h : (12 ≤ lv → rt none I) ∧ (¬ 12 ≤ lv → (0 ≤ lv ∧ lv < 12) ∧ (∀ I1, I1 = wt I (B + 10) lv.toNat nd → (0 ≤ nd ∧ nd < 348) ∧ ((0 ≤ lv ∧ lv < 12) ∧ (∀ I2, I2 = wt I1 (B + 11) lv.toNat (rd I1 (B + 8) nd.toNat) → ∀ I3, I3 = wt I2 (B + 2) 11 lv → (0 ≤ (wr (nd * 6)) ∧ (wr (nd * 6)) < 2088) ∧ ((rd I3 (B + 7) (wr (nd * 6)).toNat = (-1) → rt none I3) ∧ (¬ rd I3 (B + 7) (wr (nd * 6)).toNat = (-1) → (0 ≤ nd ∧ nd < 348) ∧ ((0 ≤ (wr ((nd * 6) + (rd I3 (B + 8) nd.toNat))) ∧ (wr ((nd * 6) + (rd I3 (B + 8) nd.toNat))) < 2088) ∧ (∀ v1_1, v1_1 = rd I3 (B + 7) (wr ((nd * 6) + (rd I3 (B + 8) nd.toNat))).toNat → inR v1_1 → ∀ v2_2, v2_2 = wr (lv + 1) → inR v2_2 → GoA 72 35 [some (.inr (2, B, 2)), some (.inl (1, v1_1)), some (.inl (1, v2_2))] [] I3 rt))))))))) : GoA 72 35 [some (.inr (2, B, 2)), some (.inl (1, nd)), some (.inl (1, lv))] [] I rt :=
  vgo (inl := [68]) 52 [35] rfl rfl (okFL_s (okF_X hB (by decide)) (okFL_s (okF_1 hnd 1) (okFL_s (okF_1 hlv 1) okFL_e))) okFS_e h

set_option maxHeartbeats 4000000 in
set_option maxRecDepth 100000 in
theorem b_walkAll {I : Mm} {rt : AR → Mm → Prop} {B : Nat} (hB : isX B)  (h : (rd I (B + 2) 14 = 0 → ∀ I1, I1 = wt I (B + 2) 15 0 → (0 ≤ (0 : Int) ∧ (0 : Int) < 12) ∧ (∀ I2, I2 = wt I1 (B + 10) 0 (rd I1 (B + 2) 8) → (0 ≤ (0 : Int) ∧ (0 : Int) < 12) ∧ (∀ I3, I3 = wt I2 (B + 11) 0 0 → GoA 81 34 [some (.inr (2, B, 2)), some (.inl (2, 0)), some (.inl (2, 0)), none, none] [] I3 rt))) ∧ (¬ rd I (B + 2) 14 = 0 → rt none I)) : GoA 81 0 [some (.inr (2, B, 2)), none, none, none, none] [] I rt :=
  vgo (inl := [68, 82]) 26 [34] rfl rfl (okFL_s (okF_X hB (by decide)) (okFL_n (okFL_n (okFL_n (okFL_n okFL_e))))) okFS_e h
set_option maxHeartbeats 4000000 in
set_option maxRecDepth 100000 in
theorem b_walkAll_34 {I : Mm} {rt : AR → Mm → Prop} {B : Nat} (hB : isX B)  {lv : Int} (hlv : inR lv) {mv : Int} (hmv : inR mv) {m3 : Option AV} (hm3 : okO m3) {m4 : Option AV} (hm4 : okO m4) (h : (2436 ≤ mv → ∀ I1, I1 = wt I (B + 2) 14 1 → rt none I1) ∧ (¬ 2436 ≤ mv → (lv < 0 → ∀ I2, I2 = wt I (B + 2) 14 1 → rt none I2) ∧ (¬ lv < 0 → (0 ≤ lv ∧ lv < 12) ∧ (∀ v3_1, v3_1 = rd I (B + 10) lv.toNat → inR v3_1 → (0 ≤ lv ∧ lv < 12) ∧ (∀ v4_2, v4_2 = rd I (B + 11) lv.toNat → inR v4_2 → (0 ≤ v3_1 ∧ v3_1 < 348) ∧ ((v4_2 ≤ rd I (B + 8) v3_1.toNat → (v4_2 ≤ 0 → (0 ≤ lv ∧ lv < 12) ∧ ((0 ≤ lv ∧ lv < 12) ∧ (∀ I3, I3 = wt I (B + 11) lv.toNat ((rd I (B + 11) lv.toNat) + 1) → (0 ≤ (wr (v3_1 * 6)) ∧ (wr (v3_1 * 6)) < 2088) ∧ ((rd I3 (B + 7) (wr (v3_1 * 6)).toNat = (-1) → ∀ v2_6, v2_6 = wr (mv + 1) → inR v2_6 → GoA 81 34 [some (.inr (2, B, 2)), some (.inl (1, lv)), some (.inl (1, v2_6)), some (.inl (1, v3_1)), some (.inl (1, v4_2))] [] I3 rt) ∧ (¬ rd I3 (B + 7) (wr (v3_1 * 6)).toNat = (-1) → (12 ≤ wr (lv + 1) → ∀ v2_3, v2_3 = wr (mv + 1) → inR v2_3 → GoA 81 34 [some (.inr (2, B, 2)), some (.inl (1, lv)), some (.inl (1, v2_3)), some (.inl (1, v3_1)), some (.inl (1, v4_2))] [] I3 rt) ∧ (¬ 12 ≤ wr (lv + 1) → ∀ v1_4, v1_4 = wr (lv + 1) → inR v1_4 → (0 ≤ (wr ((v3_1 * 6) + v4_2)) ∧ (wr ((v3_1 * 6) + v4_2)) < 2088) ∧ ((0 ≤ v1_4 ∧ v1_4 < 12) ∧ (∀ I4, I4 = wt I3 (B + 10) v1_4.toNat (rd I3 (B + 7) (wr ((v3_1 * 6) + v4_2)).toNat) → (0 ≤ v1_4 ∧ v1_4 < 12) ∧ (∀ I5, I5 = wt I4 (B + 11) v1_4.toNat 0 → ∀ v2_5, v2_5 = wr (mv + 1) → inR v2_5 → GoA 81 34 [some (.inr (2, B, 2)), some (.inl (1, v1_4)), some (.inl (1, v2_5)), some (.inl (1, v3_1)), some (.inl (1, v4_2))] [] I5 rt))))))))) ∧ (¬ v4_2 ≤ 0 → (0 ≤ (wr (((v3_1 * 5) + v4_2) - 1)) ∧ (wr (((v3_1 * 5) + v4_2) - 1)) < 1740) ∧ ((648 ≤ rd I (B + 2) 15 → (0 ≤ lv ∧ lv < 12) ∧ ((0 ≤ lv ∧ lv < 12) ∧ (∀ I6, I6 = wt I (B + 11) lv.toNat ((rd I (B + 11) lv.toNat) + 1) → (0 ≤ (wr (v3_1 * 6)) ∧ (wr (v3_1 * 6)) < 2088) ∧ ((rd I6 (B + 7) (wr (v3_1 * 6)).toNat = (-1) → ∀ v2_10, v2_10 = wr (mv + 1) → inR v2_10 → GoA 81 34 [some (.inr (2, B, 2)), some (.inl (1, lv)), some (.inl (1, v2_10)), some (.inl (1, v3_1)), some (.inl (1, v4_2))] [] I6 rt) ∧ (¬ rd I6 (B + 7) (wr (v3_1 * 6)).toNat = (-1) → (12 ≤ wr (lv + 1) → ∀ v2_7, v2_7 = wr (mv + 1) → inR v2_7 → GoA 81 34 [some (.inr (2, B, 2)), some (.inl (1, lv)), some (.inl (1, v2_7)), some (.inl (1, v3_1)), some (.inl (1, v4_2))] [] I6 rt) ∧ (¬ 12 ≤ wr (lv + 1) → ∀ v1_8, v1_8 = wr (lv + 1) → inR v1_8 → (0 ≤ (wr ((v3_1 * 6) + v4_2)) ∧ (wr ((v3_1 * 6) + v4_2)) < 2088) ∧ ((0 ≤ v1_8 ∧ v1_8 < 12) ∧ (∀ I7, I7 = wt I6 (B + 10) v1_8.toNat (rd I6 (B + 7) (wr ((v3_1 * 6) + v4_2)).toNat) → (0 ≤ v1_8 ∧ v1_8 < 12) ∧ (∀ I8, I8 = wt I7 (B + 11) v1_8.toNat 0 → ∀ v2_9, v2_9 = wr (mv + 1) → inR v2_9 → GoA 81 34 [some (.inr (2, B, 2)), some (.inl (1, v1_8)), some (.inl (1, v2_9)), some (.inl (1, v3_1)), some (.inl (1, v4_2))] [] I8 rt))))))))) ∧ (¬ 648 ≤ rd I (B + 2) 15 → (0 ≤ (rd I (B + 2) 15) ∧ (rd I (B + 2) 15) < 648) ∧ (∀ I9, I9 = wt I (B + 12) (rd I (B + 2) 15).toNat (rd I (B + 6) (wr (((v3_1 * 5) + v4_2) - 1)).toNat) → (0 ≤ (rd I9 (B + 2) 15) ∧ (rd I9 (B + 2) 15) < 648) ∧ (∀ I10, I10 = wt I9 (B + 13) (rd I9 (B + 2) 15).toNat lv → ∀ I11, I11 = wt I10 (B + 2) 15 ((rd I10 (B + 2) 15) + 1) → (0 ≤ lv ∧ lv < 12) ∧ ((0 ≤ lv ∧ lv < 12) ∧ (∀ I12, I12 = wt I11 (B + 11) lv.toNat ((rd I11 (B + 11) lv.toNat) + 1) → (0 ≤ (wr (v3_1 * 6)) ∧ (wr (v3_1 * 6)) < 2088) ∧ ((rd I12 (B + 7) (wr (v3_1 * 6)).toNat = (-1) → ∀ v2_14, v2_14 = wr (mv + 1) → inR v2_14 → GoA 81 34 [some (.inr (2, B, 2)), some (.inl (1, lv)), some (.inl (1, v2_14)), some (.inl (1, v3_1)), some (.inl (1, v4_2))] [] I12 rt) ∧ (¬ rd I12 (B + 7) (wr (v3_1 * 6)).toNat = (-1) → (12 ≤ wr (lv + 1) → ∀ v2_11, v2_11 = wr (mv + 1) → inR v2_11 → GoA 81 34 [some (.inr (2, B, 2)), some (.inl (1, lv)), some (.inl (1, v2_11)), some (.inl (1, v3_1)), some (.inl (1, v4_2))] [] I12 rt) ∧ (¬ 12 ≤ wr (lv + 1) → ∀ v1_12, v1_12 = wr (lv + 1) → inR v1_12 → (0 ≤ (wr ((v3_1 * 6) + v4_2)) ∧ (wr ((v3_1 * 6) + v4_2)) < 2088) ∧ ((0 ≤ v1_12 ∧ v1_12 < 12) ∧ (∀ I13, I13 = wt I12 (B + 10) v1_12.toNat (rd I12 (B + 7) (wr ((v3_1 * 6) + v4_2)).toNat) → (0 ≤ v1_12 ∧ v1_12 < 12) ∧ (∀ I14, I14 = wt I13 (B + 11) v1_12.toNat 0 → ∀ v2_13, v2_13 = wr (mv + 1) → inR v2_13 → GoA 81 34 [some (.inr (2, B, 2)), some (.inl (1, v1_12)), some (.inl (1, v2_13)), some (.inl (1, v3_1)), some (.inl (1, v4_2))] [] I14 rt)))))))))))))) ∧ (¬ v4_2 ≤ rd I (B + 8) v3_1.toNat → ∀ v1_15, v1_15 = wr (lv + (-1)) → inR v1_15 → ∀ v2_16, v2_16 = wr (mv + 1) → inR v2_16 → GoA 81 34 [some (.inr (2, B, 2)), some (.inl (1, v1_15)), some (.inl (1, v2_16)), some (.inl (1, v3_1)), some (.inl (1, v4_2))] [] I rt))))))) : GoA 81 34 [some (.inr (2, B, 2)), some (.inl (1, lv)), some (.inl (1, mv)), m3, m4] [] I rt :=
  vgo (inl := [68, 82]) 111 [34] rfl rfl (okFL_s (okF_X hB (by decide)) (okFL_s (okF_1 hlv 1) (okFL_s (okF_1 hmv 1) (okFL_o hm3 (okFL_o hm4 okFL_e))))) okFS_e h

set_option maxHeartbeats 4000000 in
set_option maxRecDepth 100000 in
theorem b_nodeFaults {I : Mm} {rt : AR → Mm → Prop} {B : Nat} (hB : isX B)  (h : (0 ≤ (wr ((rd I (B + 2) 8) * 6)) ∧ (wr ((rd I (B + 2) 8) * 6)) < 2088) ∧ ((rd I (B + 7) (wr ((rd I (B + 2) 8) * 6)).toNat = (-1) → (0 ≤ (0 : Int) ∧ (0 : Int) < 348) ∧ (∀ I2, I2 = wt I (B + 14) 0 (rd I (B + 2) 8) → GoA 84 29 [some (.inr (2, B, 2)), some (.inl (2, 0)), some (.inl (2, 1)), some (.inl (2, 1)), some (.inl (2, 1)), some (.inl (2, 0)), none, none] [] I2 rt)) ∧ (¬ rd I (B + 7) (wr ((rd I (B + 2) 8) * 6)).toNat = (-1) → (0 ≤ (0 : Int) ∧ (0 : Int) < 348) ∧ (∀ I1, I1 = wt I (B + 14) 0 (rd I (B + 2) 8) → GoA 84 29 [some (.inr (2, B, 2)), some (.inl (2, 0)), some (.inl (2, 1)), some (.inl (2, 1)), some (.inl (2, 0)), some (.inl (2, 0)), none, none] [] I1 rt)))) : GoA 84 0 [some (.inr (2, B, 2)), none, none, none, none, none, none, none] [] I rt :=
  vgo (inl := [68, 61]) 35 [29, 111] rfl rfl (okFL_s (okF_X hB (by decide)) (okFL_n (okFL_n (okFL_n (okFL_n (okFL_n (okFL_n (okFL_n okFL_e)))))))) okFS_e h
set_option maxHeartbeats 4000000 in
set_option maxRecDepth 100000 in
theorem b_nodeFaults_29 {I : Mm} {rt : AR → Mm → Prop} {B : Nat} (hB : isX B)  {ft : Int} (hft : inR ft) {fi : Int} (hfi : inR fi) {le : Int} (hle : inR le) {lo : Int} (hlo : inR lo) {ax : Int} (hax : inR ax) {m6 : Option AV} (hm6 : okO m6) {m7 : Option AV} (hm7 : okO m7) (h : (fi ≤ ax → (fi = wr (348 - (rd I (B + 2) 7)) → rt (some (.inl (1, ft))) I) ∧ (¬ fi = wr (348 - (rd I (B + 2) 7)) → rt (some (.inl (0, ft + 1))) I)) ∧ (¬ fi ≤ ax → (0 ≤ ax ∧ ax < 348) ∧ (∀ v6_1, v6_1 = rd I (B + 14) ax.toNat → inR v6_1 → (ax = le → ∀ v3_12, v3_12 = fi → inR v3_12 → (0 ≤ (wr (v6_1 * 6)) ∧ (wr (v6_1 * 6)) < 2088) ∧ ((rd I (B + 7) (wr (v6_1 * 6)).toNat = (-1) → (0 ≤ v6_1 ∧ v6_1 < 348) ∧ ((4 < rd I (B + 8) v6_1.toNat → ∀ v1_19, v1_19 = wr (ft + 1) → inR v1_19 → (0 ≤ (wr (v6_1 * 6)) ∧ (wr (v6_1 * 6)) < 2088) ∧ ((rd I (B + 7) (wr (v6_1 * 6)).toNat = (-1) → GoA 84 111 [some (.inr (2, B, 2)), some (.inl (1, v1_19)), some (.inl (1, fi)), some (.inl (1, v3_12)), some (.inl (2, 1)), some (.inl (1, ax)), some (.inl (1, v6_1)), some (.inl (2, 0))] [] I rt) ∧ (¬ rd I (B + 7) (wr (v6_1 * 6)).toNat = (-1) → ∀ v1_20, v1_20 = wr (v1_19 + 1) → inR v1_20 → GoA 84 111 [some (.inr (2, B, 2)), some (.inl (1, v1_20)), some (.inl (1, fi)), some (.inl (1, v3_12)), some (.inl (2, 1)), some (.inl (1, ax)), some (.inl (1, v6_1)), some (.inl (2, 0))] [] I rt))) ∧ (¬ 4 < rd I (B + 8) v6_1.toNat → (0 ≤ v6_1 ∧ v6_1 < 348) ∧ ((2 ≤ rd I (B + 8) v6_1.toNat → (0 ≤ (wr (v6_1 * 6)) ∧ (wr (v6_1 * 6)) < 2088) ∧ ((rd I (B + 7) (wr (v6_1 * 6)).toNat = (-1) → GoA 84 111 [some (.inr (2, B, 2)), some (.inl (1, ft)), some (.inl (1, fi)), some (.inl (1, v3_12)), some (.inl (2, 1)), some (.inl (1, ax)), some (.inl (1, v6_1)), some (.inl (2, 0))] [] I rt) ∧ (¬ rd I (B + 7) (wr (v6_1 * 6)).toNat = (-1) → ∀ v1_21, v1_21 = wr (ft + 1) → inR v1_21 → GoA 84 111 [some (.inr (2, B, 2)), some (.inl (1, v1_21)), some (.inl (1, fi)), some (.inl (1, v3_12)), some (.inl (2, 1)), some (.inl (1, ax)), some (.inl (1, v6_1)), some (.inl (2, 0))] [] I rt))) ∧ (¬ 2 ≤ rd I (B + 8) v6_1.toNat → (v6_1 = rd I (B + 2) 8 → (0 ≤ (wr (v6_1 * 6)) ∧ (wr (v6_1 * 6)) < 2088) ∧ ((rd I (B + 7) (wr (v6_1 * 6)).toNat = (-1) → GoA 84 111 [some (.inr (2, B, 2)), some (.inl (1, ft)), some (.inl (1, fi)), some (.inl (1, v3_12)), some (.inl (2, 1)), some (.inl (1, ax)), some (.inl (1, v6_1)), some (.inl (2, 0))] [] I rt) ∧ (¬ rd I (B + 7) (wr (v6_1 * 6)).toNat = (-1) → ∀ v1_22, v1_22 = wr (ft + 1) → inR v1_22 → GoA 84 111 [some (.inr (2, B, 2)), some (.inl (1, v1_22)), some (.inl (1, fi)), some (.inl (1, v3_12)), some (.inl (2, 1)), some (.inl (1, ax)), some (.inl (1, v6_1)), some (.inl (2, 0))] [] I rt))) ∧ (¬ v6_1 = rd I (B + 2) 8 → ∀ v1_23, v1_23 = wr (ft + 1) → inR v1_23 → (0 ≤ (wr (v6_1 * 6)) ∧ (wr (v6_1 * 6)) < 2088) ∧ ((rd I (B + 7) (wr (v6_1 * 6)).toNat = (-1) → GoA 84 111 [some (.inr (2, B, 2)), some (.inl (1, v1_23)), some (.inl (1, fi)), some (.inl (1, v3_12)), some (.inl (2, 1)), some (.inl (1, ax)), some (.inl (1, v6_1)), some (.inl (2, 0))] [] I rt) ∧ (¬ rd I (B + 7) (wr (v6_1 * 6)).toNat = (-1) → ∀ v1_24, v1_24 = wr (v1_23 + 1) → inR v1_24 → GoA 84 111 [some (.inr (2, B, 2)), some (.inl (1, v1_24)), some (.inl (1, fi)), some (.inl (1, v3_12)), some (.inl (2, 1)), some (.inl (1, ax)), some (.inl (1, v6_1)), some (.inl (2, 0))] [] I rt)))))))) ∧ (¬ rd I (B + 7) (wr (v6_1 * 6)).toNat = (-1) → (0 ≤ v6_1 ∧ v6_1 < 348) ∧ ((4 < rd I (B + 8) v6_1.toNat → ∀ v1_13, v1_13 = wr (ft + 1) → inR v1_13 → (0 ≤ (wr (v6_1 * 6)) ∧ (wr (v6_1 * 6)) < 2088) ∧ ((rd I (B + 7) (wr (v6_1 * 6)).toNat = (-1) → ∀ v1_14, v1_14 = wr (v1_13 + 1) → inR v1_14 → GoA 84 111 [some (.inr (2, B, 2)), some (.inl (1, v1_14)), some (.inl (1, fi)), some (.inl (1, v3_12)), some (.inl (2, 0)), some (.inl (1, ax)), some (.inl (1, v6_1)), some (.inl (2, 0))] [] I rt) ∧ (¬ rd I (B + 7) (wr (v6_1 * 6)).toNat = (-1) → GoA 84 111 [some (.inr (2, B, 2)), some (.inl (1, v1_13)), some (.inl (1, fi)), some (.inl (1, v3_12)), some (.inl (2, 0)), some (.inl (1, ax)), some (.inl (1, v6_1)), some (.inl (2, 0))] [] I rt))) ∧ (¬ 4 < rd I (B + 8) v6_1.toNat → (0 ≤ v6_1 ∧ v6_1 < 348) ∧ ((2 ≤ rd I (B + 8) v6_1.toNat → (0 ≤ (wr (v6_1 * 6)) ∧ (wr (v6_1 * 6)) < 2088) ∧ ((rd I (B + 7) (wr (v6_1 * 6)).toNat = (-1) → ∀ v1_15, v1_15 = wr (ft + 1) → inR v1_15 → GoA 84 111 [some (.inr (2, B, 2)), some (.inl (1, v1_15)), some (.inl (1, fi)), some (.inl (1, v3_12)), some (.inl (2, 0)), some (.inl (1, ax)), some (.inl (1, v6_1)), some (.inl (2, 0))] [] I rt) ∧ (¬ rd I (B + 7) (wr (v6_1 * 6)).toNat = (-1) → GoA 84 111 [some (.inr (2, B, 2)), some (.inl (1, ft)), some (.inl (1, fi)), some (.inl (1, v3_12)), some (.inl (2, 0)), some (.inl (1, ax)), some (.inl (1, v6_1)), some (.inl (2, 0))] [] I rt))) ∧ (¬ 2 ≤ rd I (B + 8) v6_1.toNat → (v6_1 = rd I (B + 2) 8 → (0 ≤ (wr (v6_1 * 6)) ∧ (wr (v6_1 * 6)) < 2088) ∧ ((rd I (B + 7) (wr (v6_1 * 6)).toNat = (-1) → ∀ v1_16, v1_16 = wr (ft + 1) → inR v1_16 → GoA 84 111 [some (.inr (2, B, 2)), some (.inl (1, v1_16)), some (.inl (1, fi)), some (.inl (1, v3_12)), some (.inl (2, 0)), some (.inl (1, ax)), some (.inl (1, v6_1)), some (.inl (2, 0))] [] I rt) ∧ (¬ rd I (B + 7) (wr (v6_1 * 6)).toNat = (-1) → GoA 84 111 [some (.inr (2, B, 2)), some (.inl (1, ft)), some (.inl (1, fi)), some (.inl (1, v3_12)), some (.inl (2, 0)), some (.inl (1, ax)), some (.inl (1, v6_1)), some (.inl (2, 0))] [] I rt))) ∧ (¬ v6_1 = rd I (B + 2) 8 → ∀ v1_17, v1_17 = wr (ft + 1) → inR v1_17 → (0 ≤ (wr (v6_1 * 6)) ∧ (wr (v6_1 * 6)) < 2088) ∧ ((rd I (B + 7) (wr (v6_1 * 6)).toNat = (-1) → ∀ v1_18, v1_18 = wr (v1_17 + 1) → inR v1_18 → GoA 84 111 [some (.inr (2, B, 2)), some (.inl (1, v1_18)), some (.inl (1, fi)), some (.inl (1, v3_12)), some (.inl (2, 0)), some (.inl (1, ax)), some (.inl (1, v6_1)), some (.inl (2, 0))] [] I rt) ∧ (¬ rd I (B + 7) (wr (v6_1 * 6)).toNat = (-1) → GoA 84 111 [some (.inr (2, B, 2)), some (.inl (1, v1_17)), some (.inl (1, fi)), some (.inl (1, v3_12)), some (.inl (2, 0)), some (.inl (1, ax)), some (.inl (1, v6_1)), some (.inl (2, 0))] [] I rt)))))))))) ∧ (¬ ax = le → (0 ≤ v6_1 ∧ v6_1 < 348) ∧ ((4 < rd I (B + 8) v6_1.toNat → ∀ v1_2, v1_2 = wr (ft + 1) → inR v1_2 → (0 ≤ (wr (v6_1 * 6)) ∧ (wr (v6_1 * 6)) < 2088) ∧ ((rd I (B + 7) (wr (v6_1 * 6)).toNat = (-1) → (1 = lo → GoA 84 111 [some (.inr (2, B, 2)), some (.inl (1, v1_2)), some (.inl (1, fi)), some (.inl (1, le)), some (.inl (1, lo)), some (.inl (1, ax)), some (.inl (1, v6_1)), some (.inl (2, 0))] [] I rt) ∧ (¬ 1 = lo → ∀ v1_4, v1_4 = wr (v1_2 + 1) → inR v1_4 → GoA 84 111 [some (.inr (2, B, 2)), some (.inl (1, v1_4)), some (.inl (1, fi)), some (.inl (1, le)), some (.inl (1, lo)), some (.inl (1, ax)), some (.inl (1, v6_1)), some (.inl (2, 0))] [] I rt)) ∧ (¬ rd I (B + 7) (wr (v6_1 * 6)).toNat = (-1) → (0 = lo → GoA 84 111 [some (.inr (2, B, 2)), some (.inl (1, v1_2)), some (.inl (1, fi)), some (.inl (1, le)), some (.inl (1, lo)), some (.inl (1, ax)), some (.inl (1, v6_1)), some (.inl (2, 0))] [] I rt) ∧ (¬ 0 = lo → ∀ v1_3, v1_3 = wr (v1_2 + 1) → inR v1_3 → GoA 84 111 [some (.inr (2, B, 2)), some (.inl (1, v1_3)), some (.inl (1, fi)), some (.inl (1, le)), some (.inl (1, lo)), some (.inl (1, ax)), some (.inl (1, v6_1)), some (.inl (2, 0))] [] I rt)))) ∧ (¬ 4 < rd I (B + 8) v6_1.toNat → (0 ≤ v6_1 ∧ v6_1 < 348) ∧ ((2 ≤ rd I (B + 8) v6_1.toNat → (0 ≤ (wr (v6_1 * 6)) ∧ (wr (v6_1 * 6)) < 2088) ∧ ((rd I (B + 7) (wr (v6_1 * 6)).toNat = (-1) → (1 = lo → GoA 84 111 [some (.inr (2, B, 2)), some (.inl (1, ft)), some (.inl (1, fi)), some (.inl (1, le)), some (.inl (1, lo)), some (.inl (1, ax)), some (.inl (1, v6_1)), some (.inl (2, 0))] [] I rt) ∧ (¬ 1 = lo → ∀ v1_6, v1_6 = wr (ft + 1) → inR v1_6 → GoA 84 111 [some (.inr (2, B, 2)), some (.inl (1, v1_6)), some (.inl (1, fi)), some (.inl (1, le)), some (.inl (1, lo)), some (.inl (1, ax)), some (.inl (1, v6_1)), some (.inl (2, 0))] [] I rt)) ∧ (¬ rd I (B + 7) (wr (v6_1 * 6)).toNat = (-1) → (0 = lo → GoA 84 111 [some (.inr (2, B, 2)), some (.inl (1, ft)), some (.inl (1, fi)), some (.inl (1, le)), some (.inl (1, lo)), some (.inl (1, ax)), some (.inl (1, v6_1)), some (.inl (2, 0))] [] I rt) ∧ (¬ 0 = lo → ∀ v1_5, v1_5 = wr (ft + 1) → inR v1_5 → GoA 84 111 [some (.inr (2, B, 2)), some (.inl (1, v1_5)), some (.inl (1, fi)), some (.inl (1, le)), some (.inl (1, lo)), some (.inl (1, ax)), some (.inl (1, v6_1)), some (.inl (2, 0))] [] I rt)))) ∧ (¬ 2 ≤ rd I (B + 8) v6_1.toNat → (v6_1 = rd I (B + 2) 8 → (0 ≤ (wr (v6_1 * 6)) ∧ (wr (v6_1 * 6)) < 2088) ∧ ((rd I (B + 7) (wr (v6_1 * 6)).toNat = (-1) → (1 = lo → GoA 84 111 [some (.inr (2, B, 2)), some (.inl (1, ft)), some (.inl (1, fi)), some (.inl (1, le)), some (.inl (1, lo)), some (.inl (1, ax)), some (.inl (1, v6_1)), some (.inl (2, 0))] [] I rt) ∧ (¬ 1 = lo → ∀ v1_8, v1_8 = wr (ft + 1) → inR v1_8 → GoA 84 111 [some (.inr (2, B, 2)), some (.inl (1, v1_8)), some (.inl (1, fi)), some (.inl (1, le)), some (.inl (1, lo)), some (.inl (1, ax)), some (.inl (1, v6_1)), some (.inl (2, 0))] [] I rt)) ∧ (¬ rd I (B + 7) (wr (v6_1 * 6)).toNat = (-1) → (0 = lo → GoA 84 111 [some (.inr (2, B, 2)), some (.inl (1, ft)), some (.inl (1, fi)), some (.inl (1, le)), some (.inl (1, lo)), some (.inl (1, ax)), some (.inl (1, v6_1)), some (.inl (2, 0))] [] I rt) ∧ (¬ 0 = lo → ∀ v1_7, v1_7 = wr (ft + 1) → inR v1_7 → GoA 84 111 [some (.inr (2, B, 2)), some (.inl (1, v1_7)), some (.inl (1, fi)), some (.inl (1, le)), some (.inl (1, lo)), some (.inl (1, ax)), some (.inl (1, v6_1)), some (.inl (2, 0))] [] I rt)))) ∧ (¬ v6_1 = rd I (B + 2) 8 → ∀ v1_9, v1_9 = wr (ft + 1) → inR v1_9 → (0 ≤ (wr (v6_1 * 6)) ∧ (wr (v6_1 * 6)) < 2088) ∧ ((rd I (B + 7) (wr (v6_1 * 6)).toNat = (-1) → (1 = lo → GoA 84 111 [some (.inr (2, B, 2)), some (.inl (1, v1_9)), some (.inl (1, fi)), some (.inl (1, le)), some (.inl (1, lo)), some (.inl (1, ax)), some (.inl (1, v6_1)), some (.inl (2, 0))] [] I rt) ∧ (¬ 1 = lo → ∀ v1_11, v1_11 = wr (v1_9 + 1) → inR v1_11 → GoA 84 111 [some (.inr (2, B, 2)), some (.inl (1, v1_11)), some (.inl (1, fi)), some (.inl (1, le)), some (.inl (1, lo)), some (.inl (1, ax)), some (.inl (1, v6_1)), some (.inl (2, 0))] [] I rt)) ∧ (¬ rd I (B + 7) (wr (v6_1 * 6)).toNat = (-1) → (0 = lo → GoA 84 111 [some (.inr (2, B, 2)), some (.inl (1, v1_9)), some (.inl (1, fi)), some (.inl (1, le)), some (.inl (1, lo)), some (.inl (1, ax)), some (.inl (1, v6_1)), some (.inl (2, 0))] [] I rt) ∧ (¬ 0 = lo → ∀ v1_10, v1_10 = wr (v1_9 + 1) → inR v1_10 → GoA 84 111 [some (.inr (2, B, 2)), some (.inl (1, v1_10)), some (.inl (1, fi)), some (.inl (1, le)), some (.inl (1, lo)), some (.inl (1, ax)), some (.inl (1, v6_1)), some (.inl (2, 0))] [] I rt)))))))))))) : GoA 84 29 [some (.inr (2, B, 2)), some (.inl (1, ft)), some (.inl (1, fi)), some (.inl (1, le)), some (.inl (1, lo)), some (.inl (1, ax)), m6, m7] [] I rt :=
  vgo (inl := [68, 61]) 68 [29, 111] rfl rfl (okFL_s (okF_X hB (by decide)) (okFL_s (okF_1 hft 1) (okFL_s (okF_1 hfi 1) (okFL_s (okF_1 hle 1) (okFL_s (okF_1 hlo 1) (okFL_s (okF_1 hax 1) (okFL_o hm6 (okFL_o hm7 okFL_e)))))))) okFS_e h
set_option maxHeartbeats 4000000 in
set_option maxRecDepth 100000 in
theorem b_nodeFaults_111 {I : Mm} {rt : AR → Mm → Prop} {B : Nat} (hB : isX B)  {ft : Int} (hft : inR ft) {fi : Int} (hfi : inR fi) {le : Int} (hle : inR le) {lo : Int} (hlo : inR lo) {ax : Int} (hax : inR ax) {nd : Int} (hnd : inR nd) {k : Int} (hk : inR k) (h : (0 ≤ nd ∧ nd < 348) ∧ ((rd I (B + 8) nd.toNat < k → ∀ v5_1, v5_1 = wr (ax + 1) → inR v5_1 → GoA 84 29 [some (.inr (2, B, 2)), some (.inl (1, ft)), some (.inl (1, fi)), some (.inl (1, le)), some (.inl (1, lo)), some (.inl (1, v5_1)), some (.inl (1, nd)), some (.inl (1, k))] [] I rt) ∧ (¬ rd I (B + 8) nd.toNat < k → (0 ≤ (wr (nd * 6)) ∧ (wr (nd * 6)) < 2088) ∧ ((rd I (B + 7) (wr (nd * 6)).toNat = (-1) → ∀ v5_5, v5_5 = wr (ax + 1) → inR v5_5 → GoA 84 29 [some (.inr (2, B, 2)), some (.inl (1, ft)), some (.inl (1, fi)), some (.inl (1, le)), some (.inl (1, lo)), some (.inl (1, v5_5)), some (.inl (1, nd)), some (.inl (1, k))] [] I rt) ∧ (¬ rd I (B + 7) (wr (nd * 6)).toNat = (-1) → (348 ≤ fi → ∀ v5_2, v5_2 = wr (ax + 1) → inR v5_2 → GoA 84 29 [some (.inr (2, B, 2)), some (.inl (1, ft)), some (.inl (1, fi)), some (.inl (1, le)), some (.inl (1, lo)), some (.inl (1, v5_2)), some (.inl (1, nd)), some (.inl (1, k))] [] I rt) ∧ (¬ 348 ≤ fi → (0 ≤ (wr ((nd * 6) + k)) ∧ (wr ((nd * 6) + k)) < 2088) ∧ ((0 ≤ fi ∧ fi < 348) ∧ (∀ I1, I1 = wt I (B + 14) fi.toNat (rd I (B + 7) (wr ((nd * 6) + k)).toNat) → ∀ v2_3, v2_3 = wr (fi + 1) → inR v2_3 → ∀ v7_4, v7_4 = wr (k + 1) → inR v7_4 → GoA 84 111 [some (.inr (2, B, 2)), some (.inl (1, ft)), some (.inl (1, v2_3)), some (.inl (1, le)), some (.inl (1, lo)), some (.inl (1, ax)), some (.inl (1, nd)), some (.inl (1, v7_4))] [] I1 rt)))))))) : GoA 84 111 [some (.inr (2, B, 2)), some (.inl (1, ft)), some (.inl (1, fi)), some (.inl (1, le)), some (.inl (1, lo)), some (.inl (1, ax)), some (.inl (1, nd)), some (.inl (1, k))] [] I rt :=
  vgo (inl := [68, 61]) 43 [29, 111] rfl rfl (okFL_s (okF_X hB (by decide)) (okFL_s (okF_1 hft 1) (okFL_s (okF_1 hfi 1) (okFL_s (okF_1 hle 1) (okFL_s (okF_1 hlo 1) (okFL_s (okF_1 hax 1) (okFL_s (okF_1 hnd 1) (okFL_s (okF_1 hk 1) okFL_e)))))))) okFS_e h

set_option maxHeartbeats 4000000 in
set_option maxRecDepth 100000 in
theorem b_tfaults {I : Mm} {rt : AR → Mm → Prop} {B : Nat} (hB : isX B)  (h : CallV 81 [.inr (2, B, 2)] I (fun I1 => (rd I1 (B + 2) 15 = wr (648 - (rd I1 (B + 2) 2)) → GoA 83 23 [some (.inr (2, B, 2)), some (.inl (2, 0)), some (.inl (2, 1))] [] I1 rt) ∧ (¬ rd I1 (B + 2) 15 = wr (648 - (rd I1 (B + 2) 2)) → GoA 83 23 [some (.inr (2, B, 2)), some (.inl (2, 1)), some (.inl (2, 1))] [] I1 rt))) : GoA 83 0 [some (.inr (2, B, 2)), none, none] [] I rt :=
  vgo (inl := [60]) 22 [23] rfl rfl (okFL_s (okF_X hB (by decide)) (okFL_n (okFL_n okFL_e))) okFS_e h
set_option maxHeartbeats 4000000 in
set_option maxRecDepth 100000 in
theorem b_tfaults_23 {I : Mm} {rt : AR → Mm → Prop} {B : Nat} (hB : isX B)  {ft : Int} (hft : inR ft) {p : Int} (hp : inR p) (h : (rd I (B + 2) 15 ≤ p → CallZ 84 [.inr (2, B, 2)] I (fun x1 I1 => rt (some (.inl (0, ft + x1))) I1)) ∧ (¬ rd I (B + 2) 15 ≤ p → (0 ≤ (wr (p - 1)) ∧ (wr (p - 1)) < 648) ∧ ((0 ≤ p ∧ p < 648) ∧ (CallZ 4 [.inr (2, B, 3), .inl (1, rd I (B + 12) (wr (p - 1)).toNat), .inr (2, B, 3), .inl (1, rd I (B + 12) p.toNat)] I (fun x2 I2 => (x2 < 0 → ∀ v2_1, v2_1 = wr (p + 1) → inR v2_1 → GoA 83 23 [some (.inr (2, B, 2)), some (.inl (1, ft)), some (.inl (1, v2_1))] [] I2 rt) ∧ (¬ x2 < 0 → ∀ v1_2, v1_2 = wr (ft + 1) → inR v1_2 → ∀ v2_3, v2_3 = wr (p + 1) → inR v2_3 → GoA 83 23 [some (.inr (2, B, 2)), some (.inl (1, v1_2)), some (.inl (1, v2_3))] [] I2 rt)))))) : GoA 83 23 [some (.inr (2, B, 2)), some (.inl (1, ft)), some (.inl (1, p))] [] I rt :=
  vgo (inl := [60]) 28 [23] rfl rfl (okFL_s (okF_X hB (by decide)) (okFL_s (okF_1 hft 1) (okFL_s (okF_1 hp 1) okFL_e))) okFS_e h

set_option maxHeartbeats 4000000 in
set_option maxRecDepth 100000 in
theorem b_find_23 {I : Mm} {rt : AR → Mm → Prop} {B : Nat} (hB : isX B) {ax : Int} (hax : inR ax)  (h : ∀ v3_1, v3_1 = rd I (B + 2) 8 → inR v3_1 → GoA 71 8 [some (.inr (2, B, 2)), some (.inr (2, B, 23)), some (.inl (1, ax)), some (.inl (1, v3_1)), some (.inl (2, 0)), none, none] [] I rt) : GoA 71 0 [some (.inr (2, B, 2)), some (.inr (2, B, 23)), some (.inl (1, ax)), none, none, none, none] [] I rt :=
  vgo (inl := [68]) 10 [8, 21] rfl rfl (okFL_s (okF_X hB (by decide)) (okFL_s (okF_X hB (by decide)) (okFL_s (okF_1 hax 1) (okFL_n (okFL_n (okFL_n (okFL_n okFL_e))))))) okFS_e h
set_option maxHeartbeats 4000000 in
set_option maxRecDepth 100000 in
theorem b_find_23_8 {I : Mm} {rt : AR → Mm → Prop} {B : Nat} (hB : isX B)  {ax : Int} (hax : inR ax) {nd : Int} (hnd : inR nd) {lv : Int} (hlv : inR lv) {m5 : Option AV} (hm5 : okO m5) {m6 : Option AV} (hm6 : okO m6) (h : (12 ≤ lv → rt (some (.inl (2, 0))) I) ∧ (¬ 12 ≤ lv → GoA 71 21 [some (.inr (2, B, 2)), some (.inr (2, B, 23)), some (.inl (1, ax)), some (.inl (1, nd)), some (.inl (1, lv)), some (.inl (2, 0)), some (.inl (2, 1))] [] I rt)) : GoA 71 8 [some (.inr (2, B, 2)), some (.inr (2, B, 23)), some (.inl (1, ax)), some (.inl (1, nd)), some (.inl (1, lv)), m5, m6] [] I rt :=
  vgo (inl := [68]) 12 [8, 21] rfl rfl (okFL_s (okF_X hB (by decide)) (okFL_s (okF_X hB (by decide)) (okFL_s (okF_1 hax 1) (okFL_s (okF_1 hnd 1) (okFL_s (okF_1 hlv 1) (okFL_o hm5 (okFL_o hm6 okFL_e))))))) okFS_e h
set_option maxHeartbeats 4000000 in
set_option maxRecDepth 100000 in
theorem b_find_23_21 {I : Mm} {rt : AR → Mm → Prop} {B : Nat} (hB : isX B)  {ax : Int} (hax : inR ax) {nd : Int} (hnd : inR nd) {lv : Int} (hlv : inR lv) {sl : Int} (hsl : inR sl) {od : Int} (hod : inR od) (h : (0 ≤ nd ∧ nd < 348) ∧ ((rd I (B + 8) nd.toNat ≤ sl → (0 ≤ lv ∧ lv < 12) ∧ (∀ I1, I1 = wt I (B + 10) lv.toNat nd → (0 ≤ lv ∧ lv < 12) ∧ (∀ I2, I2 = wt I1 (B + 11) lv.toNat sl → ∀ I3, I3 = wt I2 (B + 2) 11 lv → (od = 0 → (od = 0 → rt (some (.inl (2, 1))) I3) ∧ (¬ od = 0 → rt (some (.inl (2, 0))) I3)) ∧ (¬ od = 0 → (0 ≤ (wr (nd * 6)) ∧ (wr (nd * 6)) < 2088) ∧ ((rd I3 (B + 7) (wr (nd * 6)).toNat = (-1) → (od = 0 → rt (some (.inl (2, 1))) I3) ∧ (¬ od = 0 → rt (some (.inl (2, 0))) I3)) ∧ (¬ rd I3 (B + 7) (wr (nd * 6)).toNat = (-1) → (0 ≤ (wr ((nd * 6) + sl)) ∧ (wr ((nd * 6) + sl)) < 2088) ∧ (∀ v3_1, v3_1 = rd I3 (B + 7) (wr ((nd * 6) + sl)).toNat → inR v3_1 → ∀ v4_2, v4_2 = wr (lv + 1) → inR v4_2 → GoA 71 8 [some (.inr (2, B, 2)), some (.inr (2, B, 23)), some (.inl (1, ax)), some (.inl (1, v3_1)), some (.inl (1, v4_2)), some (.inl (1, sl)), some (.inl (1, od))] [] I3 rt))))))) ∧ (¬ rd I (B + 8) nd.toNat ≤ sl → (od ≤ 0 → (0 ≤ lv ∧ lv < 12) ∧ (∀ I4, I4 = wt I (B + 10) lv.toNat nd → (0 ≤ lv ∧ lv < 12) ∧ (∀ I5, I5 = wt I4 (B + 11) lv.toNat sl → ∀ I6, I6 = wt I5 (B + 2) 11 lv → (od = 0 → (od = 0 → rt (some (.inl (2, 1))) I6) ∧ (¬ od = 0 → rt (some (.inl (2, 0))) I6)) ∧ (¬ od = 0 → (0 ≤ (wr (nd * 6)) ∧ (wr (nd * 6)) < 2088) ∧ ((rd I6 (B + 7) (wr (nd * 6)).toNat = (-1) → (od = 0 → rt (some (.inl (2, 1))) I6) ∧ (¬ od = 0 → rt (some (.inl (2, 0))) I6)) ∧ (¬ rd I6 (B + 7) (wr (nd * 6)).toNat = (-1) → (0 ≤ (wr ((nd * 6) + sl)) ∧ (wr ((nd * 6) + sl)) < 2088) ∧ (∀ v3_3, v3_3 = rd I6 (B + 7) (wr ((nd * 6) + sl)).toNat → inR v3_3 → ∀ v4_4, v4_4 = wr (lv + 1) → inR v4_4 → GoA 71 8 [some (.inr (2, B, 2)), some (.inr (2, B, 23)), some (.inl (1, ax)), some (.inl (1, v3_3)), some (.inl (1, v4_4)), some (.inl (1, sl)), some (.inl (1, od))] [] I6 rt))))))) ∧ (¬ od ≤ 0 → (0 ≤ (wr ((nd * 5) + sl)) ∧ (wr ((nd * 5) + sl)) < 1740) ∧ (CallZ 4 [.inr (2, B, 23), .inl (1, ax), .inr (2, B, 3), .inl (1, rd I (B + 6) (wr ((nd * 5) + sl)).toNat)] I (fun x1 I7 => ∀ v6_5, v6_5 = x1 → inR v6_5 → (v6_5 ≤ 0 → GoA 71 21 [some (.inr (2, B, 2)), some (.inr (2, B, 23)), some (.inl (1, ax)), some (.inl (1, nd)), some (.inl (1, lv)), some (.inl (1, sl)), some (.inl (1, v6_5))] [] I7 rt) ∧ (¬ v6_5 ≤ 0 → ∀ v5_6, v5_6 = wr (sl + 1) → inR v5_6 → GoA 71 21 [some (.inr (2, B, 2)), some (.inr (2, B, 23)), some (.inl (1, ax)), some (.inl (1, nd)), some (.inl (1, lv)), some (.inl (1, v5_6)), some (.inl (1, v6_5))] [] I7 rt))))))) : GoA 71 21 [some (.inr (2, B, 2)), some (.inr (2, B, 23)), some (.inl (1, ax)), some (.inl (1, nd)), some (.inl (1, lv)), some (.inl (1, sl)), some (.inl (1, od))] [] I rt :=
  vgo (inl := [68]) 53 [8, 21] rfl rfl (okFL_s (okF_X hB (by decide)) (okFL_s (okF_X hB (by decide)) (okFL_s (okF_1 hax 1) (okFL_s (okF_1 hnd 1) (okFL_s (okF_1 hlv 1) (okFL_s (okF_1 hsl 1) (okFL_s (okF_1 hod 1) okFL_e))))))) okFS_e h

set_option maxHeartbeats 4000000 in
set_option maxRecDepth 100000 in
theorem b_add_23 {I : Mm} {rt : AR → Mm → Prop} {B : Nat} (hB : isX B) {ax : Int} (hax : inR ax)  (h : (rd I (B + 2) 2 = 0 → rt none I) ∧ (¬ rd I (B + 2) 2 = 0 → (rd I (B + 2) 7 ≤ 12 → rt none I) ∧ (¬ rd I (B + 2) 7 ≤ 12 → CallZ 71 [.inr (2, B, 2), .inr (2, B, 23), .inl (1, ax)] I (fun x1 I1 => (x1 = 0 → ∀ I2, I2 = wt I1 (B + 2) 2 ((rd I1 (B + 2) 2) - 1) → (0 ≤ (rd I2 (B + 2) 2) ∧ (rd I2 (B + 2) 2) < 648) ∧ (∀ v3_1, v3_1 = rd I2 (B + 5) (rd I2 (B + 2) 2).toNat → inR v3_1 → (0 ≤ (wr (ax * 4)) ∧ 0 ≤ (wr (v3_1 * 4)) ∧ 0 ≤ (4 : Int) ∧ (wr (ax * 4)) + (4 : Int) ≤ 4 ∧ (wr (v3_1 * 4)) + (4 : Int) ≤ 2592) ∧ (∀ I3, I3 = cp I2 (B + 24) (B + 4) (wr (ax * 4)).toNat (wr (v3_1 * 4)).toNat 4 → (0 ≤ (rd I3 (B + 2) 11) ∧ (rd I3 (B + 2) 11) < 12) ∧ ((0 ≤ (rd I3 (B + 2) 11) ∧ (rd I3 (B + 2) 11) < 12) ∧ (CallV 73 [.inr (2, B, 2), .inl (1, rd I3 (B + 10) (rd I3 (B + 2) 11).toNat), .inl (1, rd I3 (B + 11) (rd I3 (B + 2) 11).toNat), .inl (1, v3_1), .inl (2, (-1))] I3 (fun I4 => CallV 75 [.inr (2, B, 2)] I4 (fun I5 => ∀ I6, I6 = wt I5 (B + 2) 14 0 → rt none I6))))))) ∧ (¬ x1 = 0 → rt none I1))))) : GoA 66 0 [some (.inr (2, B, 2)), some (.inr (2, B, 23)), some (.inl (1, ax)), none] [] I rt :=
  vgo (inl := [3]) 68 [] rfl rfl (okFL_s (okF_X hB (by decide)) (okFL_s (okF_X hB (by decide)) (okFL_s (okF_1 hax 1) (okFL_n okFL_e)))) okFS_e h

set_option maxHeartbeats 4000000 in
set_option maxRecDepth 100000 in
theorem b_cut_23 {I : Mm} {rt : AR → Mm → Prop} {B : Nat} (hB : isX B) {ax : Int} (hax : inR ax)  (h : CallZ 71 [.inr (2, B, 2), .inr (2, B, 23), .inl (1, ax)] I (fun x1 I1 => (x1 = 0 → rt none I1) ∧ (¬ x1 = 0 → (0 ≤ (rd I1 (B + 2) 11) ∧ (rd I1 (B + 2) 11) < 12) ∧ (∀ v3_1, v3_1 = rd I1 (B + 10) (rd I1 (B + 2) 11).toNat → inR v3_1 → (0 ≤ (rd I1 (B + 2) 11) ∧ (rd I1 (B + 2) 11) < 12) ∧ (∀ v4_2, v4_2 = rd I1 (B + 11) (rd I1 (B + 2) 11).toNat → inR v4_2 → (0 ≤ (wr ((v3_1 * 5) + v4_2)) ∧ (wr ((v3_1 * 5) + v4_2)) < 1740) ∧ ((0 ≤ (rd I1 (B + 2) 2) ∧ (rd I1 (B + 2) 2) < 648) ∧ (∀ I2, I2 = wt I1 (B + 5) (rd I1 (B + 2) 2).toNat (rd I1 (B + 6) (wr ((v3_1 * 5) + v4_2)).toNat) → ∀ I3, I3 = wt I2 (B + 2) 2 ((rd I2 (B + 2) 2) + 1) → (0 ≤ (wr (v3_1 * 6)) ∧ (wr (v3_1 * 6)) < 2088) ∧ ((rd I3 (B + 7) (wr (v3_1 * 6)).toNat = (-1) → CallV 74 [.inr (2, B, 2), .inl (1, v3_1), .inl (1, v4_2)] I3 (fun I9 => CallV 77 [.inr (2, B, 2)] I9 (fun I10 => ∀ I11, I11 = wt I10 (B + 2) 14 0 → rt none I11))) ∧ (¬ rd I3 (B + 7) (wr (v3_1 * 6)).toNat = (-1) → CallV 72 [.inr (2, B, 2)] I3 (fun I4 => (0 ≤ (rd I4 (B + 2) 11) ∧ (rd I4 (B + 2) 11) < 12) ∧ (∀ v5_3, v5_3 = rd I4 (B + 10) (rd I4 (B + 2) 11).toNat → inR v5_3 → (0 ≤ v5_3 ∧ v5_3 < 348) ∧ (∀ v6_4, v6_4 = wr ((rd I4 (B + 8) v5_3.toNat) - 1) → inR v6_4 → (0 ≤ (wr ((v5_3 * 5) + v6_4)) ∧ (wr ((v5_3 * 5) + v6_4)) < 1740) ∧ ((0 ≤ (wr ((v3_1 * 5) + v4_2)) ∧ (wr ((v3_1 * 5) + v4_2)) < 1740) ∧ (∀ I5, I5 = wt I4 (B + 6) (wr ((v3_1 * 5) + v4_2)).toNat (rd I4 (B + 6) (wr ((v5_3 * 5) + v6_4)).toNat) → CallV 74 [.inr (2, B, 2), .inl (1, v5_3), .inl (1, v6_4)] I5 (fun I6 => CallV 77 [.inr (2, B, 2)] I6 (fun I7 => ∀ I8, I8 = wt I7 (B + 2) 14 0 → rt none I8)))))))))))))))) : GoA 67 0 [some (.inr (2, B, 2)), some (.inr (2, B, 23)), some (.inl (1, ax)), none, none, none, none] [] I rt :=
  vgo (inl := [68]) 96 [] rfl rfl (okFL_s (okF_X hB (by decide)) (okFL_s (okF_X hB (by decide)) (okFL_s (okF_1 hax 1) (okFL_n (okFL_n (okFL_n (okFL_n okFL_e))))))) okFS_e h

set_option maxHeartbeats 4000000 in
set_option maxRecDepth 100000 in
theorem b_find_20 {I : Mm} {rt : AR → Mm → Prop} {B : Nat} (hB : isX B) {ax : Int} (hax : inR ax)  (h : ∀ v3_1, v3_1 = rd I (B + 2) 8 → inR v3_1 → GoA 71 8 [some (.inr (2, B, 2)), some (.inr (2, B, 20)), some (.inl (1, ax)), some (.inl (1, v3_1)), some (.inl (2, 0)), none, none] [] I rt) : GoA 71 0 [some (.inr (2, B, 2)), some (.inr (2, B, 20)), some (.inl (1, ax)), none, none, none, none] [] I rt :=
  vgo (inl := [68]) 10 [8, 21] rfl rfl (okFL_s (okF_X hB (by decide)) (okFL_s (okF_X hB (by decide)) (okFL_s (okF_1 hax 1) (okFL_n (okFL_n (okFL_n (okFL_n okFL_e))))))) okFS_e h
set_option maxHeartbeats 4000000 in
set_option maxRecDepth 100000 in
theorem b_find_20_8 {I : Mm} {rt : AR → Mm → Prop} {B : Nat} (hB : isX B)  {ax : Int} (hax : inR ax) {nd : Int} (hnd : inR nd) {lv : Int} (hlv : inR lv) {m5 : Option AV} (hm5 : okO m5) {m6 : Option AV} (hm6 : okO m6) (h : (12 ≤ lv → rt (some (.inl (2, 0))) I) ∧ (¬ 12 ≤ lv → GoA 71 21 [some (.inr (2, B, 2)), some (.inr (2, B, 20)), some (.inl (1, ax)), some (.inl (1, nd)), some (.inl (1, lv)), some (.inl (2, 0)), some (.inl (2, 1))] [] I rt)) : GoA 71 8 [some (.inr (2, B, 2)), some (.inr (2, B, 20)), some (.inl (1, ax)), some (.inl (1, nd)), some (.inl (1, lv)), m5, m6] [] I rt :=
  vgo (inl := [68]) 12 [8, 21] rfl rfl (okFL_s (okF_X hB (by decide)) (okFL_s (okF_X hB (by decide)) (okFL_s (okF_1 hax 1) (okFL_s (okF_1 hnd 1) (okFL_s (okF_1 hlv 1) (okFL_o hm5 (okFL_o hm6 okFL_e))))))) okFS_e h
set_option maxHeartbeats 4000000 in
set_option maxRecDepth 100000 in
theorem b_find_20_21 {I : Mm} {rt : AR → Mm → Prop} {B : Nat} (hB : isX B)  {ax : Int} (hax : inR ax) {nd : Int} (hnd : inR nd) {lv : Int} (hlv : inR lv) {sl : Int} (hsl : inR sl) {od : Int} (hod : inR od) (h : (0 ≤ nd ∧ nd < 348) ∧ ((rd I (B + 8) nd.toNat ≤ sl → (0 ≤ lv ∧ lv < 12) ∧ (∀ I1, I1 = wt I (B + 10) lv.toNat nd → (0 ≤ lv ∧ lv < 12) ∧ (∀ I2, I2 = wt I1 (B + 11) lv.toNat sl → ∀ I3, I3 = wt I2 (B + 2) 11 lv → (od = 0 → (od = 0 → rt (some (.inl (2, 1))) I3) ∧ (¬ od = 0 → rt (some (.inl (2, 0))) I3)) ∧ (¬ od = 0 → (0 ≤ (wr (nd * 6)) ∧ (wr (nd * 6)) < 2088) ∧ ((rd I3 (B + 7) (wr (nd * 6)).toNat = (-1) → (od = 0 → rt (some (.inl (2, 1))) I3) ∧ (¬ od = 0 → rt (some (.inl (2, 0))) I3)) ∧ (¬ rd I3 (B + 7) (wr (nd * 6)).toNat = (-1) → (0 ≤ (wr ((nd * 6) + sl)) ∧ (wr ((nd * 6) + sl)) < 2088) ∧ (∀ v3_1, v3_1 = rd I3 (B + 7) (wr ((nd * 6) + sl)).toNat → inR v3_1 → ∀ v4_2, v4_2 = wr (lv + 1) → inR v4_2 → GoA 71 8 [some (.inr (2, B, 2)), some (.inr (2, B, 20)), some (.inl (1, ax)), some (.inl (1, v3_1)), some (.inl (1, v4_2)), some (.inl (1, sl)), some (.inl (1, od))] [] I3 rt))))))) ∧ (¬ rd I (B + 8) nd.toNat ≤ sl → (od ≤ 0 → (0 ≤ lv ∧ lv < 12) ∧ (∀ I4, I4 = wt I (B + 10) lv.toNat nd → (0 ≤ lv ∧ lv < 12) ∧ (∀ I5, I5 = wt I4 (B + 11) lv.toNat sl → ∀ I6, I6 = wt I5 (B + 2) 11 lv → (od = 0 → (od = 0 → rt (some (.inl (2, 1))) I6) ∧ (¬ od = 0 → rt (some (.inl (2, 0))) I6)) ∧ (¬ od = 0 → (0 ≤ (wr (nd * 6)) ∧ (wr (nd * 6)) < 2088) ∧ ((rd I6 (B + 7) (wr (nd * 6)).toNat = (-1) → (od = 0 → rt (some (.inl (2, 1))) I6) ∧ (¬ od = 0 → rt (some (.inl (2, 0))) I6)) ∧ (¬ rd I6 (B + 7) (wr (nd * 6)).toNat = (-1) → (0 ≤ (wr ((nd * 6) + sl)) ∧ (wr ((nd * 6) + sl)) < 2088) ∧ (∀ v3_3, v3_3 = rd I6 (B + 7) (wr ((nd * 6) + sl)).toNat → inR v3_3 → ∀ v4_4, v4_4 = wr (lv + 1) → inR v4_4 → GoA 71 8 [some (.inr (2, B, 2)), some (.inr (2, B, 20)), some (.inl (1, ax)), some (.inl (1, v3_3)), some (.inl (1, v4_4)), some (.inl (1, sl)), some (.inl (1, od))] [] I6 rt))))))) ∧ (¬ od ≤ 0 → (0 ≤ (wr ((nd * 5) + sl)) ∧ (wr ((nd * 5) + sl)) < 1740) ∧ (CallZ 4 [.inr (2, B, 20), .inl (1, ax), .inr (2, B, 3), .inl (1, rd I (B + 6) (wr ((nd * 5) + sl)).toNat)] I (fun x1 I7 => ∀ v6_5, v6_5 = x1 → inR v6_5 → (v6_5 ≤ 0 → GoA 71 21 [some (.inr (2, B, 2)), some (.inr (2, B, 20)), some (.inl (1, ax)), some (.inl (1, nd)), some (.inl (1, lv)), some (.inl (1, sl)), some (.inl (1, v6_5))] [] I7 rt) ∧ (¬ v6_5 ≤ 0 → ∀ v5_6, v5_6 = wr (sl + 1) → inR v5_6 → GoA 71 21 [some (.inr (2, B, 2)), some (.inr (2, B, 20)), some (.inl (1, ax)), some (.inl (1, nd)), some (.inl (1, lv)), some (.inl (1, v5_6)), some (.inl (1, v6_5))] [] I7 rt))))))) : GoA 71 21 [some (.inr (2, B, 2)), some (.inr (2, B, 20)), some (.inl (1, ax)), some (.inl (1, nd)), some (.inl (1, lv)), some (.inl (1, sl)), some (.inl (1, od))] [] I rt :=
  vgo (inl := [68]) 53 [8, 21] rfl rfl (okFL_s (okF_X hB (by decide)) (okFL_s (okF_X hB (by decide)) (okFL_s (okF_1 hax 1) (okFL_s (okF_1 hnd 1) (okFL_s (okF_1 hlv 1) (okFL_s (okF_1 hsl 1) (okFL_s (okF_1 hod 1) okFL_e))))))) okFS_e h

set_option maxHeartbeats 4000000 in
set_option maxRecDepth 100000 in
theorem b_add_20 {I : Mm} {rt : AR → Mm → Prop} {B : Nat} (hB : isX B) {ax : Int} (hax : inR ax)  (h : (rd I (B + 2) 2 = 0 → rt none I) ∧ (¬ rd I (B + 2) 2 = 0 → (rd I (B + 2) 7 ≤ 12 → rt none I) ∧ (¬ rd I (B + 2) 7 ≤ 12 → CallZ 71 [.inr (2, B, 2), .inr (2, B, 20), .inl (1, ax)] I (fun x1 I1 => (x1 = 0 → ∀ I2, I2 = wt I1 (B + 2) 2 ((rd I1 (B + 2) 2) - 1) → (0 ≤ (rd I2 (B + 2) 2) ∧ (rd I2 (B + 2) 2) < 648) ∧ (∀ v3_1, v3_1 = rd I2 (B + 5) (rd I2 (B + 2) 2).toNat → inR v3_1 → (0 ≤ (wr (ax * 4)) ∧ 0 ≤ (wr (v3_1 * 4)) ∧ 0 ≤ (4 : Int) ∧ (wr (ax * 4)) + (4 : Int) ≤ 2560 ∧ (wr (v3_1 * 4)) + (4 : Int) ≤ 2592) ∧ (∀ I3, I3 = cp I2 (B + 21) (B + 4) (wr (ax * 4)).toNat (wr (v3_1 * 4)).toNat 4 → (0 ≤ (rd I3 (B + 2) 11) ∧ (rd I3 (B + 2) 11) < 12) ∧ ((0 ≤ (rd I3 (B + 2) 11) ∧ (rd I3 (B + 2) 11) < 12) ∧ (CallV 73 [.inr (2, B, 2), .inl (1, rd I3 (B + 10) (rd I3 (B + 2) 11).toNat), .inl (1, rd I3 (B + 11) (rd I3 (B + 2) 11).toNat), .inl (1, v3_1), .inl (2, (-1))] I3 (fun I4 => CallV 75 [.inr (2, B, 2)] I4 (fun I5 => ∀ I6, I6 = wt I5 (B + 2) 14 0 → rt none I6))))))) ∧ (¬ x1 = 0 → rt none I1))))) : GoA 66 0 [some (.inr (2, B, 2)), some (.inr (2, B, 20)), some (.inl (1, ax)), none] [] I rt :=
  vgo (inl := [3]) 68 [] rfl rfl (okFL_s (okF_X hB (by decide)) (okFL_s (okF_X hB (by decide)) (okFL_s (okF_1 hax 1) (okFL_n okFL_e)))) okFS_e h

set_option maxHeartbeats 4000000 in
set_option maxRecDepth 100000 in
theorem b_find_16 {I : Mm} {rt : AR → Mm → Prop} {B : Nat} (hB : isX B) {ax : Int} (hax : inR ax)  (h : ∀ v3_1, v3_1 = rd I (B + 2) 8 → inR v3_1 → GoA 71 8 [some (.inr (2, B, 2)), some (.inr (2, B, 16)), some (.inl (1, ax)), some (.inl (1, v3_1)), some (.inl (2, 0)), none, none] [] I rt) : GoA 71 0 [some (.inr (2, B, 2)), some (.inr (2, B, 16)), some (.inl (1, ax)), none, none, none, none] [] I rt :=
  vgo (inl := [68]) 10 [8, 21] rfl rfl (okFL_s (okF_X hB (by decide)) (okFL_s (okF_X hB (by decide)) (okFL_s (okF_1 hax 1) (okFL_n (okFL_n (okFL_n (okFL_n okFL_e))))))) okFS_e h
set_option maxHeartbeats 4000000 in
set_option maxRecDepth 100000 in
theorem b_find_16_8 {I : Mm} {rt : AR → Mm → Prop} {B : Nat} (hB : isX B)  {ax : Int} (hax : inR ax) {nd : Int} (hnd : inR nd) {lv : Int} (hlv : inR lv) {m5 : Option AV} (hm5 : okO m5) {m6 : Option AV} (hm6 : okO m6) (h : (12 ≤ lv → rt (some (.inl (2, 0))) I) ∧ (¬ 12 ≤ lv → GoA 71 21 [some (.inr (2, B, 2)), some (.inr (2, B, 16)), some (.inl (1, ax)), some (.inl (1, nd)), some (.inl (1, lv)), some (.inl (2, 0)), some (.inl (2, 1))] [] I rt)) : GoA 71 8 [some (.inr (2, B, 2)), some (.inr (2, B, 16)), some (.inl (1, ax)), some (.inl (1, nd)), some (.inl (1, lv)), m5, m6] [] I rt :=
  vgo (inl := [68]) 12 [8, 21] rfl rfl (okFL_s (okF_X hB (by decide)) (okFL_s (okF_X hB (by decide)) (okFL_s (okF_1 hax 1) (okFL_s (okF_1 hnd 1) (okFL_s (okF_1 hlv 1) (okFL_o hm5 (okFL_o hm6 okFL_e))))))) okFS_e h
set_option maxHeartbeats 4000000 in
set_option maxRecDepth 100000 in
theorem b_find_16_21 {I : Mm} {rt : AR → Mm → Prop} {B : Nat} (hB : isX B)  {ax : Int} (hax : inR ax) {nd : Int} (hnd : inR nd) {lv : Int} (hlv : inR lv) {sl : Int} (hsl : inR sl) {od : Int} (hod : inR od) (h : (0 ≤ nd ∧ nd < 348) ∧ ((rd I (B + 8) nd.toNat ≤ sl → (0 ≤ lv ∧ lv < 12) ∧ (∀ I1, I1 = wt I (B + 10) lv.toNat nd → (0 ≤ lv ∧ lv < 12) ∧ (∀ I2, I2 = wt I1 (B + 11) lv.toNat sl → ∀ I3, I3 = wt I2 (B + 2) 11 lv → (od = 0 → (od = 0 → rt (some (.inl (2, 1))) I3) ∧ (¬ od = 0 → rt (some (.inl (2, 0))) I3)) ∧ (¬ od = 0 → (0 ≤ (wr (nd * 6)) ∧ (wr (nd * 6)) < 2088) ∧ ((rd I3 (B + 7) (wr (nd * 6)).toNat = (-1) → (od = 0 → rt (some (.inl (2, 1))) I3) ∧ (¬ od = 0 → rt (some (.inl (2, 0))) I3)) ∧ (¬ rd I3 (B + 7) (wr (nd * 6)).toNat = (-1) → (0 ≤ (wr ((nd * 6) + sl)) ∧ (wr ((nd * 6) + sl)) < 2088) ∧ (∀ v3_1, v3_1 = rd I3 (B + 7) (wr ((nd * 6) + sl)).toNat → inR v3_1 → ∀ v4_2, v4_2 = wr (lv + 1) → inR v4_2 → GoA 71 8 [some (.inr (2, B, 2)), some (.inr (2, B, 16)), some (.inl (1, ax)), some (.inl (1, v3_1)), some (.inl (1, v4_2)), some (.inl (1, sl)), some (.inl (1, od))] [] I3 rt))))))) ∧ (¬ rd I (B + 8) nd.toNat ≤ sl → (od ≤ 0 → (0 ≤ lv ∧ lv < 12) ∧ (∀ I4, I4 = wt I (B + 10) lv.toNat nd → (0 ≤ lv ∧ lv < 12) ∧ (∀ I5, I5 = wt I4 (B + 11) lv.toNat sl → ∀ I6, I6 = wt I5 (B + 2) 11 lv → (od = 0 → (od = 0 → rt (some (.inl (2, 1))) I6) ∧ (¬ od = 0 → rt (some (.inl (2, 0))) I6)) ∧ (¬ od = 0 → (0 ≤ (wr (nd * 6)) ∧ (wr (nd * 6)) < 2088) ∧ ((rd I6 (B + 7) (wr (nd * 6)).toNat = (-1) → (od = 0 → rt (some (.inl (2, 1))) I6) ∧ (¬ od = 0 → rt (some (.inl (2, 0))) I6)) ∧ (¬ rd I6 (B + 7) (wr (nd * 6)).toNat = (-1) → (0 ≤ (wr ((nd * 6) + sl)) ∧ (wr ((nd * 6) + sl)) < 2088) ∧ (∀ v3_3, v3_3 = rd I6 (B + 7) (wr ((nd * 6) + sl)).toNat → inR v3_3 → ∀ v4_4, v4_4 = wr (lv + 1) → inR v4_4 → GoA 71 8 [some (.inr (2, B, 2)), some (.inr (2, B, 16)), some (.inl (1, ax)), some (.inl (1, v3_3)), some (.inl (1, v4_4)), some (.inl (1, sl)), some (.inl (1, od))] [] I6 rt))))))) ∧ (¬ od ≤ 0 → (0 ≤ (wr ((nd * 5) + sl)) ∧ (wr ((nd * 5) + sl)) < 1740) ∧ (CallZ 4 [.inr (2, B, 16), .inl (1, ax), .inr (2, B, 3), .inl (1, rd I (B + 6) (wr ((nd * 5) + sl)).toNat)] I (fun x1 I7 => ∀ v6_5, v6_5 = x1 → inR v6_5 → (v6_5 ≤ 0 → GoA 71 21 [some (.inr (2, B, 2)), some (.inr (2, B, 16)), some (.inl (1, ax)), some (.inl (1, nd)), some (.inl (1, lv)), some (.inl (1, sl)), some (.inl (1, v6_5))] [] I7 rt) ∧ (¬ v6_5 ≤ 0 → ∀ v5_6, v5_6 = wr (sl + 1) → inR v5_6 → GoA 71 21 [some (.inr (2, B, 2)), some (.inr (2, B, 16)), some (.inl (1, ax)), some (.inl (1, nd)), some (.inl (1, lv)), some (.inl (1, v5_6)), some (.inl (1, v6_5))] [] I7 rt))))))) : GoA 71 21 [some (.inr (2, B, 2)), some (.inr (2, B, 16)), some (.inl (1, ax)), some (.inl (1, nd)), some (.inl (1, lv)), some (.inl (1, sl)), some (.inl (1, od))] [] I rt :=
  vgo (inl := [68]) 53 [8, 21] rfl rfl (okFL_s (okF_X hB (by decide)) (okFL_s (okF_X hB (by decide)) (okFL_s (okF_1 hax 1) (okFL_s (okF_1 hnd 1) (okFL_s (okF_1 hlv 1) (okFL_s (okF_1 hsl 1) (okFL_s (okF_1 hod 1) okFL_e))))))) okFS_e h

set_option maxHeartbeats 4000000 in
set_option maxRecDepth 100000 in
theorem b_add_16 {I : Mm} {rt : AR → Mm → Prop} {B : Nat} (hB : isX B) {ax : Int} (hax : inR ax)  (h : (rd I (B + 2) 2 = 0 → rt none I) ∧ (¬ rd I (B + 2) 2 = 0 → (rd I (B + 2) 7 ≤ 12 → rt none I) ∧ (¬ rd I (B + 2) 7 ≤ 12 → CallZ 71 [.inr (2, B, 2), .inr (2, B, 16), .inl (1, ax)] I (fun x1 I1 => (x1 = 0 → ∀ I2, I2 = wt I1 (B + 2) 2 ((rd I1 (B + 2) 2) - 1) → (0 ≤ (rd I2 (B + 2) 2) ∧ (rd I2 (B + 2) 2) < 648) ∧ (∀ v3_1, v3_1 = rd I2 (B + 5) (rd I2 (B + 2) 2).toNat → inR v3_1 → (0 ≤ (wr (ax * 4)) ∧ 0 ≤ (wr (v3_1 * 4)) ∧ 0 ≤ (4 : Int) ∧ (wr (ax * 4)) + (4 : Int) ≤ 1200 ∧ (wr (v3_1 * 4)) + (4 : Int) ≤ 2592) ∧ (∀ I3, I3 = cp I2 (B + 17) (B + 4) (wr (ax * 4)).toNat (wr (v3_1 * 4)).toNat 4 → (0 ≤ (rd I3 (B + 2) 11) ∧ (rd I3 (B + 2) 11) < 12) ∧ ((0 ≤ (rd I3 (B + 2) 11) ∧ (rd I3 (B + 2) 11) < 12) ∧ (CallV 73 [.inr (2, B, 2), .inl (1, rd I3 (B + 10) (rd I3 (B + 2) 11).toNat), .inl (1, rd I3 (B + 11) (rd I3 (B + 2) 11).toNat), .inl (1, v3_1), .inl (2, (-1))] I3 (fun I4 => CallV 75 [.inr (2, B, 2)] I4 (fun I5 => ∀ I6, I6 = wt I5 (B + 2) 14 0 → rt none I6))))))) ∧ (¬ x1 = 0 → rt none I1))))) : GoA 66 0 [some (.inr (2, B, 2)), some (.inr (2, B, 16)), some (.inl (1, ax)), none] [] I rt :=
  vgo (inl := [3]) 68 [] rfl rfl (okFL_s (okF_X hB (by decide)) (okFL_s (okF_X hB (by decide)) (okFL_s (okF_1 hax 1) (okFL_n okFL_e)))) okFS_e h

set_option maxHeartbeats 4000000 in
set_option maxRecDepth 100000 in
theorem b_cut_16 {I : Mm} {rt : AR → Mm → Prop} {B : Nat} (hB : isX B) {ax : Int} (hax : inR ax)  (h : CallZ 71 [.inr (2, B, 2), .inr (2, B, 16), .inl (1, ax)] I (fun x1 I1 => (x1 = 0 → rt none I1) ∧ (¬ x1 = 0 → (0 ≤ (rd I1 (B + 2) 11) ∧ (rd I1 (B + 2) 11) < 12) ∧ (∀ v3_1, v3_1 = rd I1 (B + 10) (rd I1 (B + 2) 11).toNat → inR v3_1 → (0 ≤ (rd I1 (B + 2) 11) ∧ (rd I1 (B + 2) 11) < 12) ∧ (∀ v4_2, v4_2 = rd I1 (B + 11) (rd I1 (B + 2) 11).toNat → inR v4_2 → (0 ≤ (wr ((v3_1 * 5) + v4_2)) ∧ (wr ((v3_1 * 5) + v4_2)) < 1740) ∧ ((0 ≤ (rd I1 (B + 2) 2) ∧ (rd I1 (B + 2) 2) < 648) ∧ (∀ I2, I2 = wt I1 (B + 5) (rd I1 (B + 2) 2).toNat (rd I1 (B + 6) (wr ((v3_1 * 5) + v4_2)).toNat) → ∀ I3, I3 = wt I2 (B + 2) 2 ((rd I2 (B + 2) 2) + 1) → (0 ≤ (wr (v3_1 * 6)) ∧ (wr (v3_1 * 6)) < 2088) ∧ ((rd I3 (B + 7) (wr (v3_1 * 6)).toNat = (-1) → CallV 74 [.inr (2, B, 2), .inl (1, v3_1), .inl (1, v4_2)] I3 (fun I9 => CallV 77 [.inr (2, B, 2)] I9 (fun I10 => ∀ I11, I11 = wt I10 (B + 2) 14 0 → rt none I11))) ∧ (¬ rd I3 (B + 7) (wr (v3_1 * 6)).toNat = (-1) → CallV 72 [.inr (2, B, 2)] I3 (fun I4 => (0 ≤ (rd I4 (B + 2) 11) ∧ (rd I4 (B + 2) 11) < 12) ∧ (∀ v5_3, v5_3 = rd I4 (B + 10) (rd I4 (B + 2) 11).toNat → inR v5_3 → (0 ≤ v5_3 ∧ v5_3 < 348) ∧ (∀ v6_4, v6_4 = wr ((rd I4 (B + 8) v5_3.toNat) - 1) → inR v6_4 → (0 ≤ (wr ((v5_3 * 5) + v6_4)) ∧ (wr ((v5_3 * 5) + v6_4)) < 1740) ∧ ((0 ≤ (wr ((v3_1 * 5) + v4_2)) ∧ (wr ((v3_1 * 5) + v4_2)) < 1740) ∧ (∀ I5, I5 = wt I4 (B + 6) (wr ((v3_1 * 5) + v4_2)).toNat (rd I4 (B + 6) (wr ((v5_3 * 5) + v6_4)).toNat) → CallV 74 [.inr (2, B, 2), .inl (1, v5_3), .inl (1, v6_4)] I5 (fun I6 => CallV 77 [.inr (2, B, 2)] I6 (fun I7 => ∀ I8, I8 = wt I7 (B + 2) 14 0 → rt none I8)))))))))))))))) : GoA 67 0 [some (.inr (2, B, 2)), some (.inr (2, B, 16)), some (.inl (1, ax)), none, none, none, none] [] I rt :=
  vgo (inl := [68]) 96 [] rfl rfl (okFL_s (okF_X hB (by decide)) (okFL_s (okF_X hB (by decide)) (okFL_s (okF_1 hax 1) (okFL_n (okFL_n (okFL_n (okFL_n okFL_e))))))) okFS_e h

set_option maxHeartbeats 4000000 in
set_option maxRecDepth 100000 in
theorem b_wordAt {I : Mm} {rt : AR → Mm → Prop} {B : Nat} (hB : isX B) {p : Int} (hp : inR p) {wh : Int} (hwh : inR wh)  (h : CallV 81 [.inr (2, B, 2)] I (fun I1 => (0 ≤ p ∧ p < 648) ∧ ((0 ≤ (wr (((rd I1 (B + 12) p.toNat) * 4) + wh)) ∧ (wr (((rd I1 (B + 12) p.toNat) * 4) + wh)) < 2592) ∧ (rt (some (.inl (1, rd I1 (B + 4) (wr (((rd I1 (B + 12) p.toNat) * 4) + wh)).toNat))) I1)))) : GoA 63 0 [some (.inr (2, B, 2)), some (.inl (1, p)), some (.inl (1, wh))] [] I rt :=
  vgo (inl := [1]) 25 [] rfl rfl (okFL_s (okF_X hB (by decide)) (okFL_s (okF_1 hp 1) (okFL_s (okF_1 hwh 1) okFL_e))) okFS_e h

set_option maxHeartbeats 4000000 in
set_option maxRecDepth 100000 in
theorem b_depthAt {I : Mm} {rt : AR → Mm → Prop} {B : Nat} (hB : isX B) {p : Int} (hp : inR p)  (h : CallV 81 [.inr (2, B, 2)] I (fun I1 => (0 ≤ p ∧ p < 648) ∧ (rt (some (.inl (1, rd I1 (B + 13) p.toNat))) I1))) : GoA 64 0 [some (.inr (2, B, 2)), some (.inl (1, p))] [] I rt :=
  vgo (inl := []) 12 [] rfl rfl (okFL_s (okF_X hB (by decide)) (okFL_s (okF_1 hp 1) okFL_e)) okFS_e h
end
