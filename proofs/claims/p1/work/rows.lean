section
-- ===== PART A: goes FIRST, ahead of the names: the tables' words, and 'selects' of the private methods out of them =====
/-- a private method of a class that the tables say can be made, by its rows of tables_1 -/
def lw_okq (q : MethodName × Nat) : Prop := (q.1.cls ≠ "java/lang/invoke/MethodHandle" ∧ q.1.cls ≠ "java/lang/invoke/VarHandle") ∧ Cond.instantiable q.1.cls q.2 ∈ tables_1 ∧ Cond.privateMethod q.1 ∈ tables_1 ∧ Cond.instanceMethod q.1 ∈ tables_1
theorem lw_p0 : lw_okq (⟨"HomeCalls", "error", "(I)I"⟩, 8) := ⟨⟨by decide +kernel, by decide +kernel⟩, List.mem_of_getElem? (i := 13) (by decide +kernel), List.mem_of_getElem? (i := 228) (by decide +kernel), List.mem_of_getElem? (i := 229) (by decide +kernel)⟩
theorem lw_p1 : lw_okq (⟨"HomeCalls", "isChild", "(I)Z"⟩, 8) := ⟨⟨by decide +kernel, by decide +kernel⟩, List.mem_of_getElem? (i := 13) (by decide +kernel), List.mem_of_getElem? (i := 264) (by decide +kernel), List.mem_of_getElem? (i := 265) (by decide +kernel)⟩
theorem lw_p2 : lw_okq (⟨"HomeCalls$Reader", "goesOn", "(II)Z"⟩, 7) := ⟨⟨by decide +kernel, by decide +kernel⟩, List.mem_of_getElem? (i := 122) (by decide +kernel), List.mem_of_getElem? (i := 317) (by decide +kernel), List.mem_of_getElem? (i := 318) (by decide +kernel)⟩
theorem lw_p3 : lw_okq (⟨"HomeCalls$Reader", "readDigit", "(I)Z"⟩, 7) := ⟨⟨by decide +kernel, by decide +kernel⟩, List.mem_of_getElem? (i := 122) (by decide +kernel), List.mem_of_getElem? (i := 321) (by decide +kernel), List.mem_of_getElem? (i := 322) (by decide +kernel)⟩
theorem lw_p4 : lw_okq (⟨"HomeCalls$Reader", "emit", "(I)V"⟩, 7) := ⟨⟨by decide +kernel, by decide +kernel⟩, List.mem_of_getElem? (i := 122) (by decide +kernel), List.mem_of_getElem? (i := 325) (by decide +kernel), List.mem_of_getElem? (i := 326) (by decide +kernel)⟩
theorem lw_p5 : lw_okq (⟨"HomeCalls$Reader", "readStart", "(II)Z"⟩, 7) := ⟨⟨by decide +kernel, by decide +kernel⟩, List.mem_of_getElem? (i := 122) (by decide +kernel), List.mem_of_getElem? (i := 329) (by decide +kernel), List.mem_of_getElem? (i := 330) (by decide +kernel)⟩
theorem lw_p6 : lw_okq (⟨"HomeCalls$Reader", "hold", "(I)V"⟩, 7) := ⟨⟨by decide +kernel, by decide +kernel⟩, List.mem_of_getElem? (i := 122) (by decide +kernel), List.mem_of_getElem? (i := 335) (by decide +kernel), List.mem_of_getElem? (i := 336) (by decide +kernel)⟩
theorem lw_p7 : lw_okq (⟨"HomeCalls$Reader", "readNext", "(I)Z"⟩, 7) := ⟨⟨by decide +kernel, by decide +kernel⟩, List.mem_of_getElem? (i := 122) (by decide +kernel), List.mem_of_getElem? (i := 339) (by decide +kernel), List.mem_of_getElem? (i := 340) (by decide +kernel)⟩
theorem lw_p8 : lw_okq (⟨"HomeCalls$Reader", "closeNots", "()V"⟩, 7) := ⟨⟨by decide +kernel, by decide +kernel⟩, List.mem_of_getElem? (i := 122) (by decide +kernel), List.mem_of_getElem? (i := 343) (by decide +kernel), List.mem_of_getElem? (i := 344) (by decide +kernel)⟩
theorem lw_p9 : lw_okq (⟨"HomeCalls$Reader", "closeRound", "()Z"⟩, 7) := ⟨⟨by decide +kernel, by decide +kernel⟩, List.mem_of_getElem? (i := 122) (by decide +kernel), List.mem_of_getElem? (i := 347) (by decide +kernel), List.mem_of_getElem? (i := 348) (by decide +kernel)⟩
theorem lw_p10 : lw_okq (⟨"HomeCalls$Reader", "release", "(I)V"⟩, 7) := ⟨⟨by decide +kernel, by decide +kernel⟩, List.mem_of_getElem? (i := 122) (by decide +kernel), List.mem_of_getElem? (i := 351) (by decide +kernel), List.mem_of_getElem? (i := 352) (by decide +kernel)⟩
theorem lw_p11 : lw_okq (⟨"HomeCalls$Reader", "isWhole", "()Z"⟩, 7) := ⟨⟨by decide +kernel, by decide +kernel⟩, List.mem_of_getElem? (i := 122) (by decide +kernel), List.mem_of_getElem? (i := 358) (by decide +kernel), List.mem_of_getElem? (i := 359) (by decide +kernel)⟩
theorem lw_p12 : lw_okq (⟨"HomeCalls$Law", "push", "(I)V"⟩, 4) := ⟨⟨by decide +kernel, by decide +kernel⟩, List.mem_of_getElem? (i := 28) (by decide +kernel), List.mem_of_getElem? (i := 378) (by decide +kernel), List.mem_of_getElem? (i := 379) (by decide +kernel)⟩
theorem lw_p13 : lw_okq (⟨"HomeCalls$Law", "pop", "()I"⟩, 4) := ⟨⟨by decide +kernel, by decide +kernel⟩, List.mem_of_getElem? (i := 28) (by decide +kernel), List.mem_of_getElem? (i := 382) (by decide +kernel), List.mem_of_getElem? (i := 383) (by decide +kernel)⟩
theorem lw_p14 : lw_okq (⟨"HomeCalls$Street", "goalOf", "(II)I"⟩, 18) := ⟨⟨by decide +kernel, by decide +kernel⟩, List.mem_of_getElem? (i := 21) (by decide +kernel), List.mem_of_getElem? (i := 411) (by decide +kernel), List.mem_of_getElem? (i := 412) (by decide +kernel)⟩
theorem lw_p15 : lw_okq (⟨"HomeCalls$Street", "isHeld", "(II)Z"⟩, 18) := ⟨⟨by decide +kernel, by decide +kernel⟩, List.mem_of_getElem? (i := 21) (by decide +kernel), List.mem_of_getElem? (i := 429) (by decide +kernel), List.mem_of_getElem? (i := 430) (by decide +kernel)⟩
def lw_privs_1 : List (MethodName × Nat) := [(⟨"HomeCalls", "error", "(I)I"⟩, 8), (⟨"HomeCalls", "isChild", "(I)Z"⟩, 8), (⟨"HomeCalls$Reader", "goesOn", "(II)Z"⟩, 7), (⟨"HomeCalls$Reader", "readDigit", "(I)Z"⟩, 7), (⟨"HomeCalls$Reader", "emit", "(I)V"⟩, 7), (⟨"HomeCalls$Reader", "readStart", "(II)Z"⟩, 7), (⟨"HomeCalls$Reader", "hold", "(I)V"⟩, 7), (⟨"HomeCalls$Reader", "readNext", "(I)Z"⟩, 7), (⟨"HomeCalls$Reader", "closeNots", "()V"⟩, 7), (⟨"HomeCalls$Reader", "closeRound", "()Z"⟩, 7), (⟨"HomeCalls$Reader", "release", "(I)V"⟩, 7), (⟨"HomeCalls$Reader", "isWhole", "()Z"⟩, 7), (⟨"HomeCalls$Law", "push", "(I)V"⟩, 4), (⟨"HomeCalls$Law", "pop", "()I"⟩, 4), (⟨"HomeCalls$Street", "goalOf", "(II)I"⟩, 18), (⟨"HomeCalls$Street", "isHeld", "(II)Z"⟩, 18)]
theorem lw_r1 : ∀ q ∈ lw_privs_1, lw_okq q := List.forall_mem_cons.mpr ⟨lw_p0, List.forall_mem_cons.mpr ⟨lw_p1, List.forall_mem_cons.mpr ⟨lw_p2, List.forall_mem_cons.mpr ⟨lw_p3, List.forall_mem_cons.mpr ⟨lw_p4, List.forall_mem_cons.mpr ⟨lw_p5, List.forall_mem_cons.mpr ⟨lw_p6, List.forall_mem_cons.mpr ⟨lw_p7, List.forall_mem_cons.mpr ⟨lw_p8, List.forall_mem_cons.mpr ⟨lw_p9, List.forall_mem_cons.mpr ⟨lw_p10, List.forall_mem_cons.mpr ⟨lw_p11, List.forall_mem_cons.mpr ⟨lw_p12, List.forall_mem_cons.mpr ⟨lw_p13, List.forall_mem_cons.mpr ⟨lw_p14, List.forall_mem_cons.mpr ⟨lw_p15, fun _ h => absurd h List.not_mem_nil⟩⟩⟩⟩⟩⟩⟩⟩⟩⟩⟩⟩⟩⟩⟩⟩
theorem lw_p16 : lw_okq (⟨"HomeCalls$Street", "crowdIn", "(I)I"⟩, 18) := ⟨⟨by decide +kernel, by decide +kernel⟩, List.mem_of_getElem? (i := 21) (by decide +kernel), List.mem_of_getElem? (i := 433) (by decide +kernel), List.mem_of_getElem? (i := 434) (by decide +kernel)⟩
theorem lw_p17 : lw_okq (⟨"HomeCalls", "markFor", "(III)I"⟩, 8) := ⟨⟨by decide +kernel, by decide +kernel⟩, List.mem_of_getElem? (i := 13) (by decide +kernel), List.mem_of_getElem? (i := 466) (by decide +kernel), List.mem_of_getElem? (i := 467) (by decide +kernel)⟩
theorem lw_p18 : lw_okq (⟨"HomeCalls", "scoreFor", "(II)I"⟩, 8) := ⟨⟨by decide +kernel, by decide +kernel⟩, List.mem_of_getElem? (i := 13) (by decide +kernel), List.mem_of_getElem? (i := 470) (by decide +kernel), List.mem_of_getElem? (i := 471) (by decide +kernel)⟩
theorem lw_p19 : lw_okq (⟨"HomeCalls", "hadWithout", "(IIII)Z"⟩, 8) := ⟨⟨by decide +kernel, by decide +kernel⟩, List.mem_of_getElem? (i := 13) (by decide +kernel), List.mem_of_getElem? (i := 512) (by decide +kernel), List.mem_of_getElem? (i := 513) (by decide +kernel)⟩
theorem lw_p20 : lw_okq (⟨"HomeCalls$Speaker", "speak", "(IIII)I"⟩, 5) := ⟨⟨by decide +kernel, by decide +kernel⟩, List.mem_of_getElem? (i := 152) (by decide +kernel), List.mem_of_getElem? (i := 556) (by decide +kernel), List.mem_of_getElem? (i := 557) (by decide +kernel)⟩
theorem lw_p21 : lw_okq (⟨"HomeCalls$Speaker", "note", "(I)V"⟩, 5) := ⟨⟨by decide +kernel, by decide +kernel⟩, List.mem_of_getElem? (i := 152) (by decide +kernel), List.mem_of_getElem? (i := 562) (by decide +kernel), List.mem_of_getElem? (i := 563) (by decide +kernel)⟩
theorem lw_p22 : lw_okq (⟨"HomeCallsModel", "errs", "(I)I"⟩, 25) := ⟨⟨by decide +kernel, by decide +kernel⟩, List.mem_of_getElem? (i := 636) (by decide +kernel), List.mem_of_getElem? (i := 729) (by decide +kernel), List.mem_of_getElem? (i := 730) (by decide +kernel)⟩
theorem lw_p23 : lw_okq (⟨"HomeCallsModel", "adds", "(II)V"⟩, 25) := ⟨⟨by decide +kernel, by decide +kernel⟩, List.mem_of_getElem? (i := 636) (by decide +kernel), List.mem_of_getElem? (i := 735) (by decide +kernel), List.mem_of_getElem? (i := 736) (by decide +kernel)⟩
theorem lw_p24 : lw_okq (⟨"HomeCallsModel", "isThing", "(I)Z"⟩, 25) := ⟨⟨by decide +kernel, by decide +kernel⟩, List.mem_of_getElem? (i := 636) (by decide +kernel), List.mem_of_getElem? (i := 743) (by decide +kernel), List.mem_of_getElem? (i := 744) (by decide +kernel)⟩
theorem lw_p25 : lw_okq (⟨"HomeCallsModel", "becomes", "(II)I"⟩, 25) := ⟨⟨by decide +kernel, by decide +kernel⟩, List.mem_of_getElem? (i := 636) (by decide +kernel), List.mem_of_getElem? (i := 751) (by decide +kernel), List.mem_of_getElem? (i := 752) (by decide +kernel)⟩
theorem lw_p26 : lw_okq (⟨"HomeCallsModel", "gets", "(III)V"⟩, 25) := ⟨⟨by decide +kernel, by decide +kernel⟩, List.mem_of_getElem? (i := 636) (by decide +kernel), List.mem_of_getElem? (i := 759) (by decide +kernel), List.mem_of_getElem? (i := 760) (by decide +kernel)⟩
theorem lw_p27 : lw_okq (⟨"HomeCallsModel", "isChild", "(I)Z"⟩, 25) := ⟨⟨by decide +kernel, by decide +kernel⟩, List.mem_of_getElem? (i := 636) (by decide +kernel), List.mem_of_getElem? (i := 767) (by decide +kernel), List.mem_of_getElem? (i := 768) (by decide +kernel)⟩
theorem lw_p28 : lw_okq (⟨"HomeCallsModel", "its", "(II)I"⟩, 25) := ⟨⟨by decide +kernel, by decide +kernel⟩, List.mem_of_getElem? (i := 636) (by decide +kernel), List.mem_of_getElem? (i := 771) (by decide +kernel), List.mem_of_getElem? (i := 772) (by decide +kernel)⟩
theorem lw_p29 : lw_okq (⟨"HomeCallsModel", "pace", "(I)I"⟩, 25) := ⟨⟨by decide +kernel, by decide +kernel⟩, List.mem_of_getElem? (i := 636) (by decide +kernel), List.mem_of_getElem? (i := 775) (by decide +kernel), List.mem_of_getElem? (i := 776) (by decide +kernel)⟩
theorem lw_p30 : lw_okq (⟨"HomeCallsModel", "far", "(I)I"⟩, 25) := ⟨⟨by decide +kernel, by decide +kernel⟩, List.mem_of_getElem? (i := 636) (by decide +kernel), List.mem_of_getElem? (i := 779) (by decide +kernel), List.mem_of_getElem? (i := 780) (by decide +kernel)⟩
theorem lw_p31 : lw_okq (⟨"HomeCallsModel", "lawOf", "(IIII)I"⟩, 25) := ⟨⟨by decide +kernel, by decide +kernel⟩, List.mem_of_getElem? (i := 636) (by decide +kernel), List.mem_of_getElem? (i := 807) (by decide +kernel), List.mem_of_getElem? (i := 808) (by decide +kernel)⟩
def lw_privs_2 : List (MethodName × Nat) := [(⟨"HomeCalls$Street", "crowdIn", "(I)I"⟩, 18), (⟨"HomeCalls", "markFor", "(III)I"⟩, 8), (⟨"HomeCalls", "scoreFor", "(II)I"⟩, 8), (⟨"HomeCalls", "hadWithout", "(IIII)Z"⟩, 8), (⟨"HomeCalls$Speaker", "speak", "(IIII)I"⟩, 5), (⟨"HomeCalls$Speaker", "note", "(I)V"⟩, 5), (⟨"HomeCallsModel", "errs", "(I)I"⟩, 25), (⟨"HomeCallsModel", "adds", "(II)V"⟩, 25), (⟨"HomeCallsModel", "isThing", "(I)Z"⟩, 25), (⟨"HomeCallsModel", "becomes", "(II)I"⟩, 25), (⟨"HomeCallsModel", "gets", "(III)V"⟩, 25), (⟨"HomeCallsModel", "isChild", "(I)Z"⟩, 25), (⟨"HomeCallsModel", "its", "(II)I"⟩, 25), (⟨"HomeCallsModel", "pace", "(I)I"⟩, 25), (⟨"HomeCallsModel", "far", "(I)I"⟩, 25), (⟨"HomeCallsModel", "lawOf", "(IIII)I"⟩, 25)]
theorem lw_r2 : ∀ q ∈ lw_privs_2, lw_okq q := List.forall_mem_cons.mpr ⟨lw_p16, List.forall_mem_cons.mpr ⟨lw_p17, List.forall_mem_cons.mpr ⟨lw_p18, List.forall_mem_cons.mpr ⟨lw_p19, List.forall_mem_cons.mpr ⟨lw_p20, List.forall_mem_cons.mpr ⟨lw_p21, List.forall_mem_cons.mpr ⟨lw_p22, List.forall_mem_cons.mpr ⟨lw_p23, List.forall_mem_cons.mpr ⟨lw_p24, List.forall_mem_cons.mpr ⟨lw_p25, List.forall_mem_cons.mpr ⟨lw_p26, List.forall_mem_cons.mpr ⟨lw_p27, List.forall_mem_cons.mpr ⟨lw_p28, List.forall_mem_cons.mpr ⟨lw_p29, List.forall_mem_cons.mpr ⟨lw_p30, List.forall_mem_cons.mpr ⟨lw_p31, fun _ h => absurd h List.not_mem_nil⟩⟩⟩⟩⟩⟩⟩⟩⟩⟩⟩⟩⟩⟩⟩⟩
theorem lw_p32 : lw_okq (⟨"HomeCallsModel", "walks", "(IIII)I"⟩, 25) := ⟨⟨by decide +kernel, by decide +kernel⟩, List.mem_of_getElem? (i := 636) (by decide +kernel), List.mem_of_getElem? (i := 811) (by decide +kernel), List.mem_of_getElem? (i := 812) (by decide +kernel)⟩
theorem lw_p33 : lw_okq (⟨"HomeCallsModel", "whole", "()I"⟩, 25) := ⟨⟨by decide +kernel, by decide +kernel⟩, List.mem_of_getElem? (i := 636) (by decide +kernel), List.mem_of_getElem? (i := 815) (by decide +kernel), List.mem_of_getElem? (i := 816) (by decide +kernel)⟩
theorem lw_p34 : lw_okq (⟨"HomeCallsModel", "both", "()I"⟩, 25) := ⟨⟨by decide +kernel, by decide +kernel⟩, List.mem_of_getElem? (i := 636) (by decide +kernel), List.mem_of_getElem? (i := 819) (by decide +kernel), List.mem_of_getElem? (i := 820) (by decide +kernel)⟩
theorem lw_p35 : lw_okq (⟨"HomeCallsModel", "compared", "()I"⟩, 25) := ⟨⟨by decide +kernel, by decide +kernel⟩, List.mem_of_getElem? (i := 636) (by decide +kernel), List.mem_of_getElem? (i := 823) (by decide +kernel), List.mem_of_getElem? (i := 824) (by decide +kernel)⟩
theorem lw_p36 : lw_okq (⟨"HomeCallsModel", "sum", "()I"⟩, 25) := ⟨⟨by decide +kernel, by decide +kernel⟩, List.mem_of_getElem? (i := 636) (by decide +kernel), List.mem_of_getElem? (i := 827) (by decide +kernel), List.mem_of_getElem? (i := 828) (by decide +kernel)⟩
theorem lw_p37 : lw_okq (⟨"HomeCallsModel", "product", "()I"⟩, 25) := ⟨⟨by decide +kernel, by decide +kernel⟩, List.mem_of_getElem? (i := 636) (by decide +kernel), List.mem_of_getElem? (i := 831) (by decide +kernel), List.mem_of_getElem? (i := 832) (by decide +kernel)⟩
theorem lw_p38 : lw_okq (⟨"HomeCallsModel", "factor", "()I"⟩, 25) := ⟨⟨by decide +kernel, by decide +kernel⟩, List.mem_of_getElem? (i := 636) (by decide +kernel), List.mem_of_getElem? (i := 835) (by decide +kernel), List.mem_of_getElem? (i := 836) (by decide +kernel)⟩
theorem lw_p39 : lw_okq (⟨"HomeCallsModel", "byteAt", "(I)I"⟩, 25) := ⟨⟨by decide +kernel, by decide +kernel⟩, List.mem_of_getElem? (i := 636) (by decide +kernel), List.mem_of_getElem? (i := 839) (by decide +kernel), List.mem_of_getElem? (i := 840) (by decide +kernel)⟩
theorem lw_p40 : lw_okq (⟨"HomeCallsModel", "number", "()I"⟩, 25) := ⟨⟨by decide +kernel, by decide +kernel⟩, List.mem_of_getElem? (i := 636) (by decide +kernel), List.mem_of_getElem? (i := 846) (by decide +kernel), List.mem_of_getElem? (i := 847) (by decide +kernel)⟩
theorem lw_p41 : lw_okq (⟨"HomeCallsModel", "named", "(I)I"⟩, 25) := ⟨⟨by decide +kernel, by decide +kernel⟩, List.mem_of_getElem? (i := 636) (by decide +kernel), List.mem_of_getElem? (i := 850) (by decide +kernel), List.mem_of_getElem? (i := 851) (by decide +kernel)⟩
theorem lw_p42 : lw_okq (⟨"HomeCallsModel", "fails", "()I"⟩, 25) := ⟨⟨by decide +kernel, by decide +kernel⟩, List.mem_of_getElem? (i := 636) (by decide +kernel), List.mem_of_getElem? (i := 854) (by decide +kernel), List.mem_of_getElem? (i := 855) (by decide +kernel)⟩
theorem lw_p43 : lw_okq (⟨"HomeCallsModel", "moveAll", "([I[I)V"⟩, 25) := ⟨⟨by decide +kernel, by decide +kernel⟩, List.mem_of_getElem? (i := 636) (by decide +kernel), List.mem_of_getElem? (i := 870) (by decide +kernel), List.mem_of_getElem? (i := 871) (by decide +kernel)⟩
theorem lw_p44 : lw_okq (⟨"HomeCallsModel", "calls", "(II)I"⟩, 25) := ⟨⟨by decide +kernel, by decide +kernel⟩, List.mem_of_getElem? (i := 636) (by decide +kernel), List.mem_of_getElem? (i := 885) (by decide +kernel), List.mem_of_getElem? (i := 886) (by decide +kernel)⟩
theorem lw_p45 : lw_okq (⟨"HomeCallsModel", "ends", "(III)I"⟩, 25) := ⟨⟨by decide +kernel, by decide +kernel⟩, List.mem_of_getElem? (i := 636) (by decide +kernel), List.mem_of_getElem? (i := 889) (by decide +kernel), List.mem_of_getElem? (i := 890) (by decide +kernel)⟩
theorem lw_p46 : lw_okq (⟨"HomeCallsModel", "aim", "(II)I"⟩, 25) := ⟨⟨by decide +kernel, by decide +kernel⟩, List.mem_of_getElem? (i := 636) (by decide +kernel), List.mem_of_getElem? (i := 893) (by decide +kernel), List.mem_of_getElem? (i := 894) (by decide +kernel)⟩
theorem lw_p47 : lw_okq (⟨"HomeCallsModel", "isMarked", "(II)Z"⟩, 25) := ⟨⟨by decide +kernel, by decide +kernel⟩, List.mem_of_getElem? (i := 636) (by decide +kernel), List.mem_of_getElem? (i := 900) (by decide +kernel), List.mem_of_getElem? (i := 901) (by decide +kernel)⟩
def lw_privs_3 : List (MethodName × Nat) := [(⟨"HomeCallsModel", "walks", "(IIII)I"⟩, 25), (⟨"HomeCallsModel", "whole", "()I"⟩, 25), (⟨"HomeCallsModel", "both", "()I"⟩, 25), (⟨"HomeCallsModel", "compared", "()I"⟩, 25), (⟨"HomeCallsModel", "sum", "()I"⟩, 25), (⟨"HomeCallsModel", "product", "()I"⟩, 25), (⟨"HomeCallsModel", "factor", "()I"⟩, 25), (⟨"HomeCallsModel", "byteAt", "(I)I"⟩, 25), (⟨"HomeCallsModel", "number", "()I"⟩, 25), (⟨"HomeCallsModel", "named", "(I)I"⟩, 25), (⟨"HomeCallsModel", "fails", "()I"⟩, 25), (⟨"HomeCallsModel", "moveAll", "([I[I)V"⟩, 25), (⟨"HomeCallsModel", "calls", "(II)I"⟩, 25), (⟨"HomeCallsModel", "ends", "(III)I"⟩, 25), (⟨"HomeCallsModel", "aim", "(II)I"⟩, 25), (⟨"HomeCallsModel", "isMarked", "(II)Z"⟩, 25)]
theorem lw_r3 : ∀ q ∈ lw_privs_3, lw_okq q := List.forall_mem_cons.mpr ⟨lw_p32, List.forall_mem_cons.mpr ⟨lw_p33, List.forall_mem_cons.mpr ⟨lw_p34, List.forall_mem_cons.mpr ⟨lw_p35, List.forall_mem_cons.mpr ⟨lw_p36, List.forall_mem_cons.mpr ⟨lw_p37, List.forall_mem_cons.mpr ⟨lw_p38, List.forall_mem_cons.mpr ⟨lw_p39, List.forall_mem_cons.mpr ⟨lw_p40, List.forall_mem_cons.mpr ⟨lw_p41, List.forall_mem_cons.mpr ⟨lw_p42, List.forall_mem_cons.mpr ⟨lw_p43, List.forall_mem_cons.mpr ⟨lw_p44, List.forall_mem_cons.mpr ⟨lw_p45, List.forall_mem_cons.mpr ⟨lw_p46, List.forall_mem_cons.mpr ⟨lw_p47, fun _ h => absurd h List.not_mem_nil⟩⟩⟩⟩⟩⟩⟩⟩⟩⟩⟩⟩⟩⟩⟩⟩
theorem lw_p48 : lw_okq (⟨"HomeCallsModel", "isSafe", "(II)Z"⟩, 25) := ⟨⟨by decide +kernel, by decide +kernel⟩, List.mem_of_getElem? (i := 636) (by decide +kernel), List.mem_of_getElem? (i := 904) (by decide +kernel), List.mem_of_getElem? (i := 905) (by decide +kernel)⟩
theorem lw_p49 : lw_okq (⟨"HomeCallsModel", "drawn", "(I)I"⟩, 25) := ⟨⟨by decide +kernel, by decide +kernel⟩, List.mem_of_getElem? (i := 636) (by decide +kernel), List.mem_of_getElem? (i := 912) (by decide +kernel), List.mem_of_getElem? (i := 913) (by decide +kernel)⟩
theorem lw_p50 : lw_okq (⟨"HomeCallsModel", "wouldBe", "(II)I"⟩, 25) := ⟨⟨by decide +kernel, by decide +kernel⟩, List.mem_of_getElem? (i := 636) (by decide +kernel), List.mem_of_getElem? (i := 924) (by decide +kernel), List.mem_of_getElem? (i := 925) (by decide +kernel)⟩
theorem lw_p51 : lw_okq (⟨"HomeCallsModel", "hadOften", "(II)I"⟩, 25) := ⟨⟨by decide +kernel, by decide +kernel⟩, List.mem_of_getElem? (i := 636) (by decide +kernel), List.mem_of_getElem? (i := 944) (by decide +kernel), List.mem_of_getElem? (i := 945) (by decide +kernel)⟩
theorem lw_p52 : lw_okq (⟨"HomeCallsModel", "players", "()I"⟩, 25) := ⟨⟨by decide +kernel, by decide +kernel⟩, List.mem_of_getElem? (i := 636) (by decide +kernel), List.mem_of_getElem? (i := 969) (by decide +kernel), List.mem_of_getElem? (i := 970) (by decide +kernel)⟩
theorem lw_p53 : lw_okq (⟨"HomeCallsModel", "shoutsIn", "(II)I"⟩, 25) := ⟨⟨by decide +kernel, by decide +kernel⟩, List.mem_of_getElem? (i := 636) (by decide +kernel), List.mem_of_getElem? (i := 999) (by decide +kernel), List.mem_of_getElem? (i := 1000) (by decide +kernel)⟩
theorem lw_p54 : lw_okq (⟨"HomeCallsModel", "ran", "(I)V"⟩, 25) := ⟨⟨by decide +kernel, by decide +kernel⟩, List.mem_of_getElem? (i := 636) (by decide +kernel), List.mem_of_getElem? (i := 1003) (by decide +kernel), List.mem_of_getElem? (i := 1004) (by decide +kernel)⟩
theorem lw_p55 : lw_okq (⟨"HomeCallsModel", "runsIn", "(II)I"⟩, 25) := ⟨⟨by decide +kernel, by decide +kernel⟩, List.mem_of_getElem? (i := 636) (by decide +kernel), List.mem_of_getElem? (i := 1007) (by decide +kernel), List.mem_of_getElem? (i := 1008) (by decide +kernel)⟩
theorem lw_p56 : lw_okq (⟨"HomeCallsModel", "touchesIn", "(II)I"⟩, 25) := ⟨⟨by decide +kernel, by decide +kernel⟩, List.mem_of_getElem? (i := 636) (by decide +kernel), List.mem_of_getElem? (i := 1011) (by decide +kernel), List.mem_of_getElem? (i := 1012) (by decide +kernel)⟩
theorem lw_p57 : lw_okq (⟨"HomeCallsModel", "tellsIn", "(II)I"⟩, 25) := ⟨⟨by decide +kernel, by decide +kernel⟩, List.mem_of_getElem? (i := 636) (by decide +kernel), List.mem_of_getElem? (i := 1015) (by decide +kernel), List.mem_of_getElem? (i := 1016) (by decide +kernel)⟩
theorem lw_p58 : lw_okq (⟨"HomeCallsModel", "sumOf", "(I)I"⟩, 25) := ⟨⟨by decide +kernel, by decide +kernel⟩, List.mem_of_getElem? (i := 636) (by decide +kernel), List.mem_of_getElem? (i := 1066) (by decide +kernel), List.mem_of_getElem? (i := 1067) (by decide +kernel)⟩
def lw_privs_4 : List (MethodName × Nat) := [(⟨"HomeCallsModel", "isSafe", "(II)Z"⟩, 25), (⟨"HomeCallsModel", "drawn", "(I)I"⟩, 25), (⟨"HomeCallsModel", "wouldBe", "(II)I"⟩, 25), (⟨"HomeCallsModel", "hadOften", "(II)I"⟩, 25), (⟨"HomeCallsModel", "players", "()I"⟩, 25), (⟨"HomeCallsModel", "shoutsIn", "(II)I"⟩, 25), (⟨"HomeCallsModel", "ran", "(I)V"⟩, 25), (⟨"HomeCallsModel", "runsIn", "(II)I"⟩, 25), (⟨"HomeCallsModel", "touchesIn", "(II)I"⟩, 25), (⟨"HomeCallsModel", "tellsIn", "(II)I"⟩, 25), (⟨"HomeCallsModel", "sumOf", "(I)I"⟩, 25)]
theorem lw_r4 : ∀ q ∈ lw_privs_4, lw_okq q := List.forall_mem_cons.mpr ⟨lw_p48, List.forall_mem_cons.mpr ⟨lw_p49, List.forall_mem_cons.mpr ⟨lw_p50, List.forall_mem_cons.mpr ⟨lw_p51, List.forall_mem_cons.mpr ⟨lw_p52, List.forall_mem_cons.mpr ⟨lw_p53, List.forall_mem_cons.mpr ⟨lw_p54, List.forall_mem_cons.mpr ⟨lw_p55, List.forall_mem_cons.mpr ⟨lw_p56, List.forall_mem_cons.mpr ⟨lw_p57, List.forall_mem_cons.mpr ⟨lw_p58, fun _ h => absurd h List.not_mem_nil⟩⟩⟩⟩⟩⟩⟩⟩⟩⟩⟩
def lw_privs : List (MethodName × Nat) := lw_privs_1 ++ (lw_privs_2 ++ (lw_privs_3 ++ (lw_privs_4)))
def lw_tbl : List Cond := k2_sels lw_privs ++ tables_1
theorem lw_privs_ok : ∀ q ∈ lw_privs, lw_okq q := by
  show ∀ q ∈ lw_privs_1 ++ (lw_privs_2 ++ (lw_privs_3 ++ (lw_privs_4))), lw_okq q
  exact List.forall_mem_append.mpr ⟨lw_r1, List.forall_mem_append.mpr ⟨lw_r2, List.forall_mem_append.mpr ⟨lw_r3, lw_r4⟩⟩⟩
-- ===== end of PART A; then your names; then what follows =====
def RX0 : String := "HomeCalls$Law"
def TX0 : u_T := fun k => match k with
  | 0 => ("HomeCalls$Law", "code", "[I", true)
  | 1 => ("HomeCalls$Law", "size", "I", false)
  | 2 => ("HomeCalls$Law", "stack", "[I", true)
  | _ => ("HomeCalls$Law", "top", "I", false)
def tyX0 : Nat → FieldType := fun k => match k with
  | 0 => .array .int
  | 1 => .int
  | 2 => .array .int
  | _ => .int
abbrev wsX00 : List Cond := u_ws RX0 TX0 4
theorem nmX0 : ∀ a, a < 4 → ∀ b, b < 4 → a ≠ b → (TX0 a).2.1 ≠ (TX0 b).2.1 := by decide +kernel
theorem tyX0_ok : ∀ k, k < 4 → parseFieldDescriptor (TX0 k).2.2.1 = some (tyX0 k) := by decide +kernel
def RX1 : String := "HomeCalls$Reader"
def TX1 : u_T := fun k => match k with
  | 0 => ("HomeCalls$Reader", "code", "[I", true)
  | 1 => ("HomeCalls$Reader", "size", "I", false)
  | 2 => ("HomeCalls$Reader", "held", "[I", true)
  | 3 => ("HomeCalls$Reader", "top", "I", false)
  | 4 => ("HomeCalls$Reader", "open", "I", false)
  | 5 => ("HomeCalls$Reader", "digits", "I", false)
  | _ => ("HomeCalls$Reader", "wantsValue", "Z", false)
def tyX1 : Nat → FieldType := fun k => match k with
  | 0 => .array .int
  | 1 => .int
  | 2 => .array .int
  | 3 => .int
  | 4 => .int
  | 5 => .int
  | _ => .boolean
abbrev wsX10 : List Cond := u_ws RX1 TX1 7
theorem nmX1 : ∀ a, a < 7 → ∀ b, b < 7 → a ≠ b → (TX1 a).2.1 ≠ (TX1 b).2.1 := by decide +kernel
theorem tyX1_ok : ∀ k, k < 7 → parseFieldDescriptor (TX1 k).2.2.1 = some (tyX1 k) := by decide +kernel
def RX2 : String := "HomeCalls$Sheet"
def TX2 : u_T := fun k => match k with
  | 0 => ("HomeCalls$Sheet", "numbers", "[I", true)
  | 1 => ("HomeCalls$Sheet", "size", "I", false)
  | _ => ("HomeCalls$Sheet", "bits", "I", false)
def tyX2 : Nat → FieldType := fun k => match k with
  | 0 => .array .int
  | 1 => .int
  | _ => .int
abbrev wsX20 : List Cond := u_ws RX2 TX2 3
theorem nmX2 : ∀ a, a < 3 → ∀ b, b < 3 → a ≠ b → (TX2 a).2.1 ≠ (TX2 b).2.1 := by decide +kernel
theorem tyX2_ok : ∀ k, k < 3 → parseFieldDescriptor (TX2 k).2.2.1 = some (tyX2 k) := by decide +kernel
def RX3 : String := "HomeCalls$Speaker"
def TX3 : u_T := fun k => match k with
  | 0 => ("HomeCalls$Speaker", "bodies", "[I", true)
  | 1 => ("HomeCalls$Speaker", "began", "I", false)
  | 2 => ("HomeCalls$Speaker", "kind", "I", false)
  | 3 => ("HomeCalls$Speaker", "n", "I", false)
  | _ => ("HomeCalls$Speaker", "m", "I", false)
def tyX3 : Nat → FieldType := fun k => match k with
  | 0 => .array .int
  | 1 => .int
  | 2 => .int
  | 3 => .int
  | _ => .int
abbrev wsX30 : List Cond := u_ws RX3 TX3 5
theorem nmX3 : ∀ a, a < 5 → ∀ b, b < 5 → a ≠ b → (TX3 a).2.1 ≠ (TX3 b).2.1 := by decide +kernel
theorem tyX3_ok : ∀ k, k < 5 → parseFieldDescriptor (TX3 k).2.2.1 = some (tyX3 k) := by decide +kernel
def RX4 : String := "HomeCalls$Street"
def TX4 : u_T := fun k => match k with
  | 0 => ("HomeCalls$Street", "cells", "[I", true)
  | 1 => ("HomeCalls$Street", "marks", "[I", true)
  | 2 => ("HomeCalls$Street", "things", "I", false)
  | 3 => ("HomeCalls$Street", "kinds", "[I", true)
  | 4 => ("HomeCalls$Street", "numbers", "[I", true)
  | 5 => ("HomeCalls$Street", "at", "[I", true)
  | 6 => ("HomeCalls$Street", "had", "[I", true)
  | 7 => ("HomeCalls$Street", "safe", "[I", true)
  | 8 => ("HomeCalls$Street", "children", "I", false)
  | 9 => ("HomeCalls$Street", "it", "I", false)
  | 10 => ("HomeCalls$Street", "calls", "I", false)
  | 11 => ("HomeCalls$Street", "z", "I", false)
  | 12 => ("HomeCalls$Street", "laws", "[LHomeCalls$Law;", true)
  | 13 => ("HomeCalls$Street", "tape", "[I", true)
  | 14 => ("HomeCalls$Street", "bytes", "I", false)
  | 15 => ("HomeCalls$Street", "waiting", "[I", true)
  | 16 => ("HomeCalls$Street", "waits", "I", false)
  | _ => ("HomeCalls$Street", "ends", "[I", true)
def tyX4 : Nat → FieldType := fun k => match k with
  | 0 => .array .int
  | 1 => .array .int
  | 2 => .int
  | 3 => .array .int
  | 4 => .array .int
  | 5 => .array .int
  | 6 => .array .int
  | 7 => .array .int
  | 8 => .int
  | 9 => .int
  | 10 => .int
  | 11 => .int
  | 12 => .array (.object "HomeCalls$Law")
  | 13 => .array .int
  | 14 => .int
  | 15 => .array .int
  | 16 => .int
  | _ => .array .int
abbrev wsX40 : List Cond := u_ws RX4 TX4 18
theorem nmX4 : ∀ a, a < 18 → ∀ b, b < 18 → a ≠ b → (TX4 a).2.1 ≠ (TX4 b).2.1 := by decide +kernel
theorem tyX4_ok : ∀ k, k < 18 → parseFieldDescriptor (TX4 k).2.2.1 = some (tyX4 k) := by decide +kernel
def RX5 : String := "HomeCalls"
def TX5 : u_T := fun k => match k with
  | 0 => ("HomeCalls", "now", "LHomeCalls$Street;", true)
  | 1 => ("HomeCalls", "kept", "LHomeCalls$Street;", true)
  | 2 => ("HomeCalls", "thought", "LHomeCalls$Street;", true)
  | 3 => ("HomeCalls", "reader", "LHomeCalls$Reader;", true)
  | 4 => ("HomeCalls", "speaker", "LHomeCalls$Speaker;", true)
  | 5 => ("HomeCalls", "sheets", "[LHomeCalls$Sheet;", true)
  | 6 => ("HomeCalls", "errors", "[I", true)
  | _ => ("HomeCalls", "images", "I", false)
def tyX5 : Nat → FieldType := fun k => match k with
  | 0 => .object "HomeCalls$Street"
  | 1 => .object "HomeCalls$Street"
  | 2 => .object "HomeCalls$Street"
  | 3 => .object "HomeCalls$Reader"
  | 4 => .object "HomeCalls$Speaker"
  | 5 => .array (.object "HomeCalls$Sheet")
  | 6 => .array .int
  | _ => .int
abbrev wsX50 : List Cond := u_ws RX5 TX5 8
theorem nmX5 : ∀ a, a < 8 → ∀ b, b < 8 → a ≠ b → (TX5 a).2.1 ≠ (TX5 b).2.1 := by decide +kernel
theorem tyX5_ok : ∀ k, k < 8 → parseFieldDescriptor (TX5 k).2.2.1 = some (tyX5 k) := by decide +kernel
def RX6 : String := "HomeCallsModel"
def TX6 : u_T := fun k => match k with
  | 0 => ("HomeCallsModel", "row", "[I", true)
  | 1 => ("HomeCallsModel", "kept", "[I", true)
  | 2 => ("HomeCallsModel", "tried", "[I", true)
  | 3 => ("HomeCallsModel", "before", "[I", true)
  | 4 => ("HomeCallsModel", "isKept", "Z", false)
  | 5 => ("HomeCallsModel", "images", "I", false)
  | 6 => ("HomeCallsModel", "found", "[I", true)
  | 7 => ("HomeCallsModel", "use", "I", false)
  | 8 => ("HomeCallsModel", "at", "I", false)
  | 9 => ("HomeCallsModel", "end", "I", false)
  | 10 => ("HomeCallsModel", "open", "I", false)
  | 11 => ("HomeCallsModel", "namedA", "I", false)
  | 12 => ("HomeCallsModel", "namedB", "I", false)
  | 13 => ("HomeCallsModel", "namedC", "I", false)
  | 14 => ("HomeCallsModel", "good", "Z", false)
  | 15 => ("HomeCallsModel", "taken", "I", false)
  | 16 => ("HomeCallsModel", "bitsOf", "[I", true)
  | 17 => ("HomeCallsModel", "sizeOf", "[I", true)
  | 18 => ("HomeCallsModel", "sheets", "[I", true)
  | 19 => ("HomeCallsModel", "moved", "[I", true)
  | 20 => ("HomeCallsModel", "traced", "[I", true)
  | 21 => ("HomeCallsModel", "tracedMany", "I", false)
  | 22 => ("HomeCallsModel", "voiceKind", "I", false)
  | 23 => ("HomeCallsModel", "voiceN", "I", false)
  | _ => ("HomeCallsModel", "voiceM", "I", false)
def tyX6 : Nat → FieldType := fun k => match k with
  | 0 => .array .int
  | 1 => .array .int
  | 2 => .array .int
  | 3 => .array .int
  | 4 => .boolean
  | 5 => .int
  | 6 => .array .int
  | 7 => .int
  | 8 => .int
  | 9 => .int
  | 10 => .int
  | 11 => .int
  | 12 => .int
  | 13 => .int
  | 14 => .boolean
  | 15 => .int
  | 16 => .array .int
  | 17 => .array .int
  | 18 => .array .int
  | 19 => .array .int
  | 20 => .array .int
  | 21 => .int
  | 22 => .int
  | 23 => .int
  | _ => .int
abbrev wsX60 : List Cond := u_ws RX6 TX6 25
theorem nmX6 : ∀ a, a < 25 → ∀ b, b < 25 → a ≠ b → (TX6 a).2.1 ≠ (TX6 b).2.1 := by decide +kernel
theorem tyX6_ok : ∀ k, k < 25 → parseFieldDescriptor (TX6 k).2.2.1 = some (tyX6 k) := by decide +kernel
abbrev vwCl : List vw_C := [(RX0, TX0, 4), (RX1, TX1, 7), (RX2, TX2, 3), (RX3, TX3, 5), (RX4, TX4, 18), (RX5, TX5, 8), (RX6, TX6, 25)]
/-- the words that a callee may keep -/
def xT : List Cond := lw_tbl.filter goodWord
theorem xm {w : Cond} (i : Nat) (h : lw_tbl[i]? = some w) (g : goodWord w = true) : w ∈ xT := List.mem_filter.mpr ⟨List.mem_of_getElem? h, g⟩
end
section
/-! ===== a run over pictures: values with .ref k for the k-th cell of the world, .float j for the j-th table that nobody writes; each instruction is a condition in continuation form ===== -/
abbrev xC : Type := (Nat × (Nat → Int32)) ⊕ ((Nat × List (Option Nat)) ⊕ (Nat × List Value))
abbrev xW : Type := List xC
abbrev xL : Type := List (Nat × Value)
abbrev xB : Type := Nat × Nat
abbrev xGo : Type := Option Nat → xL → List Value → xW → xB → Prop
abbrev xKo : Type := Option Value → xW → Prop
abbrev xSem : Type := xL → List Value → xW → xB → xGo → xKo → Prop
abbrev xPT : Type := List Value → xW → xKo → Prop
abbrev xEl : Type := Nat × Instr × Nat × xSem
-- locals
def xld : xL → Nat → (Value → Prop) → Prop
  | [], _, _ => False
  | q :: r, i, k => match Nat.beq q.1 i with
    | true => k q.2
    | false => xld r i k
def xrm : xL → Nat → (xL → Prop) → Prop
  | [], _, k => k []
  | q :: r, i, k => match Nat.beq q.1 i || (Nat.beq (q.1 + 1) i && Nat.beq q.2.category 2) with
    | true => xrm r i k
    | false => xrm r i (fun l => k (q :: l))
def xins : xL → Nat → Value → (xL → Prop) → Prop
  | [], i, v, k => k [(i, v)]
  | q :: r, i, v, k => match Nat.ble q.1 i with
    | true => xins r i v (fun l => k (q :: l))
    | false => k ((i, v) :: q :: r)
def xkeep : List Nat → xL → (xL → Prop) → Prop
  | [], _, k => k []
  | i :: r, ls, k => xld ls i (fun v => xkeep r ls (fun l => k ((i, v) :: l)))
def xsto (ls : xL) (i : Nat) (v : Value) (k : xL → Prop) : Prop := xrm ls i (fun l => xins l i v k)
-- the world
def xrd : xW → Nat → (xC → Prop) → Prop
  | [], _, _ => False
  | c :: _, 0, k => k c
  | _ :: w, n + 1, k => xrd w n k
def xwr : xW → Nat → xC → (xW → Prop) → Prop
  | [], _, _, _ => False
  | _ :: w, 0, c, k => k (c :: w)
  | b :: w, n + 1, c, k => xwr w n c (fun w' => k (b :: w'))
def xfg : List Value → Nat → (Value → Prop) → Prop
  | [], _, _ => False
  | v :: _, 0, k => k v
  | _ :: w, n + 1, k => xfg w n k
def xfs : List Value → Nat → Value → (List Value → Prop) → Prop
  | [], _, _, _ => False
  | _ :: w, 0, c, k => k (c :: w)
  | b :: w, n + 1, c, k => xfs w n c (fun w' => k (b :: w'))
def xpush : xW → xC → (Nat → xW → Prop) → Prop
  | [], c, k => k 0 [c]
  | b :: w, c, k => xpush w c (fun n w' => k (n + 1) (b :: w'))
def xqs : List (Option Nat) → Nat → Option Nat → (List (Option Nat) → Prop) → Prop
  | [], _, _, _ => False
  | _ :: w, 0, c, k => k (c :: w)
  | b :: w, n + 1, c, k => xqs w n c (fun w' => k (b :: w'))
-- renaming
def xix : List Nat → Nat → (Nat → Prop) → Prop
  | [], _, _ => False
  | a :: r, q, k => match Nat.beq a q with
    | true => k 0
    | false => xix r q (fun j => k (j + 1))
def xnt : List Nat → Nat → (Nat → Prop) → Prop
  | [], _, _ => False
  | a :: _, 0, k => k a
  | _ :: r, n + 1, k => xnt r n k
def xdnV (pi : List Nat) (v : Value) (k : Value → Prop) : Prop := match v with
  | .int n => k (.int n)
  | .long n => k (.long n)
  | .ref q => xix pi q (fun j => k (.ref j))
  | .null => k .null
  | _ => False
def xdnF (pi : List Nat) : List Value → (List Value → Prop) → Prop
  | [], k => k []
  | v :: r, k => xdnV pi v (fun v' => xdnF pi r (fun r' => k (v' :: r')))
def xdnQ (pi : List Nat) : List (Option Nat) → (List (Option Nat) → Prop) → Prop
  | [], k => k []
  | none :: r, k => xdnQ pi r (fun r' => k (none :: r'))
  | some q :: r, k => xix pi q (fun j => xdnQ pi r (fun r' => k (some j :: r')))
def xdnC (pi : List Nat) (c : xC) (k : xC → Prop) : Prop := match c with
  | .inl a => k (.inl a)
  | .inr (.inl (t, xs)) => xdnQ pi xs (fun xs' => k (.inr (.inl (t, xs'))))
  | .inr (.inr (ci, fs)) => xdnF pi fs (fun fs' => k (.inr (.inr (ci, fs'))))
def xga (pi : List Nat) (w : xW) : List Nat → (xW → Prop) → Prop
  | [], k => k []
  | i :: r, k => xrd w i (fun c => xdnC pi c (fun c' => xga pi w r (fun w' => k (c' :: w'))))
/-- up again; behind pi's end lie the cells that the callee made, n on in the caller -/
def xupI (n : Nat) : List Nat → Nat → (Nat → Prop) → Prop
  | [], j, k => k (n + j)
  | a :: _, 0, k => k a
  | _ :: r, j + 1, k => xupI n r j k
def xupV (n : Nat) (pi : List Nat) (v : Value) (k : Value → Prop) : Prop := match v with
  | .int n => k (.int n)
  | .long n => k (.long n)
  | .ref q => xupI n pi q (fun j => k (.ref j))
  | .null => k .null
  | _ => False
def xupF (n : Nat) (pi : List Nat) : List Value → (List Value → Prop) → Prop
  | [], k => k []
  | v :: r, k => xupV n pi v (fun v' => xupF n pi r (fun r' => k (v' :: r')))
def xupQ (n : Nat) (pi : List Nat) : List (Option Nat) → (List (Option Nat) → Prop) → Prop
  | [], k => k []
  | none :: r, k => xupQ n pi r (fun r' => k (none :: r'))
  | some q :: r, k => xupI n pi q (fun j => xupQ n pi r (fun r' => k (some j :: r')))
def xupC (n : Nat) (pi : List Nat) (c : xC) (k : xC → Prop) : Prop := match c with
  | .inl a => k (.inl a)
  | .inr (.inl (t, xs)) => xupQ n pi xs (fun xs' => k (.inr (.inl (t, xs'))))
  | .inr (.inr (ci, fs)) => xupF n pi fs (fun fs' => k (.inr (.inr (ci, fs'))))
def xapp : xW → xW → (xW → Prop) → Prop
  | [], w2, k => k w2
  | c :: w, w2, k => xapp w w2 (fun w' => k (c :: w'))
def xupL (n : Nat) (pi : List Nat) : xW → (xW → Prop) → Prop
  | [], k => k []
  | c :: r, k => xupC n pi c (fun c' => xupL n pi r (fun r' => k (c' :: r')))
/-- the callee's cells back into the caller's world; 'g': it may have made new ones -/
def xsc (g : Bool) (n : Nat) (pi : List Nat) : List Nat → xW → xW → (xW → Prop) → Prop
  | [], [], w, k => k w
  | [], c :: r, w, k => match g with
    | true => xupL n pi (c :: r) (fun r' => xapp w r' k)
    | false => False
  | i :: is, c :: r, w, k => xupC n pi c (fun c' => xwr w i c' (fun w' => xsc g n pi is r w' k))
  | _ :: _, [], _, _ => False
-- which cells an argument brings along: an object and what was made with it, an array alone
def xsz (ci : Nat) : Nat := match ci with
  | 0 => 3
  | 1 => 3
  | 2 => 2
  | 3 => 2
  | 4 => 18
  | 5 => 70
  | _ => 11
def xrange : Nat → Nat → Nat → List Nat → (List Nat → Prop) → Prop
  | 0, _, _, acc, k => k acc
  | n + 1, q, L, acc, k => match Nat.ble L q || acc.any (fun a => Nat.beq a q) with
    | true => xrange n (q + 1) L acc k
    | false => xrange n (q + 1) L (acc ++ [q]) k
def xnl : List Nat → (List Nat → Prop) → Prop
  | [], k => k []
  | a :: r, k => xnl r (fun r' => k (a :: r'))
def xpi (w : xW) : List Value → List Nat → (List Nat → Prop) → Prop
  | [], acc, k => k acc
  | .ref q :: r, acc, k => xrd w q (fun c => xrange (match c with
      | .inr (.inr (ci, _)) => xsz ci
      | _ => 1) q w.length acc (fun acc' => xnl acc' (fun acc2 => xpi w r acc2 k)))
  | _ :: r, acc, k => xpi w r acc k
def xall : List Nat → Nat → Nat → Bool
  | [], i, n => Nat.beq i n
  | a :: r, i, n => Nat.beq a i && xall r (i + 1) n
/-- are all refs of a thing below n: asked before the world grows -/
def xokV (n : Nat) (v : Value) : Bool := match v with
  | .ref q => Nat.blt q n
  | _ => true
def xokF (n : Nat) : List Value → Bool
  | [] => true
  | v :: r => xokV n v && xokF n r
def xokQ (n : Nat) : List (Option Nat) → Bool
  | [] => true
  | some q :: r => Nat.blt q n && xokQ n r
  | none :: r => xokQ n r
def xokC (n : Nat) (c : xC) : Bool := match c with
  | .inl _ => true
  | .inr (.inl (_, xs)) => xokQ n xs
  | .inr (.inr (_, fs)) => xokF n fs
def xokW (n : Nat) : xW → Bool
  | [] => true
  | c :: r => xokC n c && xokW n r
def xokL (n : Nat) : xL → Bool
  | [] => true
  | q :: r => xokV n q.2 && xokL n r
def xok (ls : xL) (st : List Value) (w : xW) : Bool := xokL w.length ls && (xokF w.length st && xokW w.length w)
-- what the instructions do
def xs_push (v : Value) : xSem := fun ls st w b go _ => go none ls (v :: st) w b
def xs_il (i : Nat) : xSem := fun ls st w b go _ => xld ls i (fun v => match v with
  | .int n => go none ls (.int n :: st) w b
  | _ => False)
def xs_ll (i : Nat) : xSem := fun ls st w b go _ => xld ls i (fun v => match v with
  | .long n => go none ls (.long n :: st) w b
  | _ => False)
def xs_al (i : Nat) : xSem := fun ls st w b go _ => xld ls i (fun v => match v with
  | .ref n => go none ls (.ref n :: st) w b
  | .float n => go none ls (.float n :: st) w b
  | _ => False)
def xs_is (i : Nat) : xSem := fun ls st w b go _ => match st with
  | .int n :: st' => xsto ls i (.int n) (fun ls' => go none ls' st' w b)
  | _ => False
def xs_as (i : Nat) : xSem := fun ls st w b go _ => match st with
  | .ref n :: st' => xsto ls i (.ref n) (fun ls' => go none ls' st' w b)
  | _ => False
def xs_iinc (i : Nat) (d : Int32) : xSem := fun ls st w b go _ => xld ls i (fun v => match v with
  | .int n => xsto ls i (.int (n + d)) (fun ls' => go none ls' st w b)
  | _ => False)
def xs_b2 (f : Int32 → Int32 → Int32) : xSem := fun ls st w b go _ => match st with
  | .int y :: .int x :: st' => go none ls (.int (f x y) :: st') w b
  | _ => False
def xs_div : xSem := fun ls st w b go _ => match st with
  | .int y :: .int x :: st' => ¬ y = 0 ∧ go none ls (.int (x / y) :: st') w b
  | _ => False
def xs_rem : xSem := fun ls st w b go _ => match st with
  | .int y :: .int x :: st' => ¬ y = 0 ∧ go none ls (.int (x - x / y * y) :: st') w b
  | _ => False
def xs_u1 (f : Int32 → Int32) : xSem := fun ls st w b go _ => match st with
  | .int x :: st' => go none ls (.int (f x) :: st') w b
  | _ => False
def xs_i2l : xSem := fun ls st w b go _ => match st with
  | .int x :: st' => go none ls (.long x.toInt64 :: st') w b
  | _ => False
def xs_l2i : xSem := fun ls st w b go _ => match st with
  | .long x :: st' => go none ls (.int x.toInt32 :: st') w b
  | _ => False
def xs_l2 (f : Int64 → Int64 → Int64) : xSem := fun ls st w b go _ => match st with
  | .long y :: .long x :: st' => go none ls (.long (f x y) :: st') w b
  | _ => False
def xs_lsh (f : Int64 → Int32 → Int64) : xSem := fun ls st w b go _ => match st with
  | .int y :: .long x :: st' => go none ls (.long (f x y) :: st') w b
  | _ => False
def xs_dup : xSem := fun ls st w b go _ => match st with
  | .int x :: st' => go none ls (.int x :: .int x :: st') w b
  | .ref x :: st' => go none ls (.ref x :: .ref x :: st') w b
  | _ => False
def xs_dup2 : xSem := fun ls st w b go _ => match st with
  | .int x :: .ref y :: st' => go none ls (.int x :: .ref y :: .int x :: .ref y :: st') w b
  | _ => False
def xs_pop : xSem := fun ls st w b go _ => match st with
  | .int _ :: st' => go none ls st' w b
  | _ => False
def xs_if (c : Int32 → Prop) (t : Nat) : xSem := fun ls st w b go _ => match st with
  | .int x :: st' => (c x → go (some t) ls st' w b) ∧ (¬ c x → go none ls st' w b)
  | _ => False
def xs_ic (c : Int32 → Int32 → Prop) (t : Nat) : xSem := fun ls st w b go _ => match st with
  | .int y :: .int x :: st' => (c x y → go (some t) ls st' w b) ∧ (¬ c x y → go none ls st' w b)
  | _ => False
def xs_ifn (c : Int32 → Prop) (t : Nat) : xSem := fun ls st w b go _ => match st with
  | .int x :: st' => (¬ c x → go (some t) ls st' w b) ∧ (c x → go none ls st' w b)
  | _ => False
def xs_icn (c : Int32 → Int32 → Prop) (t : Nat) : xSem := fun ls st w b go _ => match st with
  | .int y :: .int x :: st' => (¬ c x y → go (some t) ls st' w b) ∧ (c x y → go none ls st' w b)
  | _ => False
theorem br_n {c A B : Prop} (a : ¬ c → A) (b : c → B) : (¬ c → A) ∧ (c → B) := ⟨a, b⟩
def xs_goto (t : Nat) : xSem := fun ls st w b go _ => go (some t) ls st w b
def xsw (x : Int32) (d : Nat) (go : Nat → Prop) : List (Int32 × Nat) → Prop
  | [] => go d
  | q :: r => (x = q.1 → go q.2) ∧ (¬ x = q.1 → xsw x d go r)
def xs_sw (ps : List (Int32 × Nat)) (d : Nat) : xSem := fun ls st w b go _ => match st with
  | .int x :: st' => xsw x d (fun t => go (some t) ls st' w b) ps
  | _ => False
def xs_gf (ci k : Nat) : xSem := fun ls st w b go _ => match st with
  | .ref q :: st' => xrd w q (fun c => match c with
    | .inr (.inr (cj, fs)) => match Nat.beq cj ci with
      | true => xfg fs k (fun v => go none ls (v :: st') w b)
      | false => False
    | _ => False)
  | _ => False
def xs_pf (z : Bool) (ci k : Nat) : xSem := fun ls st w b go _ => match st with
  | .int n :: .ref q :: st' => xrd w q (fun c => match c with
    | .inr (.inr (cj, fs)) => match Nat.beq cj ci with
      | true => xfs fs k (.int n) (fun fs' => xwr w q (.inr (.inr (ci, fs'))) (fun w' => match z with
        | true => (n = 0 ∨ n = 1) ∧ go none ls st' w' b
        | false => go none ls st' w' b))
      | false => False
    | _ => False)
  | _ => False
def xs_pfr (ci k : Nat) : xSem := fun ls st w b go _ => match st with
  | .ref n :: .ref q :: st' => xrd w q (fun c => match c with
    | .inr (.inr (cj, fs)) => match Nat.beq cj ci with
      | true => xfs fs k (.ref n) (fun fs' => xwr w q (.inr (.inr (ci, fs'))) (fun w' => go none ls st' w' b))
      | false => False
    | _ => False)
  | _ => False
def xs_tld (j : UInt32) (N : Nat) (f : Nat → Int32) : xSem := fun ls st w b go _ => match st with
  | .int i :: .float t :: st' => t = j ∧ vp_in i N ∧ go none ls (.int (f i.toNatClampNeg) :: st') w b
  | _ => False
def xs_tlen (j : UInt32) (N : Nat) : xSem := fun ls st w b go _ => match st with
  | .float t :: st' => t = j ∧ go none ls (.int (Int32.ofNat N) :: st') w b
  | _ => False
def xs_iald : xSem := fun ls st w b go _ => match st with
  | .int i :: .ref q :: st' => xrd w q (fun c => match c with
    | .inl (n, f) => vp_in i n ∧ go none ls (.int (f i.toNatClampNeg) :: st') w b
    | _ => False)
  | _ => False
def xs_iast : xSem := fun ls st w b go _ => match st with
  | .int v :: .int i :: .ref q :: st' => xrd w q (fun c => match c with
    | .inl (n, f) => vp_in i n ∧ xwr w q (.inl (n, upd f i.toNatClampNeg v)) (fun w' => go none ls st' w' b)
    | _ => False)
  | _ => False
def xs_alen : xSem := fun ls st w b go _ => match st with
  | .ref q :: st' => xrd w q (fun c => match c with
    | .inl (n, _) => go none ls (.int (Int32.ofNat n) :: st') w b
    | _ => False)
  | _ => False
def xaa (i : Int32) (k : Nat → Prop) : Nat → List (Option Nat) → Prop
  | _, [] => True
  | j, some q :: r => (i = Int32.ofNat j → k q) ∧ xaa i k (j + 1) r
  | _, none :: _ => False
def xs_aald (t : Nat) : xSem := fun ls st w b go _ => match st with
  | .int i :: .ref q :: st' => xrd w q (fun c => match c with
    | .inr (.inl (t', xs)) => match Nat.beq t' t with
      | true => vp_in i xs.length ∧ xaa i (fun a => go none ls (.ref a :: st') w b) 0 xs
      | false => False
    | _ => False)
  | _ => False
/-- only at a place that is a written number; the value an object of kind ci -/
def xs_aast (t ci j : Nat) : xSem := fun ls st w b go _ => match st with
  | .ref v :: .int i :: .ref q :: st' => i = Int32.ofNat j ∧ xrd w v (fun c => match c with
    | .inr (.inr (cj, _)) => match Nat.beq cj ci with
      | true => xrd w q (fun c => match c with
        | .inr (.inl (t', xs)) => match Nat.beq t' t with
          | true => xqs xs j (some v) (fun xs' => xwr w q (.inr (.inl (t, xs'))) (fun w' => go none ls st' w' b))
          | false => False
        | _ => False)
      | false => False
    | _ => False)
  | _ => False
def xbud (mc ms k n : Nat) (b : xB) (go : xB → Prop) : Prop := match Nat.ble (b.1 + k) mc && Nat.ble (b.2 + n) ms with
  | true => go (b.1 + k, b.2 + n)
  | false => False
def xs_new (mc ms ci N : Nat) (fs : List Value) : xSem := fun ls st w b go _ => match xok ls st w with
  | true => xbud mc ms 1 N b (fun b' => xpush w (.inr (.inr (ci, fs))) (fun q w' => go none ls (.ref q :: st) w' b'))
  | false => False
def xs_newa (mc ms N : Nat) : xSem := fun ls st w b go _ => match st with
  | .int i :: st' => i = Int32.ofNat N ∧ match xok ls st' w with
    | true => xbud mc ms 1 N b (fun b' => xpush w (.inl (N, fun _ => 0)) (fun q w' => go none ls (.ref q :: st') w' b'))
    | false => False
  | _ => False
def xs_newq (mc ms t N : Nat) : xSem := fun ls st w b go _ => match st with
  | .int i :: st' => i = Int32.ofNat N ∧ match xok ls st' w with
    | true => xbud mc ms 1 N b (fun b' => xpush w (.inr (.inl (t, List.replicate N none))) (fun q w' => go none ls (.ref q :: st') w' b'))
    | false => False
  | _ => False
def xs_obj : xSem := fun ls st w b go _ => match st with
  | .ref _ :: st' => match Nat.ble (st'.map fun v => v.category).sum 8 with
    | true => go none ls st' w b
    | false => False
  | _ => False
def xs_acopy : xSem := fun ls st w b go _ => match st with
  | .int n :: .int dp :: .ref q1 :: .int sp :: .ref q0 :: st' => match Nat.ble (st'.map fun v => v.category).sum 8 with
    | true => xrd w q0 (fun c0 => match c0 with
      | .inl (n0, f) => xrd w q1 (fun c1 => match c1 with
        | .inl (n1, g) => (¬ sp < 0 ∧ ¬ dp < 0 ∧ ¬ n < 0 ∧ sp.toNatClampNeg + n.toNatClampNeg ≤ n0 ∧ dp.toNatClampNeg + n.toNatClampNeg ≤ n1) ∧ xwr w q1 (.inl (n1, va_cpy f g sp.toNatClampNeg dp.toNatClampNeg n.toNatClampNeg)) (fun w' => go none ls st' w' b)
        | _ => False)
      | _ => False)
    | false => False
  | _ => False
def xpop : Nat → List Value → List Value → (List Value → List Value → Prop) → Prop
  | 0, st, acc, k => k acc st
  | _ + 1, [], _, _ => False
  | n + 1, v :: st, acc, k => xpop n st (v :: acc) k
def xret (n : Nat) (pi : List Nat) (r : Option Value) (st : List Value) (k : List Value → Prop) : Prop := match r with
  | none => k st
  | some v => xupV n pi v (fun v' => k (v' :: st))
def xrck (rc : Option Nat) (av : List Value) (w : xW) (k : Prop) : Prop := match rc with
  | none => k
  | some ci => match av with
    | .ref q :: _ => xrd w q (fun c => match c with
      | .inr (.inr (cj, _)) => match Nat.beq cj ci with
        | true => k
        | false => False
      | _ => False)
    | _ => False
/-- a call: 'rc' the receiver's kind (none: a static method), n values, what it answers by C; g: it may make cells (kc of ks slots) -/
def xs_call (g : Bool) (mc ms kc ks : Nat) (rc : Option Nat) (n : Nat) (C : xPT) : xSem := fun ls st w b go _ => xpop n st [] (fun av st' => match Nat.ble (st'.map fun v => v.category).sum 8 && (!g || xok ls (av ++ st') w) with
  | true => xbud mc ms kc ks b (fun b' => xrck rc av w (xpi w av [] (fun pi => match xall pi 0 w.length && !g with
        | true => ∀ X : xPT, X = C → X av w (fun r w' => match Nat.beq w'.length w.length with
          | true => (match r with
            | none => go none ls st' w' b'
            | some v => go none ls (v :: st') w' b')
          | false => False)
        | false => xdnF pi av (fun av' => xga pi w pi (fun lw => ∀ X : xPT, X = C → X av' lw (fun r lw' => xsc g w.length pi pi lw' w (fun w' => xret w.length pi r st' (fun st2 => go none ls st2 w' b'))))))))
  | false => False)
def xs_iret (z : Bool) : xSem := fun _ st w _ _ K => match st with
  | [.int v] => (match z with
    | true => (v = 0 ∨ v = 1) ∧ K (some (.int v)) w
    | false => K (some (.int v)) w)
  | _ => False
def xs_aret : xSem := fun _ st w _ _ K => match st with
  | [.ref v] => K (some (.ref v)) w
  | _ => False
def xs_ret : xSem := fun _ st w _ _ K => match st with
  | [] => K none w
  | _ => False
-- the run
def xseek : List xEl → Nat → List xEl
  | [], _ => []
  | e :: r, t => match Nat.beq e.1 t with
    | true => e :: r
    | false => xseek r t
def xcut (pc : Nat) : List (Nat × List Nat) → Option (List Nat)
  | [] => none
  | q :: r => match Nat.beq q.1 pc with
    | true => some q.2
    | false => xcut pc r
def xrun (prog : List xEl) (cuts : List (Nat × List Nat)) (P : Nat → xL → List Value → xW → xB → Prop) (K : xKo) : Nat → List xEl → xL → List Value → xW → xB → Prop
  | 0, _, _, _, _, _ => False
  | _ + 1, [], _, _, _, _ => False
  | n + 1, e :: r, ls, st, w, b => e.2.2.2 ls st w b (fun t ls' st' w' b' => match (match t with
      | none => r
      | some q => xseek prog q) with
    | [] => False
    | e' :: r' => match xcut e'.1 cuts with
      | some ks => xkeep ks ls' (fun l => P e'.1 l st' w' b')
      | none => xrun prog cuts P K n (e' :: r') ls' st' w' b') K
/-- from a place of the program on: the least condition that is closed under runs -/
def xWP (prog : List xEl) (K : xKo) (pc : Nat) (ls : xL) (st : List Value) (w : xW) (b : xB) : Prop :=
  ∀ P : Nat → xL → List Value → xW → xB → Prop, (∀ n cuts pc ls st w b, xrun prog cuts P K n (xseek prog pc) ls st w b → P pc ls st w b) → P pc ls st w b
/-- a method: its contract as a condition on what comes after it -/
def xM (n : Nat) (prog : List xEl) : xPT := fun av w K => match Nat.ble (lg_sl av).length n with
  | true => xWP prog K 0 (lv_args 0 av) [] w (0, 0)
  | false => False
end
section
/-! ===== what pictures mean: addresses for the cells' places ===== -/
/-- classes' numbers and slots; the array classes; where the tables lie; the script's length and ints -/
abbrev xE : Type := va_G × (ClassId × ClassId × ClassId) × (UInt32 → Nat) × Nat × (Nat → Int32)
def xcv (E : xE) (as : List Nat) (v : Value) : Value := match v with
  | .ref q => .ref (as.getD q 0)
  | .float j => .ref (E.2.2.1 j)
  | v => v
def xct (E : xE) (t : Nat) : ClassId := match t with
  | 0 => E.2.1.2.1
  | _ => E.2.1.2.2
def xqv (as : List Nat) (xs : List (Option Nat)) : Nat → Option Nat := fun j => (xs.getD j none).map (fun q => as.getD q 0)
def xce (E : xE) (as : List Nat) (c : xC) : va_E := match c with
  | .inl a => .inl (E.2.1.1, a.1, .inl a.2)
  | .inr (.inl (t, xs)) => .inl (xct E t, xs.length, .inr (.inr (.inr (.inr (xqv as xs)))))
  | .inr (.inr (ci, fs)) => .inr (ci, fs.map (xcv E as))
def xG (E : xE) (as : List Nat) (w : xW) : va_W := List.zipWith (fun a c => (a, xce E as c)) as w
def xlv (E : xE) (as : List Nat) (ls : xL) : List (Nat × Value) := ls.map (fun q => (q.1, xcv E as q.2))
def xtys (E : xE) : List (ClassId × FieldType) := [(E.2.1.1, .int), (E.2.1.2.1, .object "HomeCalls$Law"), (E.2.1.2.2, .object "HomeCalls$Sheet")]
-- the continuation forms, read back
theorem xbeq {a b : Nat} (h : Nat.beq a b = true) : a = b := Nat.eq_of_beq_eq_true h
theorem xld_spec {i : Nat} {k : Value → Prop} : ∀ {ls : xL}, xld ls i k → ∃ v, (i, v) ∈ ls ∧ k v
  | [], h => h.elim
  | q :: r, h => by
    unfold xld at h
    split at h
    · next e => exact ⟨q.2, by rw [← xbeq e]; exact List.mem_cons_self, h⟩
    · obtain ⟨v, h1, h2⟩ := xld_spec h
      exact ⟨v, List.mem_cons_of_mem _ h1, h2⟩
theorem xrm_spec {i : Nat} : ∀ {ls : xL} {k : xL → Prop}, xrm ls i k → ∃ l, k l ∧ ∀ q ∈ l, q ∈ ls ∧ ¬ q.1 = i ∧ ¬ (q.1 + 1 = i ∧ q.2.category = 2)
  | [], k, h => ⟨[], h, fun q hq => by cases hq⟩
  | q :: r, k, h => by
    unfold xrm at h
    split at h
    · obtain ⟨l, h1, h2⟩ := xrm_spec h
      exact ⟨l, h1, fun x hx => ⟨List.mem_cons_of_mem _ (h2 x hx).1, (h2 x hx).2⟩⟩
    · next e =>
      obtain ⟨l, h1, h2⟩ := xrm_spec h
      refine ⟨_, h1, fun x hx => ?_⟩
      rcases List.mem_cons.mp hx with rfl | hx
      · rw [Bool.or_eq_false_iff] at e
        refine ⟨List.mem_cons_self, fun z => ?_, fun z => ?_⟩
        · rw [z] at e; simp at e
        · rw [z.1, z.2] at e; simp at e
      · exact ⟨List.mem_cons_of_mem _ (h2 x hx).1, (h2 x hx).2⟩
theorem xins_spec {i : Nat} {v : Value} : ∀ {ls : xL} {k : xL → Prop}, xins ls i v k → ∃ l, k l ∧ ∀ q ∈ l, q = (i, v) ∨ q ∈ ls
  | [], k, h => ⟨_, h, fun q hq => by simp at hq; exact Or.inl hq⟩
  | q :: r, k, h => by
    unfold xins at h
    split at h
    · obtain ⟨l, h1, h2⟩ := xins_spec h
      refine ⟨_, h1, fun x hx => ?_⟩
      rcases List.mem_cons.mp hx with rfl | hx
      · exact Or.inr List.mem_cons_self
      · rcases h2 x hx with h | h
        · exact Or.inl h
        · exact Or.inr (List.mem_cons_of_mem _ h)
    · refine ⟨_, h, fun x hx => ?_⟩
      rcases List.mem_cons.mp hx with rfl | hx
      · exact Or.inl rfl
      · exact Or.inr hx
theorem xsto_spec {i : Nat} {v : Value} {ls : xL} {k : xL → Prop} (h : xsto ls i v k) : ∃ l, k l ∧ ∀ q ∈ l, q = (i, v) ∨ (q ∈ ls ∧ ¬ q.1 = i ∧ ¬ (q.1 + 1 = i ∧ q.2.category = 2)) := by
  obtain ⟨l1, h1, h2⟩ := xrm_spec h
  obtain ⟨l2, h3, h4⟩ := xins_spec h1
  refine ⟨l2, h3, fun q hq => ?_⟩
  rcases h4 q hq with h | h
  · exact Or.inl h
  · exact Or.inr (h2 q h)
theorem xkeep_spec {ls : xL} : ∀ {is : List Nat} {k : xL → Prop}, xkeep is ls k → ∃ l, k l ∧ ∀ q ∈ l, q ∈ ls
  | [], k, h => ⟨[], h, fun q hq => by cases hq⟩
  | i :: r, k, h => by
    obtain ⟨v, h1, h2⟩ := xld_spec h
    obtain ⟨l, h3, h4⟩ := xkeep_spec h2
    refine ⟨_, h3, fun x hx => ?_⟩
    rcases List.mem_cons.mp hx with rfl | hx
    · exact h1
    · exact h4 x hx
theorem xrd_spec {k : xC → Prop} : ∀ {w : xW} {q : Nat}, xrd w q k → ∃ c, w[q]? = some c ∧ k c
  | [], q, h => by unfold xrd at h; exact h.elim
  | c :: w, 0, h => ⟨c, rfl, h⟩
  | c :: w, n + 1, h => by
    obtain ⟨c', h1, h2⟩ := xrd_spec (w := w) (q := n) h
    exact ⟨c', by rw [List.getElem?_cons_succ]; exact h1, h2⟩
theorem xwr_spec {c : xC} : ∀ {w : xW} {q : Nat} {k : xW → Prop}, xwr w q c k → q < w.length ∧ k (w.set q c)
  | [], q, k, h => by unfold xwr at h; exact h.elim
  | b :: w, 0, k, h => ⟨Nat.zero_lt_succ _, h⟩
  | b :: w, n + 1, k, h => by
    obtain ⟨h1, h2⟩ := xwr_spec (w := w) (q := n) h
    exact ⟨Nat.succ_lt_succ h1, h2⟩
theorem xfg_spec {k : Value → Prop} : ∀ {w : List Value} {q : Nat}, xfg w q k → ∃ c, w[q]? = some c ∧ k c
  | [], q, h => by unfold xfg at h; exact h.elim
  | c :: w, 0, h => ⟨c, rfl, h⟩
  | c :: w, n + 1, h => by
    obtain ⟨c', h1, h2⟩ := xfg_spec (w := w) (q := n) h
    exact ⟨c', by rw [List.getElem?_cons_succ]; exact h1, h2⟩
theorem xfs_spec {c : Value} : ∀ {w : List Value} {q : Nat} {k : List Value → Prop}, xfs w q c k → q < w.length ∧ k (w.set q c)
  | [], q, k, h => by unfold xfs at h; exact h.elim
  | b :: w, 0, k, h => ⟨Nat.zero_lt_succ _, h⟩
  | b :: w, n + 1, k, h => by
    obtain ⟨h1, h2⟩ := xfs_spec (w := w) (q := n) h
    exact ⟨Nat.succ_lt_succ h1, h2⟩
theorem xqs_spec {c : Option Nat} : ∀ {w : List (Option Nat)} {q : Nat} {k : List (Option Nat) → Prop}, xqs w q c k → q < w.length ∧ k (w.set q c)
  | [], q, k, h => by unfold xqs at h; exact h.elim
  | b :: w, 0, k, h => ⟨Nat.zero_lt_succ _, h⟩
  | b :: w, n + 1, k, h => by
    obtain ⟨h1, h2⟩ := xqs_spec (w := w) (q := n) h
    exact ⟨Nat.succ_lt_succ h1, h2⟩
theorem xpush_spec {c : xC} : ∀ {w : xW} {k : Nat → xW → Prop}, xpush w c k → k w.length (w ++ [c])
  | [], k, h => h
  | b :: w, k, h => xpush_spec (w := w) h
theorem xnl_spec : ∀ {l : List Nat} {k : List Nat → Prop}, xnl l k → k l
  | [], k, h => h
  | a :: r, k, h => xnl_spec (l := r) h
theorem xbud_spec {mc ms k n : Nat} {b : xB} {go : xB → Prop} (h : xbud mc ms k n b go) : b.1 + k ≤ mc ∧ b.2 + n ≤ ms ∧ go (b.1 + k, b.2 + n) := by
  unfold xbud at h
  split at h
  · next e =>
    rw [Bool.and_eq_true] at e
    exact ⟨Nat.le_of_ble_eq_true e.1, Nat.le_of_ble_eq_true e.2, h⟩
  · exact h.elim
theorem xpop_spec : ∀ {n : Nat} {st acc : List Value} {k : List Value → List Value → Prop}, xpop n st acc k → ∃ as rest, st = as ++ rest ∧ as.length = n ∧ k (as.reverse ++ acc) rest
  | 0, st, acc, k, h => ⟨[], st, rfl, rfl, h⟩
  | n + 1, [], acc, k, h => by unfold xpop at h; exact h.elim
  | n + 1, v :: st, acc, k, h => by
    obtain ⟨as, rest, h1, h2, h3⟩ := xpop_spec (n := n) (st := st) (acc := v :: acc) h
    exact ⟨v :: as, rest, by rw [h1]; rfl, by simp [h2], by simpa using h3⟩
theorem xaa_spec {i : Int32} {k : Nat → Prop} : ∀ {xs : List (Option Nat)} {j : Nat}, xaa i k j xs → ∀ n, n < xs.length → i = Int32.ofNat (j + n) → ∃ q, xs[n]? = some (some q) ∧ k q
  | [], j, _, n, hn, _ => absurd hn (Nat.not_lt_zero _)
  | none :: r, j, h, n, hn, e => by unfold xaa at h; exact h.elim
  | some q :: r, j, h, 0, hn, e => ⟨q, rfl, h.1 e⟩
  | some q :: r, j, h, n + 1, hn, e => by
    obtain ⟨q', h1, h2⟩ := xaa_spec (xs := r) (j := j + 1) h.2 n (Nat.lt_of_succ_lt_succ hn) (by rw [e]; congr 1; omega)
    exact ⟨q', by rw [List.getElem?_cons_succ]; exact h1, h2⟩
-- the world's cells
theorem xG_get {E : xE} {as : List Nat} {w : xW} {q : Nat} {c : xC} (hl : as.length = w.length) (h : w[q]? = some c) : (xG E as w)[q]? = some (as.getD q 0, xce E as c) := by
  have hq : q < as.length := by rw [hl]; exact (List.getElem?_eq_some_iff.mp h).1
  unfold xG
  rw [List.getElem?_zipWith, h, List.getD_eq_getElem?_getD, List.getElem?_eq_getElem hq]
  rfl
theorem xG_at {E : xE} {as : List Nat} {w : xW} {q : Nat} {x : Nat × va_E} (h : (xG E as w)[q]? = some x) : ∃ c, w[q]? = some c ∧ q < as.length ∧ x = (as.getD q 0, xce E as c) := by
  unfold xG at h
  rw [List.getElem?_zipWith] at h
  cases ha : as[q]? with
  | none => rw [ha] at h; simp at h
  | some a =>
    cases hw : w[q]? with
    | none => rw [ha, hw] at h; simp at h
    | some c =>
      rw [ha, hw] at h
      simp only [Option.some.injEq] at h
      exact ⟨c, rfl, (List.getElem?_eq_some_iff.mp ha).1, by rw [← h, List.getD_eq_getElem?_getD, ha]; rfl⟩
theorem x_zs {β : Type} (f : Nat → xC → β) : ∀ (as : List Nat) (w : xW) (q : Nat) (c : xC), as.length = w.length → q < w.length → (List.zipWith f as w).set q (f (as.getD q 0) c) = List.zipWith f as (w.set q c)
  | [], [], q, c, _, hq => absurd hq (Nat.not_lt_zero _)
  | [], _ :: _, _, _, h, _ => by simp at h
  | _ :: _, [], _, _, h, _ => by simp at h
  | a :: as, b :: w, 0, c, h, _ => rfl
  | a :: as, b :: w, q + 1, c, h, hq => by
    have := x_zs f as w q c (by simpa using h) (by simpa using hq)
    simp only [List.zipWith_cons_cons, List.set_cons_succ, List.getD_cons_succ]
    rw [this]
theorem xG_set {E : xE} {as : List Nat} {w : xW} {q : Nat} {c : xC} (hl : as.length = w.length) (hq : q < w.length) : (xG E as w).set q (as.getD q 0, xce E as c) = xG E as (w.set q c) :=
  x_zs (fun a c => (a, xce E as c)) as w q c hl hq
theorem xlv_mem {E : xE} {as : List Nat} {ls : xL} {i : Nat} {v : Value} (h : (i, v) ∈ ls) : (i, xcv E as v) ∈ xlv E as ls := List.mem_map.mpr ⟨(i, v), h, rfl⟩
theorem xcv_cat (E : xE) (as : List Nat) (v : Value) : (xcv E as v).category = v.category := by cases v <;> rfl
theorem lv_has_sub {ls : Array Slot} {nL : Nat} {l l' : List (Nat × Value)} (h : lv_has ls nL l) (hs : ∀ q ∈ l', q ∈ l) : lv_has ls nL l' := ⟨h.1, h.2.1, fun q hq => h.2.2 q (hs q hq)⟩
theorem xlv_sto {E : xE} {as : List Nat} {ls l : xL} {i : Nat} {v : Value} (h : ∀ q ∈ l, q = (i, v) ∨ (q ∈ ls ∧ ¬ q.1 = i ∧ ¬ (q.1 + 1 = i ∧ q.2.category = 2))) : ∀ q ∈ xlv E as l, q ∈ (i, xcv E as v) :: (xlv E as ls).filter (fun q => !(q.1 == i) && !(q.1 + 1 == i && q.2.category == 2)) := by
  intro q hq
  obtain ⟨x, hx, rfl⟩ := List.mem_map.mp hq
  rcases h x hx with rfl | ⟨h1, h2, h3⟩
  · exact List.mem_cons_self
  · refine List.mem_cons_of_mem _ (List.mem_filter.mpr ⟨List.mem_map.mpr ⟨x, h1, rfl⟩, ?_⟩)
    show (!(x.1 == i) && !(x.1 + 1 == i && (xcv E as x.2).category == 2)) = true
    rw [xcv_cat]
    simp only [Bool.and_eq_true, Bool.not_eq_true', beq_eq_false_iff_ne, ne_eq, h2, not_false_eq_true, true_and, Bool.and_eq_false_iff]
    by_cases z : x.1 + 1 = i
    · exact Or.inr fun y => h3 ⟨z, y⟩
    · exact Or.inl z
-- growing
theorem x_gd {as nw : List Nat} {q : Nat} (h : q < as.length) : (as ++ nw).getD q 0 = as.getD q 0 := by
  rw [List.getD_eq_getElem?_getD, List.getD_eq_getElem?_getD, List.getElem?_append_left h]
theorem xcv_app {E : xE} {as nw : List Nat} {n : Nat} {v : Value} (hn : n ≤ as.length) (h : xokV n v = true) : xcv E (as ++ nw) v = xcv E as v := by
  cases v with
  | ref q =>
    have h1 : q < n := Nat.le_of_ble_eq_true h
    show Value.ref _ = Value.ref _
    rw [x_gd (Nat.lt_of_lt_of_le h1 hn)]
  | _ => rfl
theorem xcvF_app {E : xE} {as nw : List Nat} {n : Nat} (hn : n ≤ as.length) : ∀ {fs : List Value}, xokF n fs = true → fs.map (xcv E (as ++ nw)) = fs.map (xcv E as)
  | [], _ => rfl
  | v :: r, h => by
    unfold xokF at h
    rw [Bool.and_eq_true] at h
    rw [List.map_cons, List.map_cons, xcv_app hn h.1, xcvF_app hn h.2]
theorem xqv_app {as nw : List Nat} {n : Nat} (hn : n ≤ as.length) : ∀ {xs : List (Option Nat)}, xokQ n xs = true → xqv (as ++ nw) xs = xqv as xs := by
  intro xs h
  funext j
  show ((xs.getD j none).map _) = ((xs.getD j none).map _)
  have key : ∀ (xs : List (Option Nat)) (j : Nat), xokQ n xs = true → ∀ q, xs.getD j none = some q → q < n := by
    intro xs
    induction xs with
    | nil => intro j _ q hq; simp at hq
    | cons a r ih =>
      intro j h q hq
      cases a with
      | none =>
        cases j with
        | zero => simp at hq
        | succ j => exact ih j h q (by simpa using hq)
      | some b =>
        unfold xokQ at h
        rw [Bool.and_eq_true] at h
        cases j with
        | zero =>
          simp at hq
          subst hq
          exact Nat.le_of_ble_eq_true h.1
        | succ j => exact ih j h.2 q (by simpa using hq)
  cases hx : xs.getD j none with
  | none => rfl
  | some q =>
    have := key xs j h q hx
    simp only [Option.map_some]
    rw [x_gd (Nat.lt_of_lt_of_le this hn)]
theorem xce_app {E : xE} {as nw : List Nat} {n : Nat} (hn : n ≤ as.length) {c : xC} (h : xokC n c = true) : xce E (as ++ nw) c = xce E as c := by
  match c, h with
  | .inl a, _ => rfl
  | .inr (.inl (t, xs)), h => exact congrArg (fun f : Nat → Option Nat => (Sum.inl (xct E t, xs.length, .inr (.inr (.inr (.inr f)))) : va_E)) (xqv_app (nw := nw) hn h)
  | .inr (.inr (ci, fs)), h => exact congrArg (fun f : List Value => (Sum.inr (ci, f) : va_E)) (xcvF_app (nw := nw) hn h)
theorem xlv_app {E : xE} {as nw : List Nat} {n : Nat} (hn : n ≤ as.length) : ∀ {ls : xL}, xokL n ls = true → xlv E (as ++ nw) ls = xlv E as ls
  | [], _ => rfl
  | q :: r, h => by
    unfold xokL at h
    rw [Bool.and_eq_true] at h
    have := xlv_app (E := E) (as := as) (nw := nw) hn h.2
    unfold xlv at this ⊢
    rw [List.map_cons, List.map_cons, xcv_app hn h.1, this]
theorem xokW_get {n : Nat} : ∀ {w : xW} {k : Nat} {c : xC}, xokW n w = true → w[k]? = some c → xokC n c = true
  | [], k, c, _, h => by simp at h
  | b :: w, 0, c, h, e => by
    unfold xokW at h
    rw [Bool.and_eq_true] at h
    simp at e
    subst e
    exact h.1
  | b :: w, k + 1, c, h, e => by
    unfold xokW at h
    rw [Bool.and_eq_true] at h
    exact xokW_get (w := w) (k := k) h.2 (by simpa using e)
theorem xG_push {E : xE} {as : List Nat} {w : xW} {a : Nat} {c : xC} (hl : as.length = w.length) (h : xokW w.length w = true) : xG E (as ++ [a]) (w ++ [c]) = xG E as w ++ [(a, xce E (as ++ [a]) c)] := by
  have h1 : List.zipWith (fun a' c' => (a', xce E (as ++ [a]) c')) as w = List.zipWith (fun a' c' => (a', xce E as c')) as w := by
    apply List.ext_getElem?
    intro k
    rw [List.getElem?_zipWith, List.getElem?_zipWith]
    cases hw : w[k]? with
    | none => cases as[k]? <;> rfl
    | some b =>
      cases ha : as[k]? with
      | none => rfl
      | some x =>
        simp only []
        rw [xce_app (by omega) (xokW_get h hw)]
  unfold xG
  rw [List.zipWith_append hl, h1]
  rfl
end
section
/-! ===== one instruction of a run is one of the machine ===== -/
def xIS : Nat → Int32 := fun j => ([1, 3, 5, 9, 19, 37, 73] : List Int32).getD j 0
def xNM : Nat → Int32 := fun j => ([100, 98, 109, 110, 120, 98] : List Int32).getD j 0
def xBD : Nat → Int32 := fun j => ([10, 11, 12, 13, 20, 11, 12, 13, 10, 30, 12, 13, 10, 11, 40, 13, 20, 11, 12, 50, 10, 60, 12, 13, 10, 11, 70, 71] : List Int32).getD j 0
def xtb (E : xE) : List (UInt32 × FieldType × Nat × (Nat → Int32)) := [(0, .int, 7, xIS), (1, .char, 6, xNM), (2, .int, 28, xBD), (3, .int, E.2.2.2.1, E.2.2.2.2)]
def xNest : List Cond := [Cond.methodLinkNest "HomeCalls" 9 ⟨"HomeCalls$Street", "<init>", "()V"⟩ "HomeCalls", Cond.methodLinkNest "HomeCalls$Street" 42 ⟨"HomeCalls$Law", "<init>", "()V"⟩ "HomeCalls", Cond.methodLinkNest "HomeCalls" 24 ⟨"HomeCalls$Reader", "<init>", "()V"⟩ "HomeCalls", Cond.methodLinkNest "HomeCalls" 31 ⟨"HomeCalls$Speaker", "<init>", "()V"⟩ "HomeCalls", Cond.methodLinkNest "HomeCalls" 38 ⟨"HomeCalls$Sheet", "<init>", "()V"⟩ "HomeCalls", Cond.methodLinkNest "HomeCalls$Street" 103 ⟨"HomeCalls", "isIn", "(II)Z"⟩ "HomeCalls"]
def xStat (E : xE) (A : Nat → Prop) (U : State) (H : Heap) : Prop := (∀ q ∈ xtb E, va_T q.2.1 (E.2.2.1 q.1) q.2.2.1 (fun j => .int (q.2.2.2 j)) A U H) ∧
  va_Z "HomeCalls" "IS" "[I" (.ref (E.2.2.1 0)) A U H ∧ va_Z "HomeCalls$Reader" "NAMES_OF_USES" "[C" (.ref (E.2.2.1 1)) A U H ∧ va_Z "HomeCalls$Speaker" "BODIES" "[I" (.ref (E.2.2.1 2)) A U H ∧
  (∀ w ∈ xNest, va_Nw w U) ∧ va_AO "HomeCalls$Law" U ∧ va_AO "HomeCalls$Sheet" U
def xCtx (E : xE) (p : Program) (s : State) (m : MethodId) (args : Array Value) (meth : Method) (c : Code) (cc : ByteArray) (own : String) (nL : Nat) (init : Bool) (A : Nat → Prop) : Prop :=
  p.tables.exec = Jvm.exec ∧ c.code = cc ∧ c.maxLocals = nL ∧ s.vm.findClass own = some m.cls ∧ (∀ w ∈ xT, w.before args s = true) ∧ va_K E.1 vwCl (xtys E) s ∧ xStat E A s s.heap ∧ (∀ q : Nat, s.heap.size ≤ q → A q) ∧ (init = true → meth.name = "<init>")
def xWat (E : xE) (R : Room) (p : Program) (l : Launch) (e : Env) (s : State) (m : MethodId) (args : Array Value) (below : List Frame) (meth : Method) (c : Code) (Q : State → Prop) (A : Nat → Prop) (as0 : List Nat) (nL : Nat) (pc : Nat) (ls : xL) (st : List Value) (w : xW) (b : xB) : Prop :=
  ∀ (nw : List Nat) (H : Heap) (locs : List Loc) (la : Array Slot), b.1 ≤ R.cells ∧ b.2 ≤ R.slots → (as0 ++ nw).length = w.length → va_P E.1 vwCl (xG E (as0 ++ nw) w) H → va_D A (xG E (as0 ++ nw) w) → va_S A s.heap H locs → lv_has la nL (xlv E (as0 ++ nw) ls) →
    W p l e R s m args below meth c H locs b.1 b.2 Q (F0 m pc la (st.map (xcv E (as0 ++ nw))))
/-- how a method may end -/
def xRet (Wt : Nat → xL → List Value → xW → xB → Prop) (cc : ByteArray) (rt : Option FieldType) (K : xKo) : Prop := ∀ (pc : Nat) (ls : xL) (w : xW) (b : xB),
  (∀ (v : Int32) (ty : FieldType), decode cc pc = .ok (.ireturn, 1) → rt = some ty → narrow ty (.int v) = .int v → K (some (.int v)) w → Wt pc ls [.int v] w b) ∧
  (∀ q : Nat, decode cc pc = .ok (.areturn, 1) → rt = some (.array .int) → K (some (.ref q)) w → Wt pc ls [.ref q] w b) ∧
  (decode cc pc = .ok (.return_, 1) → rt = none → K none w → Wt pc ls [] w b)
def xOk (E : xE) (R : Room) (own : String) (cc : ByteArray) (nL : Nat) (rt : Option FieldType) (init : Bool) (e : xEl) : Prop :=
  decode cc e.1 = .ok (e.2.1, e.2.2.1) →
  ∀ (p : Program) (l : Launch) (en : Env) (s : State) (m : MethodId) (args : Array Value) (below : List Frame) (meth : Method) (c : Code) (Q : State → Prop) (A : Nat → Prop) (as0 : List Nat) (K : xKo),
    xCtx E p s m args meth c cc own nL init A → xRet (xWat E R p l en s m args below meth c Q A as0 nL) cc rt K →
    ∀ (ls : xL) (st : List Value) (w : xW) (b : xB) (go : xGo), e.2.2.2 ls st w b go K →
      (∀ t ls' st' w' b', go t ls' st' w' b' → xWat E R p l en s m args below meth c Q A as0 nL (match t with | none => e.1 + e.2.2.1 | some q => q) ls' st' w' b') → xWat E R p l en s m args below meth c Q A as0 nL e.1 ls st w b
section OK1
variable {E : xE} {R : Room} {own : String} {cc : ByteArray} {nL : Nat} {rt : Option FieldType} {init : Bool}
theorem ok_iconst (pc : Nat) {n : Int} {v : Int32} (hv : Int32.ofInt n = v) : xOk E R own cc nL rt init (pc, .iconst n, 1, xs_push (.int v)) := by
  intro hd p l en s m args below meth c Q A as0 K C hR ls st w b go h k
  intro nw H locs la hbb hlen hP hD hS hl
  exact lv_iconst C.1 C.2.1 hd hv (k none _ _ _ _ h nw H locs la hbb hlen hP hD hS hl)
theorem ok_bipush (pc : Nat) {n : Int} {v : Int32} (hv : (Int8.ofInt n).toInt32 = v) : xOk E R own cc nL rt init (pc, .bipush n, 2, xs_push (.int v)) := by
  intro hd p l en s m args below meth c Q A as0 K C hR ls st w b go h k
  intro nw H locs la hbb hlen hP hD hS hl
  exact lv_bipush C.1 C.2.1 hd hv (k none _ _ _ _ h nw H locs la hbb hlen hP hD hS hl)
theorem ok_sipush (pc : Nat) {n : Int} {v : Int32} (hv : (Int16.ofInt n).toInt32 = v) : xOk E R own cc nL rt init (pc, .sipush n, 3, xs_push (.int v)) := by
  intro hd p l en s m args below meth c Q A as0 K C hR ls st w b go h k
  intro nw H locs la hbb hlen hP hD hS hl
  exact lv_sipush C.1 C.2.1 hd hv (k none _ _ _ _ h nw H locs la hbb hlen hP hD hS hl)
theorem ok_ldc (pc : Nat) {index : Nat} {v : Int32} (hw : Cond.constant own index v ∈ xT) : xOk E R own cc nL rt init (pc, .ldc index, 2, xs_push (.int v)) := by
  intro hd p l en s m args below meth c Q A as0 K C hR ls st w b go h k
  intro nw H locs la hbb hlen hP hD hS hl
  exact lv_ldc C.1 C.2.1 C.2.2.2.1 (C.2.2.2.2.1 _ hw) hd (k none _ _ _ _ h nw H locs la hbb hlen hP hD hS hl)
theorem ok_ldc2 (pc : Nat) {index : Nat} {v : Int64} (hw : Cond.constantLong own index v ∈ xT) : xOk E R own cc nL rt init (pc, .ldc2_w index, 3, xs_push (.long v)) := by
  intro hd p l en s m args below meth c Q A as0 K C hR ls st w b go h k
  intro nw H locs la hbb hlen hP hD hS hl
  exact lv_ldc2 C.1 C.2.1 C.2.2.2.1 (C.2.2.2.2.1 _ hw) hd (k none _ _ _ _ h nw H locs la hbb hlen hP hD hS hl)
theorem ok_iload_n (pc : Nat) {i : Fin 4} {j : Nat} (hi : (i : Nat) = j) : xOk E R own cc nL rt init (pc, .iload_n i, 1, xs_il j) := by
  intro hd p l en s m args below meth c Q A as0 K C hR ls st w b go h k
  obtain ⟨v, hv, h⟩ := xld_spec h
  split at h
  · intro nw H locs la hbb hlen hP hD hS hl
    exact lv_iload_n C.1 C.2.1 hd hi (hl.2.2 _ (xlv_mem hv)) (k none _ _ _ _ h nw H locs la hbb hlen hP hD hS hl)
  · exact h.elim
theorem ok_iload (pc : Nat) {i : Nat} : xOk E R own cc nL rt init (pc, .iload i, 2, xs_il i) := by
  intro hd p l en s m args below meth c Q A as0 K C hR ls st w b go h k
  obtain ⟨v, hv, h⟩ := xld_spec h
  split at h
  · intro nw H locs la hbb hlen hP hD hS hl
    exact lv_iload C.1 C.2.1 hd (hl.2.2 _ (xlv_mem hv)) (k none _ _ _ _ h nw H locs la hbb hlen hP hD hS hl)
  · exact h.elim
theorem ok_lload_n (pc : Nat) {i : Fin 4} {j : Nat} (hi : (i : Nat) = j) : xOk E R own cc nL rt init (pc, .lload_n i, 1, xs_ll j) := by
  intro hd p l en s m args below meth c Q A as0 K C hR ls st w b go h k
  obtain ⟨v, hv, h⟩ := xld_spec h
  split at h
  · intro nw H locs la hbb hlen hP hD hS hl
    exact lv_lload_n C.1 C.2.1 hd hi (hl.2.2 _ (xlv_mem hv)) (k none _ _ _ _ h nw H locs la hbb hlen hP hD hS hl)
  · exact h.elim
theorem ok_aload_n (pc : Nat) {i : Fin 4} {j : Nat} (hi : (i : Nat) = j) : xOk E R own cc nL rt init (pc, .aload_n i, 1, xs_al j) := by
  intro hd p l en s m args below meth c Q A as0 K C hR ls st w b go h k
  obtain ⟨v, hv, h⟩ := xld_spec h
  split at h
  · intro nw H locs la hbb hlen hP hD hS hl
    exact lv_aload_n C.1 C.2.1 hd hi (hl.2.2 _ (xlv_mem hv)) (k none _ _ _ _ h nw H locs la hbb hlen hP hD hS hl)
  · intro nw H locs la hbb hlen hP hD hS hl
    exact lv_aload_n C.1 C.2.1 hd hi (hl.2.2 _ (xlv_mem hv)) (k none _ _ _ _ h nw H locs la hbb hlen hP hD hS hl)
  · exact h.elim
theorem ok_aload (pc : Nat) {i : Nat} : xOk E R own cc nL rt init (pc, .aload i, 2, xs_al i) := by
  intro hd p l en s m args below meth c Q A as0 K C hR ls st w b go h k
  obtain ⟨v, hv, h⟩ := xld_spec h
  split at h
  · intro nw H locs la hbb hlen hP hD hS hl
    exact lv_aload C.1 C.2.1 hd (hl.2.2 _ (xlv_mem hv)) (k none _ _ _ _ h nw H locs la hbb hlen hP hD hS hl)
  · intro nw H locs la hbb hlen hP hD hS hl
    exact lv_aload C.1 C.2.1 hd (hl.2.2 _ (xlv_mem hv)) (k none _ _ _ _ h nw H locs la hbb hlen hP hD hS hl)
  · exact h.elim
theorem ok_istore_n (pc : Nat) {i : Fin 4} {j : Nat} (hi : (i : Nat) = j) (hj : j < nL) : xOk E R own cc nL rt init (pc, .istore_n i, 1, xs_is j) := by
  intro hd p l en s m args below meth c Q A as0 K C hR ls st w b go h k
  unfold xs_is at h
  dsimp only at h
  split at h
  · obtain ⟨l2, h, hs⟩ := xsto_spec h
    intro nw H locs la hbb hlen hP hD hS hl
    exact lv_istore_n C.1 C.2.1 hd hi hl hj rfl (fun ls' hl' => k none _ _ _ _ h nw H locs ls' hbb hlen hP hD hS (lv_has_sub hl' (xlv_sto hs)))
  · exact h.elim
theorem ok_istore (pc : Nat) {j : Nat} (hj : j < nL) : xOk E R own cc nL rt init (pc, .istore j, 2, xs_is j) := by
  intro hd p l en s m args below meth c Q A as0 K C hR ls st w b go h k
  unfold xs_is at h
  dsimp only at h
  split at h
  · obtain ⟨l2, h, hs⟩ := xsto_spec h
    intro nw H locs la hbb hlen hP hD hS hl
    exact lv_istore C.1 C.2.1 hd hl hj rfl (fun ls' hl' => k none _ _ _ _ h nw H locs ls' hbb hlen hP hD hS (lv_has_sub hl' (xlv_sto hs)))
  · exact h.elim
theorem ok_astore_n (pc : Nat) {i : Fin 4} {j : Nat} (hi : (i : Nat) = j) (hj : j < nL) : xOk E R own cc nL rt init (pc, .astore_n i, 1, xs_as j) := by
  intro hd p l en s m args below meth c Q A as0 K C hR ls st w b go h k
  unfold xs_as at h
  dsimp only at h
  split at h
  · obtain ⟨l2, h, hs⟩ := xsto_spec h
    intro nw H locs la hbb hlen hP hD hS hl
    exact lv_astore_n C.1 C.2.1 hd hi hl hj rfl (fun ls' hl' => k none _ _ _ _ h nw H locs ls' hbb hlen hP hD hS (lv_has_sub hl' (xlv_sto hs)))
  · exact h.elim
theorem ok_astore (pc : Nat) {j : Nat} (hj : j < nL) : xOk E R own cc nL rt init (pc, .astore j, 2, xs_as j) := by
  intro hd p l en s m args below meth c Q A as0 K C hR ls st w b go h k
  unfold xs_as at h
  dsimp only at h
  split at h
  · obtain ⟨l2, h, hs⟩ := xsto_spec h
    intro nw H locs la hbb hlen hP hD hS hl
    exact lv_astore C.1 C.2.1 hd hl hj rfl (fun ls' hl' => k none _ _ _ _ h nw H locs ls' hbb hlen hP hD hS (lv_has_sub hl' (xlv_sto hs)))
  · exact h.elim
theorem ok_iinc (pc : Nat) {j : Nat} {n : Int} {d : Int32} (hd' : Int32.ofInt n = d) (hj : j < nL) : xOk E R own cc nL rt init (pc, .iinc j n, 3, xs_iinc j d) := by
  intro hd p l en s m args below meth c Q A as0 K C hR ls st w b go h k
  obtain ⟨v, hv, h⟩ := xld_spec h
  split at h
  · next x =>
    obtain ⟨l2, h, hs⟩ := xsto_spec h
    intro nw H locs la hbb hlen hP hD hS hl
    obtain ⟨kk, hk⟩ := List.getElem?_of_mem (xlv_mem (E := E) (as := as0 ++ nw) hv)
    exact lv_iinc (v := x + d) C.1 C.2.1 hd hl hk (by rw [hd']) hj rfl (fun ls' hl' => k none _ _ _ _ h nw H locs ls' hbb hlen hP hD hS (lv_has_sub hl' (xlv_sto hs)))
  · exact h.elim
theorem ok_iadd (pc : Nat) : xOk E R own cc nL rt init (pc, .iadd, 1, xs_b2 (fun x y => x + y)) := by
  intro hd p l en s m args below meth c Q A as0 K C hR ls st w b go h k
  unfold xs_b2 at h
  dsimp only at h
  split at h
  · intro nw H locs la hbb hlen hP hD hS hl
    exact lv_iadd C.1 C.2.1 hd (k none _ _ _ _ h nw H locs la hbb hlen hP hD hS hl)
  · exact h.elim
theorem ok_isub (pc : Nat) : xOk E R own cc nL rt init (pc, .isub, 1, xs_b2 (fun x y => x - y)) := by
  intro hd p l en s m args below meth c Q A as0 K C hR ls st w b go h k
  unfold xs_b2 at h
  dsimp only at h
  split at h
  · intro nw H locs la hbb hlen hP hD hS hl
    exact lv_isub C.1 C.2.1 hd (k none _ _ _ _ h nw H locs la hbb hlen hP hD hS hl)
  · exact h.elim
theorem ok_imul (pc : Nat) : xOk E R own cc nL rt init (pc, .imul, 1, xs_b2 (fun x y => x * y)) := by
  intro hd p l en s m args below meth c Q A as0 K C hR ls st w b go h k
  unfold xs_b2 at h
  dsimp only at h
  split at h
  · intro nw H locs la hbb hlen hP hD hS hl
    exact lv_imul C.1 C.2.1 hd (k none _ _ _ _ h nw H locs la hbb hlen hP hD hS hl)
  · exact h.elim
theorem ok_iand (pc : Nat) : xOk E R own cc nL rt init (pc, .iand, 1, xs_b2 (fun x y => x &&& y)) := by
  intro hd p l en s m args below meth c Q A as0 K C hR ls st w b go h k
  unfold xs_b2 at h
  dsimp only at h
  split at h
  · intro nw H locs la hbb hlen hP hD hS hl
    exact lv_iand C.1 C.2.1 hd (k none _ _ _ _ h nw H locs la hbb hlen hP hD hS hl)
  · exact h.elim
theorem ok_ior (pc : Nat) : xOk E R own cc nL rt init (pc, .ior, 1, xs_b2 (fun x y => x ||| y)) := by
  intro hd p l en s m args below meth c Q A as0 K C hR ls st w b go h k
  unfold xs_b2 at h
  dsimp only at h
  split at h
  · intro nw H locs la hbb hlen hP hD hS hl
    exact lv_ior C.1 C.2.1 hd (k none _ _ _ _ h nw H locs la hbb hlen hP hD hS hl)
  · exact h.elim
theorem ok_ixor (pc : Nat) : xOk E R own cc nL rt init (pc, .ixor, 1, xs_b2 (fun x y => x ^^^ y)) := by
  intro hd p l en s m args below meth c Q A as0 K C hR ls st w b go h k
  unfold xs_b2 at h
  dsimp only at h
  split at h
  · intro nw H locs la hbb hlen hP hD hS hl
    exact lv_ixor C.1 C.2.1 hd (k none _ _ _ _ h nw H locs la hbb hlen hP hD hS hl)
  · exact h.elim
theorem ok_ishl (pc : Nat) : xOk E R own cc nL rt init (pc, .ishl, 1, xs_b2 (fun x y => x <<< (y &&& 31))) := by
  intro hd p l en s m args below meth c Q A as0 K C hR ls st w b go h k
  unfold xs_b2 at h
  dsimp only at h
  split at h
  · intro nw H locs la hbb hlen hP hD hS hl
    exact lv_ishl C.1 C.2.1 hd (k none _ _ _ _ h nw H locs la hbb hlen hP hD hS hl)
  · exact h.elim
theorem ok_ishr (pc : Nat) : xOk E R own cc nL rt init (pc, .ishr, 1, xs_b2 (fun x y => x >>> (y &&& 31))) := by
  intro hd p l en s m args below meth c Q A as0 K C hR ls st w b go h k
  unfold xs_b2 at h
  dsimp only at h
  split at h
  · intro nw H locs la hbb hlen hP hD hS hl
    exact lv_ishr C.1 C.2.1 hd (k none _ _ _ _ h nw H locs la hbb hlen hP hD hS hl)
  · exact h.elim
theorem ok_iushr (pc : Nat) : xOk E R own cc nL rt init (pc, .iushr, 1, xs_b2 (fun x y => (x.toUInt32 >>> (y.toUInt32 &&& Int32.toUInt32 31)).toInt32)) := by
  intro hd p l en s m args below meth c Q A as0 K C hR ls st w b go h k
  unfold xs_b2 at h
  dsimp only at h
  split at h
  · intro nw H locs la hbb hlen hP hD hS hl
    exact lv_iushr C.1 C.2.1 hd rfl (k none _ _ _ _ h nw H locs la hbb hlen hP hD hS hl)
  · exact h.elim
theorem ok_idiv (pc : Nat) : xOk E R own cc nL rt init (pc, .idiv, 1, xs_div) := by
  intro hd p l en s m args below meth c Q A as0 K C hR ls st w b go h k
  unfold xs_div at h
  dsimp only at h
  split at h
  · intro nw H locs la hbb hlen hP hD hS hl
    exact lv_idiv C.1 C.2.1 hd h.1 (k none _ _ _ _ h.2 nw H locs la hbb hlen hP hD hS hl)
  · exact h.elim
theorem ok_irem (pc : Nat) : xOk E R own cc nL rt init (pc, .irem, 1, xs_rem) := by
  intro hd p l en s m args below meth c Q A as0 K C hR ls st w b go h k
  unfold xs_rem at h
  dsimp only at h
  split at h
  · intro nw H locs la hbb hlen hP hD hS hl
    exact lv_irem C.1 C.2.1 hd h.1 (k none _ _ _ _ h.2 nw H locs la hbb hlen hP hD hS hl)
  · exact h.elim
theorem ok_ineg (pc : Nat) : xOk E R own cc nL rt init (pc, .ineg, 1, xs_u1 (fun x => -x)) := by
  intro hd p l en s m args below meth c Q A as0 K C hR ls st w b go h k
  unfold xs_u1 at h
  dsimp only at h
  split at h
  · intro nw H locs la hbb hlen hP hD hS hl
    exact lv_ineg C.1 C.2.1 hd (k none _ _ _ _ h nw H locs la hbb hlen hP hD hS hl)
  · exact h.elim
theorem ok_i2b (pc : Nat) : xOk E R own cc nL rt init (pc, .i2b, 1, xs_u1 (fun x => x.toInt8.toInt32)) := by
  intro hd p l en s m args below meth c Q A as0 K C hR ls st w b go h k
  unfold xs_u1 at h
  dsimp only at h
  split at h
  · intro nw H locs la hbb hlen hP hD hS hl
    exact lv_i2b C.1 C.2.1 hd rfl (k none _ _ _ _ h nw H locs la hbb hlen hP hD hS hl)
  · exact h.elim
theorem ok_i2s (pc : Nat) : xOk E R own cc nL rt init (pc, .i2s, 1, xs_u1 (fun x => x.toInt16.toInt32)) := by
  intro hd p l en s m args below meth c Q A as0 K C hR ls st w b go h k
  unfold xs_u1 at h
  dsimp only at h
  split at h
  · intro nw H locs la hbb hlen hP hD hS hl
    exact lv_i2s C.1 C.2.1 hd rfl (k none _ _ _ _ h nw H locs la hbb hlen hP hD hS hl)
  · exact h.elim
theorem ok_i2l (pc : Nat) : xOk E R own cc nL rt init (pc, .i2l, 1, xs_i2l) := by
  intro hd p l en s m args below meth c Q A as0 K C hR ls st w b go h k
  unfold xs_i2l at h
  dsimp only at h
  split at h
  · intro nw H locs la hbb hlen hP hD hS hl
    exact lv_i2l C.1 C.2.1 hd rfl (k none _ _ _ _ h nw H locs la hbb hlen hP hD hS hl)
  · exact h.elim
theorem ok_l2i (pc : Nat) : xOk E R own cc nL rt init (pc, .l2i, 1, xs_l2i) := by
  intro hd p l en s m args below meth c Q A as0 K C hR ls st w b go h k
  unfold xs_l2i at h
  dsimp only at h
  split at h
  · intro nw H locs la hbb hlen hP hD hS hl
    exact lv_l2i C.1 C.2.1 hd rfl (k none _ _ _ _ h nw H locs la hbb hlen hP hD hS hl)
  · exact h.elim
theorem ok_land (pc : Nat) : xOk E R own cc nL rt init (pc, .land, 1, xs_l2 (fun x y => x &&& y)) := by
  intro hd p l en s m args below meth c Q A as0 K C hR ls st w b go h k
  unfold xs_l2 at h
  dsimp only at h
  split at h
  · intro nw H locs la hbb hlen hP hD hS hl
    exact lv_land C.1 C.2.1 hd (k none _ _ _ _ h nw H locs la hbb hlen hP hD hS hl)
  · exact h.elim
theorem ok_lor (pc : Nat) : xOk E R own cc nL rt init (pc, .lor, 1, xs_l2 (fun x y => x ||| y)) := by
  intro hd p l en s m args below meth c Q A as0 K C hR ls st w b go h k
  unfold xs_l2 at h
  dsimp only at h
  split at h
  · intro nw H locs la hbb hlen hP hD hS hl
    exact lv_lor C.1 C.2.1 hd (k none _ _ _ _ h nw H locs la hbb hlen hP hD hS hl)
  · exact h.elim
theorem ok_lshl (pc : Nat) : xOk E R own cc nL rt init (pc, .lshl, 1, xs_lsh (fun x y => x <<< (y.toInt64 &&& 63))) := by
  intro hd p l en s m args below meth c Q A as0 K C hR ls st w b go h k
  unfold xs_lsh at h
  dsimp only at h
  split at h
  · intro nw H locs la hbb hlen hP hD hS hl
    exact lv_lshl C.1 C.2.1 hd rfl (k none _ _ _ _ h nw H locs la hbb hlen hP hD hS hl)
  · exact h.elim
theorem ok_lshr (pc : Nat) : xOk E R own cc nL rt init (pc, .lshr, 1, xs_lsh (fun x y => x >>> (y.toInt64 &&& 63))) := by
  intro hd p l en s m args below meth c Q A as0 K C hR ls st w b go h k
  unfold xs_lsh at h
  dsimp only at h
  split at h
  · intro nw H locs la hbb hlen hP hD hS hl
    exact lv_lshr C.1 C.2.1 hd rfl (k none _ _ _ _ h nw H locs la hbb hlen hP hD hS hl)
  · exact h.elim
theorem ok_lushr (pc : Nat) : xOk E R own cc nL rt init (pc, .lushr, 1, xs_lsh (fun x y => (x.toUInt64 >>> (y.toInt64.toUInt64 &&& Int64.toUInt64 63)).toInt64)) := by
  intro hd p l en s m args below meth c Q A as0 K C hR ls st w b go h k
  unfold xs_lsh at h
  dsimp only at h
  split at h
  · intro nw H locs la hbb hlen hP hD hS hl
    exact lv_lushr C.1 C.2.1 hd rfl (k none _ _ _ _ h nw H locs la hbb hlen hP hD hS hl)
  · exact h.elim
theorem ok_dup2 (pc : Nat) : xOk E R own cc nL rt init (pc, .dup2, 1, xs_dup2) := by
  intro hd p l en s m args below meth c Q A as0 K C hR ls st w b go h k
  unfold xs_dup2 at h
  dsimp only at h
  split at h
  · intro nw H locs la hbb hlen hP hD hS hl
    exact lv_dup2_11 C.1 C.2.1 hd rfl rfl (k none _ _ _ _ h nw H locs la hbb hlen hP hD hS hl)
  · exact h.elim
theorem ok_pop (pc : Nat) : xOk E R own cc nL rt init (pc, .pop, 1, xs_pop) := by
  intro hd p l en s m args below meth c Q A as0 K C hR ls st w b go h k
  unfold xs_pop at h
  dsimp only at h
  split at h
  · intro nw H locs la hbb hlen hP hD hS hl
    exact lv_pop C.1 C.2.1 hd rfl (k none _ _ _ _ h nw H locs la hbb hlen hP hD hS hl)
  · exact h.elim
theorem ok_dup (pc : Nat) : xOk E R own cc nL rt init (pc, .dup, 1, xs_dup) := by
  intro hd p l en s m args below meth c Q A as0 K C hR ls st w b go h k
  unfold xs_dup at h
  dsimp only at h
  split at h
  · intro nw H locs la hbb hlen hP hD hS hl
    exact lv_dup C.1 C.2.1 hd rfl (k none _ _ _ _ h nw H locs la hbb hlen hP hD hS hl)
  · intro nw H locs la hbb hlen hP hD hS hl
    exact lv_dup C.1 C.2.1 hd rfl (k none _ _ _ _ h nw H locs la hbb hlen hP hD hS hl)
  · exact h.elim
theorem ok_if_eq (pc : Nat) {off : Int} {tgt : Nat} (ht : (pc : Int) + off = (tgt : Int)) : xOk E R own cc nL rt init (pc, .ifCond .eq off, 3, xs_if (fun x => x = 0) tgt) := by
  intro hd p l en s m args below meth c Q A as0 K C hR ls st w b go h k
  unfold xs_if at h
  dsimp only at h
  split at h
  · intro nw H locs la hbb hlen hP hD hS hl
    exact lv_if_eq C.1 C.2.1 hd ht (fun z => k (some tgt) _ _ _ _ (h.1 z) nw H locs la hbb hlen hP hD hS hl) (fun z => k none _ _ _ _ (h.2 z) nw H locs la hbb hlen hP hD hS hl)
  · exact h.elim
theorem ok_ic_eq (pc : Nat) {off : Int} {tgt : Nat} (ht : (pc : Int) + off = (tgt : Int)) : xOk E R own cc nL rt init (pc, .if_icmp .eq off, 3, xs_ic (fun x y => x = y) tgt) := by
  intro hd p l en s m args below meth c Q A as0 K C hR ls st w b go h k
  unfold xs_ic at h
  dsimp only at h
  split at h
  · intro nw H locs la hbb hlen hP hD hS hl
    exact lv_icmp_eq C.1 C.2.1 hd ht (fun z => k (some tgt) _ _ _ _ (h.1 z) nw H locs la hbb hlen hP hD hS hl) (fun z => k none _ _ _ _ (h.2 z) nw H locs la hbb hlen hP hD hS hl)
  · exact h.elim
theorem ok_if_ne (pc : Nat) {off : Int} {tgt : Nat} (ht : (pc : Int) + off = (tgt : Int)) : xOk E R own cc nL rt init (pc, .ifCond .ne off, 3, xs_ifn (fun x => x = 0) tgt) := by
  intro hd p l en s m args below meth c Q A as0 K C hR ls st w b go h k
  unfold xs_ifn at h
  dsimp only at h
  split at h
  · intro nw H locs la hbb hlen hP hD hS hl
    exact lv_if_ne C.1 C.2.1 hd ht (fun z => k (some tgt) _ _ _ _ (h.1 z) nw H locs la hbb hlen hP hD hS hl) (fun z => k none _ _ _ _ (h.2 z) nw H locs la hbb hlen hP hD hS hl)
  · exact h.elim
theorem ok_ic_ne (pc : Nat) {off : Int} {tgt : Nat} (ht : (pc : Int) + off = (tgt : Int)) : xOk E R own cc nL rt init (pc, .if_icmp .ne off, 3, xs_icn (fun x y => x = y) tgt) := by
  intro hd p l en s m args below meth c Q A as0 K C hR ls st w b go h k
  unfold xs_icn at h
  dsimp only at h
  split at h
  · intro nw H locs la hbb hlen hP hD hS hl
    exact lv_icmp_ne C.1 C.2.1 hd ht (fun z => k (some tgt) _ _ _ _ (h.1 z) nw H locs la hbb hlen hP hD hS hl) (fun z => k none _ _ _ _ (h.2 z) nw H locs la hbb hlen hP hD hS hl)
  · exact h.elim
theorem ok_if_lt (pc : Nat) {off : Int} {tgt : Nat} (ht : (pc : Int) + off = (tgt : Int)) : xOk E R own cc nL rt init (pc, .ifCond .lt off, 3, xs_if (fun x => x < 0) tgt) := by
  intro hd p l en s m args below meth c Q A as0 K C hR ls st w b go h k
  unfold xs_if at h
  dsimp only at h
  split at h
  · intro nw H locs la hbb hlen hP hD hS hl
    exact lv_if_lt C.1 C.2.1 hd ht (fun z => k (some tgt) _ _ _ _ (h.1 z) nw H locs la hbb hlen hP hD hS hl) (fun z => k none _ _ _ _ (h.2 z) nw H locs la hbb hlen hP hD hS hl)
  · exact h.elim
theorem ok_ic_lt (pc : Nat) {off : Int} {tgt : Nat} (ht : (pc : Int) + off = (tgt : Int)) : xOk E R own cc nL rt init (pc, .if_icmp .lt off, 3, xs_ic (fun x y => x < y) tgt) := by
  intro hd p l en s m args below meth c Q A as0 K C hR ls st w b go h k
  unfold xs_ic at h
  dsimp only at h
  split at h
  · intro nw H locs la hbb hlen hP hD hS hl
    exact lv_icmp_lt C.1 C.2.1 hd ht (fun z => k (some tgt) _ _ _ _ (h.1 z) nw H locs la hbb hlen hP hD hS hl) (fun z => k none _ _ _ _ (h.2 z) nw H locs la hbb hlen hP hD hS hl)
  · exact h.elim
theorem ok_if_ge (pc : Nat) {off : Int} {tgt : Nat} (ht : (pc : Int) + off = (tgt : Int)) : xOk E R own cc nL rt init (pc, .ifCond .ge off, 3, xs_if (fun x => 0 ≤ x) tgt) := by
  intro hd p l en s m args below meth c Q A as0 K C hR ls st w b go h k
  unfold xs_if at h
  dsimp only at h
  split at h
  · intro nw H locs la hbb hlen hP hD hS hl
    exact lv_if_ge C.1 C.2.1 hd ht (fun z => k (some tgt) _ _ _ _ (h.1 z) nw H locs la hbb hlen hP hD hS hl) (fun z => k none _ _ _ _ (h.2 z) nw H locs la hbb hlen hP hD hS hl)
  · exact h.elim
theorem ok_ic_ge (pc : Nat) {off : Int} {tgt : Nat} (ht : (pc : Int) + off = (tgt : Int)) : xOk E R own cc nL rt init (pc, .if_icmp .ge off, 3, xs_ic (fun x y => y ≤ x) tgt) := by
  intro hd p l en s m args below meth c Q A as0 K C hR ls st w b go h k
  unfold xs_ic at h
  dsimp only at h
  split at h
  · intro nw H locs la hbb hlen hP hD hS hl
    exact lv_icmp_ge C.1 C.2.1 hd ht (fun z => k (some tgt) _ _ _ _ (h.1 z) nw H locs la hbb hlen hP hD hS hl) (fun z => k none _ _ _ _ (h.2 z) nw H locs la hbb hlen hP hD hS hl)
  · exact h.elim
theorem ok_if_gt (pc : Nat) {off : Int} {tgt : Nat} (ht : (pc : Int) + off = (tgt : Int)) : xOk E R own cc nL rt init (pc, .ifCond .gt off, 3, xs_if (fun x => 0 < x) tgt) := by
  intro hd p l en s m args below meth c Q A as0 K C hR ls st w b go h k
  unfold xs_if at h
  dsimp only at h
  split at h
  · intro nw H locs la hbb hlen hP hD hS hl
    exact lv_if_gt C.1 C.2.1 hd ht (fun z => k (some tgt) _ _ _ _ (h.1 z) nw H locs la hbb hlen hP hD hS hl) (fun z => k none _ _ _ _ (h.2 z) nw H locs la hbb hlen hP hD hS hl)
  · exact h.elim
theorem ok_ic_gt (pc : Nat) {off : Int} {tgt : Nat} (ht : (pc : Int) + off = (tgt : Int)) : xOk E R own cc nL rt init (pc, .if_icmp .gt off, 3, xs_ic (fun x y => y < x) tgt) := by
  intro hd p l en s m args below meth c Q A as0 K C hR ls st w b go h k
  unfold xs_ic at h
  dsimp only at h
  split at h
  · intro nw H locs la hbb hlen hP hD hS hl
    exact lv_icmp_gt C.1 C.2.1 hd ht (fun z => k (some tgt) _ _ _ _ (h.1 z) nw H locs la hbb hlen hP hD hS hl) (fun z => k none _ _ _ _ (h.2 z) nw H locs la hbb hlen hP hD hS hl)
  · exact h.elim
theorem ok_if_le (pc : Nat) {off : Int} {tgt : Nat} (ht : (pc : Int) + off = (tgt : Int)) : xOk E R own cc nL rt init (pc, .ifCond .le off, 3, xs_if (fun x => x ≤ 0) tgt) := by
  intro hd p l en s m args below meth c Q A as0 K C hR ls st w b go h k
  unfold xs_if at h
  dsimp only at h
  split at h
  · intro nw H locs la hbb hlen hP hD hS hl
    exact lv_if_le C.1 C.2.1 hd ht (fun z => k (some tgt) _ _ _ _ (h.1 z) nw H locs la hbb hlen hP hD hS hl) (fun z => k none _ _ _ _ (h.2 z) nw H locs la hbb hlen hP hD hS hl)
  · exact h.elim
theorem ok_ic_le (pc : Nat) {off : Int} {tgt : Nat} (ht : (pc : Int) + off = (tgt : Int)) : xOk E R own cc nL rt init (pc, .if_icmp .le off, 3, xs_ic (fun x y => x ≤ y) tgt) := by
  intro hd p l en s m args below meth c Q A as0 K C hR ls st w b go h k
  unfold xs_ic at h
  dsimp only at h
  split at h
  · intro nw H locs la hbb hlen hP hD hS hl
    exact lv_icmp_le C.1 C.2.1 hd ht (fun z => k (some tgt) _ _ _ _ (h.1 z) nw H locs la hbb hlen hP hD hS hl) (fun z => k none _ _ _ _ (h.2 z) nw H locs la hbb hlen hP hD hS hl)
  · exact h.elim
theorem ok_goto (pc : Nat) {off : Int} {tgt : Nat} (ht : (pc : Int) + off = (tgt : Int)) : xOk E R own cc nL rt init (pc, .goto off, 3, xs_goto tgt) := by
  intro hd p l en s m args below meth c Q A as0 K C hR ls st w b go h k
  intro nw H locs la hbb hlen hP hD hS hl
  exact lv_goto C.1 C.2.1 hd ht (k (some tgt) _ _ _ _ h nw H locs la hbb hlen hP hD hS hl)
theorem xsw_off {x : Int32} {d : Nat} {go : Nat → Prop} {pc : Nat} : ∀ {ps : List (Int32 × Nat)} {qs : List (Int × Int)} {df : Int}, xsw x d go ps → qs = ps.map (fun q => (q.1.toInt, (q.2 : Int) - pc)) → df = (d : Int) - pc → ∃ t : Nat, go t ∧ Op.lookupswitch.offset qs df x.toInt = (t : Int) - pc
  | [], qs, df, h, hq, hd => ⟨d, h, by subst hq; subst hd; rfl⟩
  | q :: r, qs, df, h, hq, hd => by
    subst hq
    rw [List.map_cons, Op.lookupswitch.offset_cons]
    by_cases z : x = q.1
    · exact ⟨q.2, h.1 z, by rw [if_pos (by rw [z])]⟩
    · obtain ⟨t, h1, h2⟩ := xsw_off (pc := pc) (h.2 z) rfl hd
      refine ⟨t, h1, ?_⟩
      rw [if_neg (fun y => z (Int32.toInt_inj.mp y.symm))]
      exact h2
theorem ok_look (pc : Nat) {df : Int} {ps : Array (Int × Int)} {len : Nat} {lst : List (Int32 × Nat)} {d : Nat} (hp : (ps.toList.zip (ps.toList.drop 1)).all (fun (a, next) => a.1 < next.1) = true) (hq : ps.toList = lst.map (fun q => (q.1.toInt, (q.2 : Int) - pc))) (hdf : df = (d : Int) - pc) : xOk E R own cc nL rt init (pc, .lookupswitch df ps, len, xs_sw lst d) := by
  intro hd p l en s m args below meth c Q A as0 K C hR ls st w b go h k
  unfold xs_sw at h
  dsimp only at h
  split at h
  · next x st' =>
    obtain ⟨t, h1, h2⟩ := xsw_off h hq hdf
    intro nw H locs la hbb hlen hP hD hS hl
    exact lv_lookup (tgt := t) C.1 C.2.1 hd hp h2 (by omega) (k (some t) _ _ _ _ h1 nw H locs la hbb hlen hP hD hS hl)
  · exact h.elim
theorem xsw_in {x : Int32} {d : Nat} {go : Nat → Prop} : ∀ {ps : List (Int32 × Nat)}, xsw x d go ps → (∃ (i : Nat) (t : Nat), ps[i]? = some (x, t) ∧ go t) ∨ ((∀ q ∈ ps, ¬ x = q.1) ∧ go d)
  | [], h => Or.inr ⟨fun q hq => by (cases hq), h⟩
  | q :: r, h => by
    by_cases z : x = q.1
    · exact Or.inl ⟨0, q.2, by rw [z]; rfl, h.1 z⟩
    · rcases xsw_in (h.2 z) with ⟨i, t, h1, h2⟩ | ⟨h1, h2⟩
      · exact Or.inl ⟨i + 1, t, by rw [List.getElem?_cons_succ]; exact h1, h2⟩
      · refine Or.inr ⟨fun y hy => ?_, h2⟩
        rcases List.mem_cons.mp hy with rfl | hy
        · exact z
        · exact h1 y hy
/-- the numbers go on from lo, one by one -/
def xtbl (pc : Nat) (lo : Int) (offs : Array Int) : Nat → List (Int32 × Nat) → Bool
  | _, [] => true
  | i, q :: r => decide (q.1.toInt = lo + (i : Int)) && (decide (offs[i]? = some ((q.2 : Int) - (pc : Int))) && xtbl pc lo offs (i + 1) r)
theorem xtbl_at {pc : Nat} {lo : Int} {offs : Array Int} : ∀ {ps : List (Int32 × Nat)} {j i : Nat} {q : Int32 × Nat}, xtbl pc lo offs j ps = true → ps[i]? = some q → q.1.toInt = lo + ((j + i : Nat) : Int) ∧ offs[j + i]? = some ((q.2 : Int) - (pc : Int))
  | [], j, i, q, _, h => by simp at h
  | a :: r, j, 0, q, h, e => by
    simp only [List.getElem?_cons_zero, Option.some.injEq] at e
    subst e
    unfold xtbl at h
    rw [Bool.and_eq_true, Bool.and_eq_true] at h
    exact ⟨of_decide_eq_true h.1, of_decide_eq_true h.2.1⟩
  | a :: r, j, i + 1, q, h, e => by
    unfold xtbl at h
    rw [Bool.and_eq_true, Bool.and_eq_true] at h
    have := xtbl_at (j := j + 1) (i := i) h.2.2 (by rw [List.getElem?_cons_succ] at e; exact e)
    rw [show j + (i + 1) = j + 1 + i by omega]
    exact this
theorem ok_table (pc : Nat) {df lo hi : Int} {offs : Array Int} {len : Nat} {lst : List (Int32 × Nat)} {d : Nat} (hq : xtbl pc lo offs 0 lst = true) (hn : hi = lo + (lst.length : Int) - 1) (hdf : df = (d : Int) - pc) : xOk E R own cc nL rt init (pc, .tableswitch df lo hi offs, len, xs_sw lst d) := by
  intro hd p l en s m args below meth c Q A as0 K C hR ls st w b go h k
  unfold xs_sw at h
  dsimp only at h
  split at h
  · next x st' =>
    intro nw H locs la hbb hlen hP hD hS hl
    rcases xsw_in h with ⟨i, t, h1, h2⟩ | ⟨h1, h2⟩
    · obtain ⟨e1, e2⟩ := xtbl_at hq h1
      rw [Nat.zero_add] at e1 e2
      have hi' : i < lst.length := (List.getElem?_eq_some_iff.mp h1).1
      dsimp only at e1 e2
      exact lv_tableIn (tgt := t) C.1 C.2.1 hd (by omega) (by omega) (by rw [show (x.toInt - lo).toNat = i by omega]; exact e2) (by omega) (k (some t) _ _ _ _ h2 nw H locs la hbb hlen hP hD hS hl)
    · refine lv_tableOut (tgt := d) C.1 C.2.1 hd ?_ (by omega) (k (some d) _ _ _ _ h2 nw H locs la hbb hlen hP hD hS hl)
      by_cases z : x.toInt < lo ∨ hi < x.toInt
      · exact z
      · exfalso
        have hi' : (x.toInt - lo).toNat < lst.length := by omega
        have e := List.getElem?_eq_getElem hi'
        obtain ⟨e1, -⟩ := xtbl_at hq e
        rw [Nat.zero_add] at e1
        exact h1 _ (List.getElem_mem hi') (Int32.toInt_inj.mp (by rw [e1]; omega))
  · exact h.elim
end OK1
end
section
/-! ===== fields, arrays, tables, making, returning ===== -/
def xQn (t : Nat) : String := match t with
  | 0 => "HomeCalls$Law"
  | _ => "HomeCalls$Sheet"
section OK2
variable {E : xE} {R : Room} {own : String} {cc : ByteArray} {nL : Nat} {rt : Option FieldType} {init : Bool}
theorem ok_gf (pc : Nat) {ci k0 index N : Nat} {Cn : String} {T : u_T} (hc : vwCl[ci]? = some (Cn, T, N)) (hin : ∀ w ∈ u_ws Cn T N, w ∈ xT) (hk : k0 < N) (hlink : Cond.fieldLink own index (T k0).1 (T k0).2.1 (T k0).2.2.1 ∈ xT) : xOk E R own cc nL rt init (pc, .getfield index, 3, xs_gf ci k0) := by
  intro hd p l en s m args below meth c Q A as0 K C hR ls st w b go h k
  unfold xs_gf at h
  dsimp only at h
  split at h
  · next q st' =>
    obtain ⟨cl, hcl, h1⟩ := xrd_spec h
    clear h
    split at h1
    · next cj fs =>
      split at h1
      · next e =>
        have e := xbeq e
        subst e
        obtain ⟨v, hv, h⟩ := xfg_spec h1
        intro nw H locs la hbb hlen hP hD hS hl
        have he := xG_get (E := E) hlen hcl
        exact va_get C.1 C.2.1 C.2.2.2.2.1 hin C.2.2.2.1 C.2.2.2.2.2.1 hP q he hc k0 hk (C.2.2.2.2.1 _ hlink) (fun _ h => h) (v := xcv E (as0 ++ nw) v) (by rw [List.getElem?_map, hv]; rfl) hd (k none _ _ _ _ h nw H locs la hbb hlen hP hD hS hl)
      · exact h1.elim
    · exact h1.elim
  · exact h.elim
theorem x_fset {E : xE} {as : List Nat} {w : xW} {q ci k0 : Nat} {fs : List Value} {v v' : Value} (hv : xcv E as v = v') (hl : as.length = w.length) (hq : q < w.length) : (xG E as w).set q (as.getD q 0, .inr (ci, (fs.map (xcv E as)).set k0 v')) = xG E as (w.set q (.inr (.inr (ci, fs.set k0 v)))) := by
  rw [← xG_set hl hq, ← hv, ← List.map_set]
  rfl
theorem x_wlen {w : xW} {q : Nat} {c : xC} : (w.set q c).length = w.length := List.length_set
theorem ok_pf (pc : Nat) {z : Bool} {ci k0 index N : Nat} {Cn : String} {T : u_T} {ty0 : Nat → FieldType} (hc : vwCl[ci]? = some (Cn, T, N)) (hin : ∀ w ∈ u_ws Cn T N, w ∈ xT) (hty : ∀ k, k < N → parseFieldDescriptor (T k).2.2.1 = some (ty0 k)) (hnm : ∀ a, a < N → ∀ b, b < N → a ≠ b → (T a).2.1 ≠ (T b).2.1) (hk : k0 < N) (hlink : Cond.fieldLink own index (T k0).1 (T k0).2.1 (T k0).2.2.1 ∈ xT)
    (hfin : (T k0).2.2.2 = false) (hz : ty0 k0 = match z with | true => .boolean | false => .int) : xOk E R own cc nL rt init (pc, .putfield index, 3, xs_pf z ci k0) := by
  intro hd p l en s m args below meth c Q A as0 K C hR ls st w b go h k
  unfold xs_pf at h
  dsimp only at h
  split at h
  · next n q st' =>
    obtain ⟨cl, hcl, h1⟩ := xrd_spec h
    clear h
    split at h1
    · next cj fs =>
      split at h1
      · next e =>
        have e := xbeq e
        subst e
        obtain ⟨hl0, h2⟩ := xfs_spec h1
        obtain ⟨hq, h⟩ := xwr_spec h2
        intro nw H locs la hbb hlen hP hD hS hl
        have he := xG_get (E := E) hlen hcl
        have hf : narrow (ty0 k0) (.int n) = .int n ∧ fits (ty0 k0) (.int n) = true ∧ go none ls st' (w.set q (.inr (.inr (cj, fs.set k0 (.int n))))) b := by
          rw [hz]
          cases z with
          | true => rcases h with ⟨rfl | rfl, h⟩ <;> exact ⟨rfl, rfl, h⟩
          | false => exact ⟨rfl, rfl, h⟩
        refine va_put C.1 C.2.1 C.2.2.2.2.1 hin ty0 hty hnm C.2.2.2.1 C.2.2.2.2.2.1 hP hD hS q he hc k0 hk (C.2.2.2.2.1 _ hlink) (fun _ h => h) hfin (hty k0 hk) hf.1 hf.2.1 (by rw [List.length_map]; exact hl0) hd (fun H1 locs1 hP hD hS => ?_)
        rw [x_fset (E := E) (ci := cj) (k0 := k0) (fs := fs) (v := .int n) (v' := xcv E (as0 ++ nw) (.int n)) rfl hlen hq] at hP hD
        exact k none _ _ _ _ hf.2.2 nw H1 locs1 la hbb (by rw [x_wlen]; exact hlen) hP hD hS hl
      · exact h1.elim
    · exact h1.elim
  · exact h.elim
theorem ok_pfr (pc : Nat) {ci k0 index N : Nat} {Cn : String} {T : u_T} {ty0 : Nat → FieldType} (hc : vwCl[ci]? = some (Cn, T, N)) (hin : ∀ w ∈ u_ws Cn T N, w ∈ xT) (hty : ∀ k, k < N → parseFieldDescriptor (T k).2.2.1 = some (ty0 k)) (hnm : ∀ a, a < N → ∀ b, b < N → a ≠ b → (T a).2.1 ≠ (T b).2.1) (hk : k0 < N) (hlink : Cond.fieldLink own index (T k0).1 (T k0).2.1 (T k0).2.2.1 ∈ xT)
    (hfin : (T k0).2.2.2 = true) (hini : init = true) (hdecl : (T k0).1 = own) (hz : ∀ a : Nat, narrow (ty0 k0) (.ref a) = .ref a ∧ fits (ty0 k0) (.ref a) = true) : xOk E R own cc nL rt init (pc, .putfield index, 3, xs_pfr ci k0) := by
  intro hd p l en s m args below meth c Q A as0 K C hR ls st w b go h k
  unfold xs_pfr at h
  dsimp only at h
  split at h
  · next n q st' =>
    obtain ⟨cl, hcl, h1⟩ := xrd_spec h
    clear h
    split at h1
    · next cj fs =>
      split at h1
      · next e =>
        have e := xbeq e
        subst e
        obtain ⟨hl0, h2⟩ := xfs_spec h1
        obtain ⟨hq, h⟩ := xwr_spec h2
        intro nw H locs la hbb hlen hP hD hS hl
        have he := xG_get (E := E) hlen hcl
        refine va_putF C.1 C.2.1 C.2.2.2.2.1 hin ty0 hty hnm C.2.2.2.1 C.2.2.2.2.2.1 hP hD hS q he hc k0 hk (C.2.2.2.2.1 _ hlink) (fun _ h => h) hfin (C.2.2.2.2.2.2.2.2 hini) hdecl (hty k0 hk) (v := .ref ((as0 ++ nw).getD n 0)) (hz _).1 (hz _).2 (by rw [List.length_map]; exact hl0) hd (fun H1 locs1 hP hD hS => ?_)
        rw [x_fset (E := E) (ci := cj) (k0 := k0) (fs := fs) (v := .ref n) (v' := .ref ((as0 ++ nw).getD n 0)) rfl hlen hq] at hP hD
        exact k none _ _ _ _ h nw H1 locs1 la hbb (by rw [x_wlen]; exact hlen) hP hD hS hl
      · exact h1.elim
    · exact h1.elim
  · exact h.elim
theorem ok_gs0 (pc : Nat) {index : Nat} (hlink : Cond.fieldLink own index "HomeCalls" "IS" "[I" ∈ xT) : xOk E R own cc nL rt init (pc, .getstatic index, 3, xs_push (.float 0)) := by
  intro hd p l en s m args below meth c Q A as0 K C hR ls st w b go h k
  intro nw H locs la hbb hlen hP hD hS hl
  exact va_gets C.1 C.2.1 C.2.2.2.2.2.2.1.2.1 hS C.2.2.2.1 (C.2.2.2.2.1 _ hlink) (fun _ h => h) hd (k none _ _ _ _ h nw H locs la hbb hlen hP hD hS hl)
theorem ok_gs1 (pc : Nat) {index : Nat} (hlink : Cond.fieldLink own index "HomeCalls$Reader" "NAMES_OF_USES" "[C" ∈ xT) : xOk E R own cc nL rt init (pc, .getstatic index, 3, xs_push (.float 1)) := by
  intro hd p l en s m args below meth c Q A as0 K C hR ls st w b go h k
  intro nw H locs la hbb hlen hP hD hS hl
  exact va_gets C.1 C.2.1 C.2.2.2.2.2.2.1.2.2.1 hS C.2.2.2.1 (C.2.2.2.2.1 _ hlink) (fun _ h => h) hd (k none _ _ _ _ h nw H locs la hbb hlen hP hD hS hl)
theorem ok_gs2 (pc : Nat) {index : Nat} (hlink : Cond.fieldLink own index "HomeCalls$Speaker" "BODIES" "[I" ∈ xT) : xOk E R own cc nL rt init (pc, .getstatic index, 3, xs_push (.float 2)) := by
  intro hd p l en s m args below meth c Q A as0 K C hR ls st w b go h k
  intro nw H locs la hbb hlen hP hD hS hl
  exact va_gets C.1 C.2.1 C.2.2.2.2.2.2.1.2.2.2.1 hS C.2.2.2.1 (C.2.2.2.2.1 _ hlink) (fun _ h => h) hd (k none _ _ _ _ h nw H locs la hbb hlen hP hD hS hl)
theorem ok_tldi (pc : Nat) {j : UInt32} {N : Nat} {f : Nat → Int32} (hm : (j, FieldType.int, N, f) ∈ xtb E) : xOk E R own cc nL rt init (pc, .iaload, 1, xs_tld j N f) := by
  intro hd p l en s m args below meth c Q A as0 K C hR ls st w b go h k
  unfold xs_tld at h
  dsimp only at h
  split at h
  · next i t st' =>
    obtain ⟨rfl, hin, h⟩ := h
    intro nw H locs la hbb hlen hP hD hS hl
    exact va_ti C.1 C.2.1 (C.2.2.2.2.2.2.1.1 _ hm) hS hin rfl hd (k none _ _ _ _ h nw H locs la hbb hlen hP hD hS hl)
  · exact h.elim
theorem ok_tldc (pc : Nat) {j : UInt32} {N : Nat} {f : Nat → Int32} (hm : (j, FieldType.char, N, f) ∈ xtb E) : xOk E R own cc nL rt init (pc, .caload, 1, xs_tld j N f) := by
  intro hd p l en s m args below meth c Q A as0 K C hR ls st w b go h k
  unfold xs_tld at h
  dsimp only at h
  split at h
  · next i t st' =>
    obtain ⟨rfl, hin, h⟩ := h
    intro nw H locs la hbb hlen hP hD hS hl
    exact va_tc C.1 C.2.1 (C.2.2.2.2.2.2.1.1 _ hm) hS hin rfl hd (k none _ _ _ _ h nw H locs la hbb hlen hP hD hS hl)
  · exact h.elim
theorem ok_tlen (pc : Nat) {j : UInt32} {N : Nat} {f : Nat → Int32} (hm : (j, FieldType.int, N, f) ∈ xtb E) : xOk E R own cc nL rt init (pc, .arraylength, 1, xs_tlen j N) := by
  intro hd p l en s m args below meth c Q A as0 K C hR ls st w b go h k
  unfold xs_tlen at h
  dsimp only at h
  split at h
  · next t st' =>
    obtain ⟨rfl, h⟩ := h
    intro nw H locs la hbb hlen hP hD hS hl
    exact va_tlen C.1 C.2.1 (C.2.2.2.2.2.2.1.1 _ hm) hS rfl hd (k none _ _ _ _ h nw H locs la hbb hlen hP hD hS hl)
  · exact h.elim
theorem ok_iald (pc : Nat) : xOk E R own cc nL rt init (pc, .iaload, 1, xs_iald) := by
  intro hd p l en s m args below meth c Q A as0 K C hR ls st w b go h k
  unfold xs_iald at h
  dsimp only at h
  split at h
  · next i q st' =>
    obtain ⟨cl, hcl, h1⟩ := xrd_spec h
    clear h
    split at h1
    · next n f =>
      intro nw H locs la hbb hlen hP hD hS hl
      exact va_iald C.1 C.2.1 C.2.2.2.2.2.1 hP q 0 (xG_get (E := E) hlen hcl) rfl h1.1 hd (k none _ _ _ _ h1.2 nw H locs la hbb hlen hP hD hS hl)
    · exact h1.elim
  · exact h.elim
theorem ok_iast (pc : Nat) : xOk E R own cc nL rt init (pc, .iastore, 1, xs_iast) := by
  intro hd p l en s m args below meth c Q A as0 K C hR ls st w b go h k
  unfold xs_iast at h
  dsimp only at h
  split at h
  · next v i q st' =>
    obtain ⟨cl, hcl, h1⟩ := xrd_spec h
    clear h
    split at h1
    · next n f =>
      obtain ⟨hq, h2⟩ := xwr_spec h1.2
      intro nw H locs la hbb hlen hP hD hS hl
      refine va_iast C.1 C.2.1 C.2.2.2.2.2.1 hP hD hS q 0 (xG_get (E := E) hlen hcl) rfl h1.1 hd (fun H1 locs1 hP hD hS => ?_)
      have e := xG_set (E := E) (c := .inl (n, upd f i.toNatClampNeg v)) hlen hq
      exact k none _ _ _ _ h2 nw H1 locs1 la hbb (by rw [x_wlen]; exact hlen) (by rw [← e]; exact hP) (by rw [← e]; exact hD) hS hl
    · exact h1.elim
  · exact h.elim
theorem ok_alen (pc : Nat) : xOk E R own cc nL rt init (pc, .arraylength, 1, xs_alen) := by
  intro hd p l en s m args below meth c Q A as0 K C hR ls st w b go h k
  unfold xs_alen at h
  dsimp only at h
  split at h
  · next q st' =>
    obtain ⟨cl, hcl, h1⟩ := xrd_spec h
    clear h
    split at h1
    · next n f =>
      intro nw H locs la hbb hlen hP hD hS hl
      exact va_alen C.1 C.2.1 C.2.2.2.2.2.1 hP q 0 (xG_get (E := E) hlen hcl) (ty := .int) rfl rfl hd (k none _ _ _ _ h1 nw H locs la hbb hlen hP hD hS hl)
    · exact h1.elim
  · exact h.elim
theorem x_tyq {E : xE} {t : Nat} (ht : t = 0 ∨ t = 1) : ∃ (t0 : Nat) (Cn : String), (xtys E)[t0]? = some (xct E t, .object Cn) ∧ Cn = (xQn t) := by
  rcases ht with rfl | rfl
  · exact ⟨1, _, rfl, rfl⟩
  · exact ⟨2, _, rfl, rfl⟩
theorem ok_aald (pc : Nat) {t : Nat} (ht : t = 0 ∨ t = 1) : xOk E R own cc nL rt init (pc, .aaload, 1, xs_aald t) := by
  intro hd p l en s m args below meth c Q A as0 K C hR ls st w b go h k
  unfold xs_aald at h
  dsimp only at h
  split at h
  · next i q st' =>
    obtain ⟨cl, hcl, h1⟩ := xrd_spec h
    clear h
    split at h1
    · next t' xs =>
      split at h1
      · next e =>
        have e := xbeq e
        subst e
        obtain ⟨hin, h⟩ := h1
        have hlt : i.toNatClampNeg < xs.length := Nat.not_le.mp fun z => hin (Or.inr z)
        have h0 : ¬ i < 0 := fun z => hin (Or.inl z)
        obtain ⟨j, hj, rfl⟩ := nI_of h0
        have hj2 : (nI j).toNatClampNeg = j := nI_clamp hj
        rw [hj2] at hlt
        obtain ⟨a, ha, h⟩ := xaa_spec h j hlt (by rw [Nat.zero_add]; rfl)
        obtain ⟨t0, Cn, ht0, -⟩ := x_tyq (E := E) ht
        intro nw H locs la hbb hlen hP hD hS hl
        refine va_aldq C.1 C.2.1 C.2.2.2.2.2.1 hP q t0 (xG_get (E := E) hlen hcl) ht0 hin hd ?_
        have e2 : va_rf (xqv (as0 ++ nw) xs (nI j).toNatClampNeg) = xcv E (as0 ++ nw) (.ref a) := by
          rw [hj2]
          unfold xqv
          rw [List.getD_eq_getElem?_getD, ha]
          rfl
        rw [e2]
        exact k none _ _ _ _ h nw H locs la hbb hlen hP hD hS hl
      · exact h1.elim
    · exact h1.elim
  · exact h.elim
theorem ok_aast (pc : Nat) {t ci j : Nat} (ht : t = 0 ∨ t = 1) {r : vw_C} (hc : vwCl[ci]? = some r) (hr : r.1 = (xQn t)) (hj : j < 2 ^ 31) : xOk E R own cc nL rt init (pc, .aastore, 1, xs_aast t ci j) := by
  intro hd p l en s m args below meth c Q A as0 K C hR ls st w b go h k
  unfold xs_aast at h
  dsimp only at h
  split at h
  · next v i q st' =>
    obtain ⟨rfl, h0⟩ := h
    obtain ⟨cv, hcv, h1⟩ := xrd_spec h0
    clear h0
    split at h1
    · next cj fs =>
      split at h1
      · next e =>
        have e := xbeq e
        subst e
        obtain ⟨cl, hcl, h2⟩ := xrd_spec h1
        clear h1
        split at h2
        · next t' xs =>
          split at h2
          · next e =>
            have e := xbeq e
            subst e
            obtain ⟨hjl, h3⟩ := xqs_spec h2
            obtain ⟨hq, h⟩ := xwr_spec h3
            obtain ⟨t0, Cn, ht0, hCn⟩ := x_tyq (E := E) ht
            have hj2 : (nI j).toNatClampNeg = j := nI_clamp hj
            intro nw H locs la hbb hlen hP hD hS hl
            refine va_astq C.1 C.2.1 C.2.2.2.2.2.1 hP hD hS q t0 v cj (xG_get (E := E) hlen hcl) (by rw [ht0, hCn, hr]) (xG_get (E := E) hlen hcv) hc (i := nI j) (fun z => z.elim (fun z => nI_pos hj z) (fun z => absurd hjl (by rw [hj2] at z; omega))) hd (fun H1 locs1 hP hD hS => ?_)
            have e1 : va_up (xqv (as0 ++ nw) xs) (nI j).toNatClampNeg (some ((as0 ++ nw).getD v 0)) = xqv (as0 ++ nw) (xs.set j (some v)) := by
              rw [hj2]
              funext x
              unfold va_up xqv
              by_cases hx : x = j
              · subst hx
                have e5 : (xs.set x (some v)).getD x none = some v := by rw [List.getD_eq_getElem?_getD, List.getElem?_set_self hjl]; rfl
                rw [if_pos rfl, e5]
                rfl
              · have e5 : (xs.set j (some v)).getD x none = xs.getD x none := by rw [List.getD_eq_getElem?_getD, List.getD_eq_getElem?_getD, List.getElem?_set_ne (Ne.symm hx)]
                rw [if_neg hx, e5]
            have e := xG_set (E := E) (c := .inr (.inl (t', xs.set j (some v)))) hlen hq
            have e3 : xce E (as0 ++ nw) (.inr (.inl (t', xs.set j (some v)))) = .inl (xct E t', xs.length, .inr (.inr (.inr (.inr (va_up (xqv (as0 ++ nw) xs) (nI j).toNatClampNeg (some ((as0 ++ nw).getD v 0))))))) := by
              rw [e1]
              show Sum.inl (_, (xs.set j (some v)).length, _) = _
              rw [List.length_set]
            rw [e3] at e
            exact k none _ _ _ _ h nw H1 locs1 la hbb (by rw [x_wlen]; exact hlen) (by rw [← e]; exact hP) (by rw [← e]; exact hD) hS hl
          · exact h2.elim
        · exact h2.elim
      · exact h1.elim
    · exact h1.elim
  · exact h.elim
end OK2
end
section
/-! ===== making cells; the ends of methods; arraycopy ===== -/
theorem x_beqT {a b : Nat} (h : Nat.ble a b = true) : a ≤ b := Nat.le_of_ble_eq_true h
theorem xok_spec {ls : xL} {st : List Value} {w : xW} (h : xok ls st w = true) : xokL w.length ls = true ∧ xokF w.length st = true ∧ xokW w.length w = true := by
  unfold xok at h
  rw [Bool.and_eq_true, Bool.and_eq_true] at h
  exact h
theorem x_gst {E : xE} {as : List Nat} {q : Nat} {st : List Value} {w : xW} (hlen : as.length = w.length) (e2 : xokF w.length st = true) : Value.ref q :: st.map (xcv E as) = (Value.ref w.length :: st).map (xcv E (as ++ [q])) := by
  rw [List.map_cons, xcvF_app (Nat.le_of_eq hlen.symm) e2]
  have e : xcv E (as ++ [q]) (Value.ref w.length) = Value.ref q := by
    show Value.ref _ = Value.ref _
    rw [List.getD_eq_getElem?_getD, ← hlen, List.getElem?_append_right (Nat.le_refl _), Nat.sub_self]
    rfl
  rw [e]
theorem x_gln {as : List Nat} {q : Nat} {w : xW} {c : xC} (hlen : as.length = w.length) : (as ++ [q]).length = (w ++ [c]).length := by
  rw [List.length_append, List.length_append, hlen]
  rfl
section OK3
variable {E : xE} {R : Room} {own : String} {cc : ByteArray} {nL : Nat} {rt : Option FieldType} {init : Bool}
theorem ok_new (pc : Nat) {mc ms ci index N : Nat} {fs : List Value} {Cn : String} {T : u_T} {ty0 : Nat → FieldType} (hc : vwCl[ci]? = some (Cn, T, N)) (hin : ∀ w ∈ u_ws Cn T N, w ∈ xT) (hty : ∀ k, k < N → parseFieldDescriptor (T k).2.2.1 = some (ty0 k)) (hcl : Cond.classLink own index Cn ∈ xT) (hinst : Cond.instantiable Cn N ∈ xT) (hini : Cond.initialized Cn ∈ xT) (hfs : ∀ j, j < N → defaultValue (ty0 j) = vp_V fs j) (hfm : ∀ as, fs.map (xcv E as) = fs) (hR : mc ≤ R.cells ∧ ms ≤ R.slots) : xOk E R own cc nL rt init (pc, .new index, 3, xs_new mc ms ci N fs) := by
  intro hd p l en s m args below meth c Q A as0 K C hR' ls st w b go h k
  unfold xs_new at h
  dsimp only at h
  split at h
  · next e =>
    obtain ⟨e1, e2, e3⟩ := xok_spec e
    obtain ⟨hb1, hb2, h⟩ := xbud_spec h
    have h := xpush_spec h
    intro nw H locs la hbb hlen hP hD hS hl
    refine va_new C.1 C.2.1 C.2.2.2.2.1 hin ty0 hty C.2.2.2.1 (C.2.2.2.2.1 _ hcl) (C.2.2.2.2.1 _ hinst) (C.2.2.2.2.1 _ hini) C.2.2.2.2.2.1 hP hD hS C.2.2.2.2.2.2.2.1 hc (fs := fs) hfs (by omega) (by omega) hd (fun q H1 hP hD hS => ?_)
    have e4 : (as0 ++ (nw ++ [q])) = (as0 ++ nw) ++ [q] := (List.append_assoc _ _ _).symm
    have e5 := xG_push (E := E) (a := q) (c := .inr (.inr (ci, fs))) hlen e3
    have e6 : xce E ((as0 ++ nw) ++ [q]) (.inr (.inr (ci, fs))) = .inr (ci, fs) := congrArg (fun z : List Value => (Sum.inr (ci, z) : va_E)) (hfm _)
    rw [e6, ← e4] at e5
    have e7 : Value.ref q :: st.map (xcv E (as0 ++ nw)) = (Value.ref w.length :: st).map (xcv E (as0 ++ (nw ++ [q]))) := by
      rw [e4]; exact x_gst hlen e2
    rw [e7]
    refine k none _ _ _ _ h (nw ++ [q]) H1 locs la ⟨Nat.le_trans hb1 hR.1, Nat.le_trans hb2 hR.2⟩ ?_ (by rw [e5]; exact hP) (by rw [e5]; exact hD) hS ?_
    · rw [e4]; exact x_gln hlen
    · rw [e4, xlv_app (Nat.le_of_eq hlen.symm) e1]; exact hl
  · exact h.elim
theorem x_tys_I {E : xE} {s : State} {cA : ClassId} (hK : va_K E.1 vwCl (xtys E ++ [(cA, FieldType.int)]) s) : cA = E.2.1.1 := by
  have h1 := (hK.2 3 (cA, .int) rfl).2
  have h2 := (hK.2 0 (E.2.1.1, .int) rfl).2
  exact Option.some.inj (h1.symm.trans h2)
theorem ok_newa (pc : Nat) {mc ms N : Nat} (hac : Cond.arrayClass .int ∈ xT) (hN : N < 2 ^ 31) (hb8 : N * 4 ≤ 536870912) (hR : mc ≤ R.cells ∧ ms ≤ R.slots) : xOk E R own cc nL rt init (pc, .newarray .int, 2, xs_newa mc ms N) := by
  intro hd p l en s m args below meth c Q A as0 K C hR' ls st w b go h k
  unfold xs_newa at h
  dsimp only at h
  split at h
  · next i st' =>
    obtain ⟨rfl, h⟩ := h
    split at h
    · next e =>
      obtain ⟨e1, e2, e3⟩ := xok_spec e
      obtain ⟨hb1, hb2, h⟩ := xbud_spec h
      have h := xpush_spec h
      intro nw H locs la hbb hlen hP hD hS hl
      refine va_newa (atype := .int) C.1 C.2.1 (C.2.2.2.2.1 _ hac) rfl C.2.2.2.2.2.1 hP hD hS C.2.2.2.2.2.2.2.1 (N' := N) (a0 := (N, .inl fun _ => 0)) (fun _ => rfl) (nI_pos hN) (nI_clamp hN) hb8 (by omega) (by omega) hd (fun q cA H1 hK hP hD hS => ?_)
      have hcA := x_tys_I hK
      subst hcA
      have e4 : (as0 ++ (nw ++ [q])) = (as0 ++ nw) ++ [q] := (List.append_assoc _ _ _).symm
      have e5 := xG_push (E := E) (a := q) (c := .inl (N, fun _ => 0)) hlen e3
      rw [← e4] at e5
      have e7 : Value.ref q :: st'.map (xcv E (as0 ++ nw)) = (Value.ref w.length :: st').map (xcv E (as0 ++ (nw ++ [q]))) := by
        rw [e4]; exact x_gst hlen e2
      rw [e7]
      refine k none _ _ _ _ h (nw ++ [q]) H1 locs la ⟨Nat.le_trans hb1 hR.1, Nat.le_trans hb2 hR.2⟩ ?_ (by rw [e5]; exact hP) (by rw [e5]; exact hD) hS ?_
      · rw [e4]; exact x_gln hlen
      · rw [e4, xlv_app (Nat.le_of_eq hlen.symm) e1]; exact hl
    · exact h.elim
  · exact h.elim
theorem x_tys_Q {E : xE} {s : State} {t : Nat} (ht : t = 0 ∨ t = 1) {cA : ClassId} (hK : va_K E.1 vwCl (xtys E ++ [(cA, FieldType.object (xQn t))]) s) : cA = xct E t := by
  rcases ht with rfl | rfl
  · obtain ⟨k1, c1, -, -, -, h1⟩ := (hK.2 3 (cA, _) rfl).2
    obtain ⟨k2, c2, -, -, -, h2⟩ := (hK.2 1 (E.2.1.2.1, _) rfl).2
    exact Option.some.inj (h1.symm.trans h2)
  · obtain ⟨k1, c1, -, -, -, h1⟩ := (hK.2 3 (cA, _) rfl).2
    obtain ⟨k2, c2, -, -, -, h2⟩ := (hK.2 2 (E.2.1.2.2, _) rfl).2
    exact Option.some.inj (h1.symm.trans h2)
theorem xqv_none (as : List Nat) (N : Nat) : xqv as (List.replicate N none) = fun _ => none := by
  funext j
  unfold xqv
  rw [List.getD_eq_getElem?_getD, List.getElem?_replicate]
  split <;> rfl
theorem ok_newq (pc : Nat) {mc ms t index N : Nat} (ht : t = 0 ∨ t = 1) (hcl : Cond.classLink own index (xQn t) ∈ xT) (hN : N < 2 ^ 31) (hb8 : N * 4 ≤ 536870912) (hR : mc ≤ R.cells ∧ ms ≤ R.slots) : xOk E R own cc nL rt init (pc, .anewarray index, 3, xs_newq mc ms t N) := by
  intro hd p l en s m args below meth c Q A as0 K C hR' ls st w b go h k
  unfold xs_newq at h
  dsimp only at h
  split at h
  · next i st' =>
    obtain ⟨rfl, h⟩ := h
    split at h
    · next e =>
      obtain ⟨e1, e2, e3⟩ := xok_spec e
      obtain ⟨hb1, hb2, h⟩ := xbud_spec h
      have h := xpush_spec h
      have hAO : va_AO (xQn t) s := by
        rcases ht with rfl | rfl
        · exact C.2.2.2.2.2.2.1.2.2.2.2.2.1
        · exact C.2.2.2.2.2.2.1.2.2.2.2.2.2
      intro nw H locs la hbb hlen hP hD hS hl
      refine va_newq C.1 C.2.1 C.2.2.2.1 (C.2.2.2.2.1 _ hcl) hAO C.2.2.2.2.2.1 hP hD hS C.2.2.2.2.2.2.2.1 (N' := N) (nI_pos hN) (nI_clamp hN) hb8 (by omega) (by omega) hd (fun q cA H1 hK hP hD hS => ?_)
      have hcA := x_tys_Q ht hK
      subst hcA
      have e4 : (as0 ++ (nw ++ [q])) = (as0 ++ nw) ++ [q] := (List.append_assoc _ _ _).symm
      have e5 := xG_push (E := E) (a := q) (c := .inr (.inl (t, List.replicate N none))) hlen e3
      have e6 : xce E ((as0 ++ nw) ++ [q]) (.inr (.inl (t, List.replicate N none))) = .inl (xct E t, N, .inr (.inr (.inr (.inr (fun _ => none))))) := by
        show Sum.inl (_, (List.replicate N (none : Option Nat)).length, Sum.inr (Sum.inr (Sum.inr (Sum.inr (xqv _ (List.replicate N none)))))) = _
        rw [xqv_none, List.length_replicate]
      rw [e6, ← e4] at e5
      have e7 : Value.ref q :: st'.map (xcv E (as0 ++ nw)) = (Value.ref w.length :: st').map (xcv E (as0 ++ (nw ++ [q]))) := by
        rw [e4]; exact x_gst hlen e2
      rw [e7]
      refine k none _ _ _ _ h (nw ++ [q]) H1 locs la ⟨Nat.le_trans hb1 hR.1, Nat.le_trans hb2 hR.2⟩ ?_ (by rw [e5]; exact hP) (by rw [e5]; exact hD) hS ?_
      · rw [e4]; exact x_gln hlen
      · rw [e4, xlv_app (Nat.le_of_eq hlen.symm) e1]; exact hl
    · exact h.elim
  · exact h.elim
theorem x_sum {E : xE} {as : List Nat} (st : List Value) : ((st.map (xcv E as)).map fun v => v.category) = st.map fun v => v.category := by
  rw [List.map_map]
  exact List.map_congr_left fun v _ => xcv_cat E as v
theorem ok_obj (pc : Nat) {index : Nat} (hlink : Cond.methodLink own index Lib.objectInit ∈ xT) (hinst : Cond.instanceMethod Lib.objectInit ∈ xT) (hcode : Cond.code Lib.objectInit ⟨#[0xb1]⟩ 1 none ∈ xT) (hR : 1 ≤ R.frames ∧ 20 ≤ R.locals) : xOk E R own cc nL rt init (pc, .invokespecial index, 3, xs_obj) := by
  intro hd p l en s m args below meth c Q A as0 K C hR' ls st w b go h k
  unfold xs_obj at h
  dsimp only at h
  split at h
  · next q st' =>
    split at h
    · next e =>
      have e := x_beqT e
      intro nw H locs la hbb hlen hP hD hS hl
      refine W.objInit C.1 C.2.1 C.2.2.2.1 (C.2.2.2.2.1 _ hlink) (C.2.2.2.2.1 _ hinst) (C.2.2.2.2.1 _ hcode) rfl (by rw [C.2.2.1]; exact hl.1) rfl hd hR.1 ?_ ?_
      · show 2 * 0 + ((List.map (xcv E (as0 ++ nw)) st').map fun v => v.category).sum + 12 ≤ R.locals
        rw [x_sum]
        omega
      · exact k none _ _ _ _ h nw H locs la hbb hlen hP hD hS hl
    · exact h.elim
  · exact h.elim
theorem ok_acopy (pc : Nat) {index : Nat} (hlink : Cond.methodLink own index arraycopyName ∈ xT) (hnat : Cond.native arraycopyName ∈ xT) (hstat : Cond.static arraycopyName ∈ xT) (hini : Cond.initialized "java/lang/System" ∈ xT) (hR : 1 ≤ R.frames ∧ 8 + (nativeFrameWords "java/lang/System" "arraycopy" 5 + 11) ≤ R.locals) : xOk E R own cc nL rt init (pc, .invokestatic index, 3, xs_acopy) := by
  intro hd p l en s m args below meth c Q A as0 K C hR' ls st w b go h k
  unfold xs_acopy at h
  dsimp only at h
  split at h
  · next n dp q1 sp q0 st' =>
    split at h
    · next e =>
      have e := x_beqT e
      obtain ⟨c0, hc0, h1⟩ := xrd_spec h
      clear h
      split at h1
      · next n0 f =>
        obtain ⟨c1, hc1, h2⟩ := xrd_spec h1
        clear h1
        split at h2
        · next n1 g =>
          obtain ⟨⟨z1, z2, z3, z4, z5⟩, h3⟩ := h2
          obtain ⟨hq, h⟩ := xwr_spec h3
          intro nw H locs la hbb hlen hP hD hS hl
          refine va_copyi C.1 C.2.1 (by rw [C.2.2.1]; exact hl.1.symm) C.2.2.2.1 (C.2.2.2.2.1 _ hlink) (C.2.2.2.2.1 _ hnat) (C.2.2.2.2.1 _ hstat) (C.2.2.2.2.1 _ hini) C.2.2.2.2.2.1 hP hD hS q0 q1 0 0 (ty := .int) (xG_get (E := E) hlen hc0) (xG_get (E := E) hlen hc1) rfl rfl rfl z1 z2 z3 z4 z5 (fun _ _ => rfl) hR.1 ?_ hd (fun H1 locs1 hP hD hS => ?_)
          · rw [x_sum]; omega
          · have e := xG_set (E := E) (c := .inl (n1, va_cpy f g sp.toNatClampNeg dp.toNatClampNeg n.toNatClampNeg)) hlen hq
            exact k none _ _ _ _ h nw H1 locs1 la hbb (by rw [x_wlen]; exact hlen) (by rw [← e]; exact hP) (by rw [← e]; exact hD) hS hl
        · exact h2.elim
      · exact h1.elim
    · exact h.elim
  · exact h.elim
theorem ok_iret (pc : Nat) {z : Bool} (hz : rt = some (match z with | true => .boolean | false => .int)) : xOk E R own cc nL rt init (pc, .ireturn, 1, xs_iret z) := by
  intro hd p l en s m args below meth c Q A as0 K C hR ls st w b go h k
  unfold xs_iret at h
  dsimp only at h
  split at h
  · next v =>
    split at h
    · exact (hR pc ls w b).1 v .boolean hd hz (by rcases h.1 with rfl | rfl <;> rfl) h.2
    · exact (hR pc ls w b).1 v .int hd hz rfl h
  · exact h.elim
theorem ok_aret (pc : Nat) (hz : rt = some (.array .int)) : xOk E R own cc nL rt init (pc, .areturn, 1, xs_aret) := by
  intro hd p l en s m args below meth c Q A as0 K C hR ls st w b go h k
  unfold xs_aret at h
  dsimp only at h
  split at h
  · next v => exact (hR pc ls w b).2.1 v hd hz h
  · exact h.elim
theorem ok_ret (pc : Nat) (hz : rt = none) : xOk E R own cc nL rt init (pc, .return_, 1, xs_ret) := by
  intro hd p l en s m args below meth c Q A as0 K C hR ls st w b go h k
  unfold xs_ret at h
  dsimp only at h
  split at h
  · exact (hR pc ls w b).2.2 hd hz h
  · exact h.elim
end OK3
end
section
/-! ===== renaming: a callee's world is a part of its caller's ===== -/
def xpm (as pi : List Nat) : List Nat := pi.map (fun i => as.getD i 0)
theorem xpm_get {as pi : List Nat} {j q : Nat} (h : pi[j]? = some q) : (xpm as pi).getD j 0 = as.getD q 0 := by
  unfold xpm
  rw [List.getD_eq_getElem?_getD, List.getElem?_map, h]
  rfl
theorem xix_spec {q : Nat} : ∀ {pi : List Nat} {k : Nat → Prop}, xix pi q k → ∃ j, pi[j]? = some q ∧ k j
  | [], k, h => h.elim
  | a :: r, k, h => by
    unfold xix at h
    split at h
    · next e => exact ⟨0, by rw [xbeq e]; rfl, h⟩
    · obtain ⟨j, h1, h2⟩ := xix_spec h
      exact ⟨j + 1, by rw [List.getElem?_cons_succ]; exact h1, h2⟩
theorem xdnV_spec {pi : List Nat} {v : Value} {k : Value → Prop} (h : xdnV pi v k) : ∃ v', k v' ∧ (∀ (E : xE) (as : List Nat), xcv E (xpm as pi) v' = xcv E as v) ∧ ∀ q, v = .ref q → ∃ j, v' = .ref j ∧ pi[j]? = some q := by
  unfold xdnV at h
  split at h
  · exact ⟨_, h, fun _ _ => rfl, fun q e => by cases e⟩
  · exact ⟨_, h, fun _ _ => rfl, fun q e => by cases e⟩
  · obtain ⟨j, h1, h2⟩ := xix_spec h
    refine ⟨_, h2, fun E as => ?_, fun q e => ?_⟩
    · show Value.ref _ = Value.ref _
      rw [xpm_get h1]
    · cases e
      exact ⟨j, rfl, h1⟩
  · exact ⟨_, h, fun _ _ => rfl, fun q e => by cases e⟩
  · exact h.elim
theorem xdnF_spec {pi : List Nat} : ∀ {fs : List Value} {k : List Value → Prop}, xdnF pi fs k → ∃ fs', k fs' ∧ fs'.length = fs.length ∧ (∀ (E : xE) (as : List Nat), fs'.map (xcv E (xpm as pi)) = fs.map (xcv E as)) ∧ ∀ q r, fs = .ref q :: r → ∃ j r', fs' = .ref j :: r' ∧ pi[j]? = some q
  | [], k, h => ⟨[], h, rfl, fun _ _ => rfl, fun q r e => by cases e⟩
  | v :: r, k, h => by
    obtain ⟨v', h1, h2, h3⟩ := xdnV_spec h
    obtain ⟨r', h4, h5, h6, -⟩ := xdnF_spec h1
    refine ⟨_, h4, by simp [h5], fun E as => by rw [List.map_cons, List.map_cons, h2, h6], fun q r2 e => ?_⟩
    simp only [List.cons.injEq] at e
    obtain ⟨j, hj, hp⟩ := h3 q e.1
    exact ⟨j, r', by rw [hj], hp⟩
theorem xdnQ_spec {pi : List Nat} : ∀ {xs : List (Option Nat)} {k : List (Option Nat) → Prop}, xdnQ pi xs k → ∃ xs', k xs' ∧ xs'.length = xs.length ∧ ∀ (as : List Nat) (j : Nat), (xs'.getD j none).map (fun q => (xpm as pi).getD q 0) = (xs.getD j none).map (fun q => as.getD q 0)
  | [], k, h => ⟨[], h, rfl, fun _ _ => rfl⟩
  | none :: r, k, h => by
    obtain ⟨r', h1, h2, h3⟩ := xdnQ_spec (xs := r) h
    refine ⟨_, h1, by simp [h2], fun as j => ?_⟩
    cases j with
    | zero => rfl
    | succ j => simpa using h3 as j
  | some q :: r, k, h => by
    obtain ⟨a, ha, h⟩ := xix_spec (pi := pi) h
    obtain ⟨r', h1, h2, h3⟩ := xdnQ_spec (xs := r) h
    refine ⟨_, h1, by simp [h2], fun as j => ?_⟩
    cases j with
    | zero =>
      show some ((xpm as pi).getD a 0) = some (as.getD q 0)
      rw [xpm_get ha]
    | succ j => simpa using h3 as j
theorem xdnC_spec {pi : List Nat} {c : xC} {k : xC → Prop} (h : xdnC pi c k) : ∃ c', k c' ∧ ∀ (E : xE) (as : List Nat), xce E (xpm as pi) c' = xce E as c := by
  unfold xdnC at h
  split at h
  · exact ⟨_, h, fun _ _ => rfl⟩
  · next t xs =>
    obtain ⟨xs', h1, h2, h3⟩ := xdnQ_spec h
    refine ⟨_, h1, fun E as => ?_⟩
    have e : xqv (xpm as pi) xs' = xqv as xs := funext fun j => h3 as j
    show Sum.inl (xct E t, xs'.length, Sum.inr (Sum.inr (Sum.inr (Sum.inr (xqv (xpm as pi) xs'))))) = _
    rw [e, h2]
    rfl
  · next ci fs =>
    obtain ⟨fs', h1, h2, h3, -⟩ := xdnF_spec h
    exact ⟨_, h1, fun E as => congrArg (fun z : List Value => (Sum.inr (ci, z) : va_E)) (h3 E as)⟩
theorem xga_spec {pi : List Nat} {w : xW} : ∀ {is : List Nat} {k : xW → Prop}, xga pi w is k → ∃ lw : xW, k lw ∧ lw.length = is.length ∧ ∀ (j i : Nat), is[j]? = some i → ∃ c c' : xC, w[i]? = some c ∧ lw[j]? = some c' ∧ ∀ (E : xE) (as : List Nat), xce E (xpm as pi) c' = xce E as c
  | [], k, h => ⟨[], h, rfl, fun j i e => by simp at e⟩
  | i :: r, k, h => by
    obtain ⟨c, hc, h1⟩ := xrd_spec h
    obtain ⟨c', h2, h3⟩ := xdnC_spec h1
    obtain ⟨lw, h4, h5, h6⟩ := xga_spec h2
    refine ⟨_, h4, by simp [h5], fun j i' e => ?_⟩
    cases j with
    | zero =>
      simp only [List.getElem?_cons_zero, Option.some.injEq] at e
      subst e
      exact ⟨c, c', hc, rfl, h3⟩
    | succ j =>
      rw [List.getElem?_cons_succ] at e
      obtain ⟨d, d', g1, g2, g3⟩ := h6 j i' e
      exact ⟨d, d', g1, by rw [List.getElem?_cons_succ]; exact g2, g3⟩
theorem xupI_spec {n : Nat} : ∀ {pi : List Nat} {j : Nat} {k : Nat → Prop}, xupI n pi j k → ∃ i, k i ∧ ∀ (as nw : List Nat), as.length = n → (∀ a ∈ pi, a < n) → (as ++ nw).getD i 0 = (xpm as pi ++ nw).getD j 0
  | [], j, k, h => ⟨n + j, h, fun as nw hn _ => by
      rw [List.getD_eq_getElem?_getD, List.getElem?_append_right (by omega), show n + j - as.length = j by omega]
      show _ = ([] ++ nw).getD j 0
      rw [List.nil_append, List.getD_eq_getElem?_getD]⟩
  | a :: r, 0, k, h => ⟨a, h, fun as nw hn ha => by
      rw [x_gd (by rw [hn]; exact ha a List.mem_cons_self)]
      rfl⟩
  | a :: r, j + 1, k, h => by
    obtain ⟨i, h1, h2⟩ := xupI_spec (pi := r) (j := j) h
    exact ⟨i, h1, fun as nw hn ha => by
      rw [h2 as nw hn fun x hx => ha x (List.mem_cons_of_mem _ hx)]
      rfl⟩
theorem xupV_spec {n : Nat} {pi : List Nat} {v : Value} {k : Value → Prop} (h : xupV n pi v k) : ∃ v', k v' ∧ ∀ (E : xE) (as nw : List Nat), as.length = n → (∀ a ∈ pi, a < n) → xcv E (as ++ nw) v' = xcv E (xpm as pi ++ nw) v := by
  unfold xupV at h
  split at h
  · exact ⟨_, h, fun _ _ _ _ _ => rfl⟩
  · exact ⟨_, h, fun _ _ _ _ _ => rfl⟩
  · obtain ⟨i, h1, h2⟩ := xupI_spec h
    exact ⟨_, h1, fun E as nw hn ha => congrArg Value.ref (h2 as nw hn ha)⟩
  · exact ⟨_, h, fun _ _ _ _ _ => rfl⟩
  · exact h.elim
theorem xupF_spec {n : Nat} {pi : List Nat} : ∀ {fs : List Value} {k : List Value → Prop}, xupF n pi fs k → ∃ fs', k fs' ∧ ∀ (E : xE) (as nw : List Nat), as.length = n → (∀ a ∈ pi, a < n) → fs'.map (xcv E (as ++ nw)) = fs.map (xcv E (xpm as pi ++ nw))
  | [], k, h => ⟨[], h, fun _ _ _ _ _ => rfl⟩
  | v :: r, k, h => by
    obtain ⟨v', h1, h2⟩ := xupV_spec h
    obtain ⟨r', h3, h4⟩ := xupF_spec h1
    exact ⟨_, h3, fun E as nw hn ha => by rw [List.map_cons, List.map_cons, h2 E as nw hn ha, h4 E as nw hn ha]⟩
theorem xupQ_spec {n : Nat} {pi : List Nat} : ∀ {xs : List (Option Nat)} {k : List (Option Nat) → Prop}, xupQ n pi xs k → ∃ xs', k xs' ∧ xs'.length = xs.length ∧ ∀ (as nw : List Nat) (j : Nat), as.length = n → (∀ a ∈ pi, a < n) → (xs'.getD j none).map (fun q => (as ++ nw).getD q 0) = (xs.getD j none).map (fun q => (xpm as pi ++ nw).getD q 0)
  | [], k, h => ⟨[], h, rfl, fun _ _ _ _ _ => rfl⟩
  | none :: r, k, h => by
    obtain ⟨r', h1, h2, h3⟩ := xupQ_spec (xs := r) h
    refine ⟨_, h1, by simp [h2], fun as nw j hn ha => ?_⟩
    cases j with
    | zero => rfl
    | succ j => simpa using h3 as nw j hn ha
  | some q :: r, k, h => by
    obtain ⟨i, h, hi⟩ := xupI_spec (pi := pi) h
    obtain ⟨r', h1, h2, h3⟩ := xupQ_spec (xs := r) h
    refine ⟨_, h1, by simp [h2], fun as nw j hn ha => ?_⟩
    cases j with
    | zero =>
      show some ((as ++ nw).getD i 0) = some ((xpm as pi ++ nw).getD q 0)
      rw [hi as nw hn ha]
    | succ j => simpa using h3 as nw j hn ha
/-- a cell of the callee's, as its caller has it -/
def xUp (n : Nat) (pi : List Nat) (c c' : xC) : Prop := ∀ (E : xE) (as nw : List Nat), as.length = n → (∀ a ∈ pi, a < n) → xce E (as ++ nw) c' = xce E (xpm as pi ++ nw) c
theorem xupC_spec {n : Nat} {pi : List Nat} {c : xC} {k : xC → Prop} (h : xupC n pi c k) : ∃ c', k c' ∧ xUp n pi c c' := by
  unfold xupC at h
  split at h
  · exact ⟨_, h, fun _ _ _ _ _ => rfl⟩
  · next t xs =>
    obtain ⟨xs', h1, h2, h3⟩ := xupQ_spec h
    refine ⟨_, h1, fun E as nw hn ha => ?_⟩
    have e : xqv (as ++ nw) xs' = xqv (xpm as pi ++ nw) xs := funext fun j => h3 as nw j hn ha
    show Sum.inl (xct E t, xs'.length, Sum.inr (Sum.inr (Sum.inr (Sum.inr (xqv (as ++ nw) xs'))))) = _
    rw [e, h2]
    rfl
  · next ci fs =>
    obtain ⟨fs', h1, h2⟩ := xupF_spec h
    exact ⟨_, h1, fun E as nw hn ha => congrArg (fun z : List Value => (Sum.inr (ci, z) : va_E)) (h2 E as nw hn ha)⟩
theorem xupL_spec {n : Nat} {pi : List Nat} : ∀ {r : xW} {k : xW → Prop}, xupL n pi r k → ∃ r' : xW, k r' ∧ r'.length = r.length ∧ ∀ (j : Nat) (c : xC), r[j]? = some c → ∃ c' : xC, r'[j]? = some c' ∧ xUp n pi c c'
  | [], k, h => ⟨[], h, rfl, fun j c e => by simp at e⟩
  | c :: r, k, h => by
    obtain ⟨c', h1, h2⟩ := xupC_spec h
    obtain ⟨r', h3, h4, h5⟩ := xupL_spec h1
    refine ⟨_, h3, by simp [h4], fun j d e => ?_⟩
    cases j with
    | zero =>
      simp only [List.getElem?_cons_zero, Option.some.injEq] at e
      subst e
      exact ⟨c', rfl, h2⟩
    | succ j =>
      rw [List.getElem?_cons_succ] at e ⊢
      exact h5 j d e
theorem xapp_spec {w2 : xW} : ∀ {w : xW} {k : xW → Prop}, xapp w w2 k → k (w ++ w2)
  | [], k, h => h
  | c :: w, k, h => xapp_spec (w := w) h
theorem xsc_spec {g : Bool} {n : Nat} {pi : List Nat} : ∀ {is : List Nat} {lw w : xW} {k : xW → Prop}, xsc g n pi is lw w k → is.Nodup → ∃ w2 ex : xW, k (w2 ++ ex) ∧ w2.length = w.length ∧ lw.length = is.length + ex.length ∧ (g = false → ex = []) ∧ (∀ (j i : Nat) (c : xC), is[j]? = some i → lw[j]? = some c → ∃ c' : xC, w2[i]? = some c' ∧ xUp n pi c c') ∧ (∀ i : Nat, i ∉ is → w2[i]? = w[i]?) ∧ ∀ (j : Nat) (c : xC), lw[is.length + j]? = some c → ∃ c' : xC, ex[j]? = some c' ∧ xUp n pi c c'
  | [], [], w, k, h, _ => ⟨w, [], by rw [List.append_nil]; exact h, rfl, rfl, fun _ => rfl, fun j i c e => by simp at e, fun _ _ => rfl, fun j c e => by simp at e⟩
  | [], c :: r, w, k, h, _ => by
    unfold xsc at h
    split at h
    · obtain ⟨r', h1, h2, h3⟩ := xupL_spec h
      refine ⟨w, r', xapp_spec h1, rfl, by rw [h2]; simp, fun z => by (cases z), fun j i c e => by simp at e, fun _ _ => rfl, fun j c e => ?_⟩
      rw [List.length_nil, Nat.zero_add] at e
      exact h3 j c e
    · exact h.elim
  | i :: is, [], w, k, h, _ => by unfold xsc at h; exact h.elim
  | i :: is, c :: r, w, k, h, hn => by
    unfold xsc at h
    obtain ⟨c', h1, h2⟩ := xupC_spec h
    obtain ⟨hi, h3⟩ := xwr_spec h1
    have hn := List.nodup_cons.mp hn
    obtain ⟨w2, ex, g1, g2, g3, g4, g5, g6, g7⟩ := xsc_spec h3 hn.2
    refine ⟨w2, ex, g1, by rw [g2, List.length_set], by simp only [List.length_cons, g3]; omega, g4, fun j i' d e1 e2 => ?_, fun i' hi' => ?_, fun j d e => ?_⟩
    · cases j with
      | zero =>
        simp only [List.getElem?_cons_zero, Option.some.injEq] at e1 e2
        subst e1
        subst e2
        exact ⟨c', by rw [g6 _ hn.1, List.getElem?_set_self hi], h2⟩
      | succ j =>
        rw [List.getElem?_cons_succ] at e1 e2
        exact g5 j i' d e1 e2
    · rw [g6 i' (fun z => hi' (List.mem_cons_of_mem _ z)), List.getElem?_set_ne (fun z => hi' (by rw [z]; exact List.mem_cons_self))]
    · rw [List.length_cons, show is.length + 1 + j = (is.length + j) + 1 by omega, List.getElem?_cons_succ] at e
      exact g7 j d e
theorem xrange_spec {L : Nat} : ∀ {n q : Nat} {acc : List Nat} {k : List Nat → Prop}, xrange n q L acc k → acc.Nodup → (∀ a ∈ acc, a < L) → ∃ pi, k pi ∧ pi.Nodup ∧ ∀ a ∈ pi, a < L
  | 0, q, acc, k, h, h1, h2 => ⟨acc, h, h1, h2⟩
  | n + 1, q, acc, k, h, h1, h2 => by
    unfold xrange at h
    split at h
    · exact xrange_spec h h1 h2
    · next e =>
      rw [Bool.or_eq_false_iff] at e
      refine xrange_spec h ?_ ?_
      · rw [List.nodup_append]
        refine ⟨h1, by simp, fun a ha b hb => ?_⟩
        simp only [List.mem_singleton] at hb
        subst hb
        intro z
        subst z
        have := e.2
        rw [List.any_eq_false] at this
        exact this a ha (by simp)
      · intro a ha
        rcases List.mem_append.mp ha with ha | ha
        · exact h2 a ha
        · simp only [List.mem_singleton] at ha
          subst ha
          exact Nat.not_le.mp fun z => by
            have := Nat.ble_eq_true_of_le z
            rw [this] at e
            simp at e
theorem xpi_spec {w : xW} : ∀ {av : List Value} {acc : List Nat} {k : List Nat → Prop}, xpi w av acc k → acc.Nodup → (∀ a ∈ acc, a < w.length) → ∃ pi, k pi ∧ pi.Nodup ∧ ∀ a ∈ pi, a < w.length
  | [], acc, k, h, h1, h2 => ⟨acc, h, h1, h2⟩
  | v :: r, acc, k, h, h1, h2 => by
    unfold xpi at h
    split at h
    · next e => cases e
    · next e =>
      cases e
      obtain ⟨c, hc, h3⟩ := xrd_spec h
      obtain ⟨p1, g1, g2, g3⟩ := xrange_spec h3 h1 h2
      exact xpi_spec (xnl_spec g1) g2 g3
    · next e =>
      cases e
      exact xpi_spec h h1 h2
end
section
/-! ===== calls by contract; a method's contract out of its run ===== -/
def xR (d mc ms : Nat) : Room := { frames := d + 1, cells := mc, slots := ms, locals := 60 * (d + 1) }
def xPre (E : xE) (as : List Nat) (w : xW) (sz : Nat) (U : State) : Prop := U.heap.size = sz ∧ as.length = w.length ∧ va_P E.1 vwCl (xG E as w) U.heap ∧ va_K E.1 vwCl (xtys E) U ∧ va_D (fun _ => True) (xG E as w) ∧ xStat E (va_A (xG E as w) sz) U U.heap
def xQ (E : xE) (as : List Nat) (K : xKo) (A : Nat → Prop) : Array Value → State → Outcome → State → Prop := fun _ st oc t =>
  (∃ (r : Option Value) (w' : xW) (nw : List Nat), oc = .returned (r.map (xcv E (as ++ nw))) ∧ K r w' ∧ (as ++ nw).length = w'.length ∧ va_P E.1 vwCl (xG E (as ++ nw) w') t.heap ∧ va_D A (xG E (as ++ nw) w')) ∧ va_F A st t
/-- a method's contract: what its condition says of its answer and its cells comes true -/
def xSnd (y : MethodName) (cc : ByteArray) (maxL : Nat) (rt : Option FieldType) (d mc ms : Nat) (C : xPT) : Prop := ∀ (l : Launch) (E : xE) (as : List Nat) (sz : Nat) (av : List Value) (w : xW) (K : xKo), C av w K →
  Met l y (.code y cc maxL rt :: xT) (xR d mc ms) (va_Pc (av.map (xcv E as)) (xPre E as w sz)) (xQ E as K (va_A (xG E as w) sz)) mc ms (va_A (xG E as w) sz)
theorem xT_good {w : Cond} (h : w ∈ xT) : (w.onTables && w.keeps) = true ∨ ∃ ty, w = .arrayClass ty := good_of_word (List.mem_filter.mp h).2
theorem x_good {ws : List Cond} (h : ∀ w ∈ ws, w ∈ xT) : GoodIn xT ws := fun w hw => ⟨h w hw, xT_good (h w hw)⟩
theorem xStat_kept {E : xE} {A : Nat → Prop} {U : State} {H H1 : Heap} (h : xStat E A U H) (hq : ∀ a : Nat, a < H.size → ¬ A a → H1[a]? = H[a]?) : xStat E A U H1 :=
  ⟨fun q hq' => (h.1 q hq').kept hq, h.2.1.kept hq, h.2.2.1.kept hq, h.2.2.2.1.kept hq, h.2.2.2.2⟩
theorem xStat_narrow {E : xE} {A B : Nat → Prop} {U : State} {H : Heap} (h : xStat E A U H) (hAB : ∀ q, B q → A q) : xStat E B U H :=
  ⟨fun q hq' => (h.1 q hq').narrow hAB, h.2.1.narrow hAB, h.2.2.1.narrow hAB, h.2.2.2.1.narrow hAB, h.2.2.2.2⟩
theorem xNest_warm {s U : State} (hW : s.WarmedH U.vm) (h : ∀ w ∈ xNest, va_Nw w s) : ∀ w ∈ xNest, va_Nw w U := by
  intro w hw
  have h1 := h w hw
  simp only [xNest, List.mem_cons, List.not_mem_nil, or_false] at hw
  rcases hw with rfl | rfl | rfl | rfl | rfl | rfl <;> exact va_Nw.warmM hW h1
theorem xStat_warm {E : xE} {A : Nat → Prop} {s U : State} {H : Heap} (hW : s.WarmedH U.vm) (h : xStat E A s H) : xStat E A U H :=
  ⟨fun q hq' => (h.1 q hq').moved hW.alike, h.2.1.moved hW.alike, h.2.2.1.moved hW.alike, h.2.2.2.1.moved hW.alike, xNest_warm hW h.2.2.2.2.1, h.2.2.2.2.2.1.moved hW.alike, h.2.2.2.2.2.2.moved hW.alike⟩
theorem xNest_same {u U : State} (e : u.vm = U.vm) (h : ∀ w ∈ xNest, va_Nw w u) : ∀ w ∈ xNest, va_Nw w U := by
  intro w hw
  have h1 := h w hw
  simp only [xNest, List.mem_cons, List.not_mem_nil, or_false] at hw
  rcases hw with rfl | rfl | rfl | rfl | rfl | rfl <;> exact va_Nw.same rfl e h1
theorem xStat_same {E : xE} {A : Nat → Prop} {u U : State} {H : Heap} (e : u.vm = U.vm) (h : xStat E A u H) : xStat E A U H := by
  have ha : u.vm.Alike U.vm := by rw [e]; exact Vm.Alike.refl _
  exact ⟨fun q hq' => (h.1 q hq').moved ha, h.2.1.moved ha, h.2.2.1.moved ha, h.2.2.2.1.moved ha, xNest_same e h.2.2.2.2.1, h.2.2.2.2.2.1.moved ha, h.2.2.2.2.2.2.moved ha⟩
theorem x_blind (E : xE) (as : List Nat) (w : xW) (sz : Nat) (av : List Value) : FrameBlind (va_Pc av (xPre E as w sz)) := by
  intro a U g mk h
  obtain ⟨h1, h2, h3, h4, h5, h6, h7⟩ := h
  exact ⟨h1, h2, h3, h4, va_K.moved (u := U) (U := U.calling g mk a) (Vm.Alike.refl U.vm) h5, h6, xStat_same (u := U) (U := U.calling g mk a) rfl h7⟩
theorem x_after {E : xE} {p : Program} {l : Launch} {en : Env} {R : Room} {s : State} {m : MethodId} {args : Array Value} {below : List Frame} {meth : Method} {c : Code} {H : Heap} {locs : List Loc} {k1 k2 mc ms pc : Nat} {Q : State → Prop} {la : Array Slot} {stk rest : List Value} {asc : List Nat} {K1 : xKo} {A A1 free : Nat → Prop} {a : Array Value}
    (hr : va_Run p l en R s m args below meth c H locs k1 k2 mc ms (F0 m pc la stk) rest (xQ E asc K1 A1 a) free) (hS : va_S A s.heap H locs) (hA : ∀ q, A1 q → A q) (hf : ∀ q, free q → A q)
    (kk : ∀ (r : Option Value) (w' : xW) (nw : List Nat) (H1 : Heap) (locs1 : List Loc), K1 r w' → (asc ++ nw).length = w'.length → va_P E.1 vwCl (xG E (asc ++ nw) w') H1 → va_D A1 (xG E (asc ++ nw) w') → H.size ≤ H1.size → (∀ q : Nat, q < H.size → ¬ A1 q → H1[q]? = H[q]?) → va_S A s.heap H1 locs1 → W p l en R s m args below meth c H1 locs1 (k1 + mc) (k2 + ms) Q (F0 m (pc + 3) la ((r.map (xcv E (asc ++ nw))).toList ++ rest))) :
    W p l en R s m args below meth c H locs k1 k2 Q (F0 m pc la stk) := by
  intro T hT X
  obtain ⟨v, st₀, t, T', L, h0, X', hL, e1, e2, ⟨⟨r, w', nw, hv, hk, hln, hp, hd⟩, hz, hkp⟩, st⟩ := hr T hT X
  cases hv
  rw [h0] at hz hkp
  obtain ⟨t2, a1, b1⟩ := kk r w' nw T'.heap (locs ++ L) hk hln (by rw [e1]; exact hp) hd (by rw [e1]; exact hz) (fun q h1 h2 => by rw [e1]; exact hkp q h1 h2)
    ⟨Nat.le_trans hS.1 (by rw [e1]; exact hz), fun q h1 h2 => by rw [e1, hkp q (Nat.lt_of_lt_of_le h1 hS.1) (fun z => h2 (hA q z))]; exact hS.2.1 q h1 h2, fun q hq => by
      rcases List.mem_append.mp hq with h | h
      · exact hS.2.2 q h
      · exact hf _ (hL q h)⟩ T' rfl X'
  exact ⟨t2, st t2 a1, b1⟩
def xrecv (rc : Option Nat) (av : List Value) (w : xW) : Prop := match rc with
  | none => True
  | some ci => ∃ (q : Nat) (vs fs : List Value), av = .ref q :: vs ∧ w[q]? = some (.inr (.inr (ci, fs)))
theorem xrck_spec {rc : Option Nat} {av : List Value} {w : xW} {k : Prop} (h : xrck rc av w k) : xrecv rc av w ∧ k := by
  unfold xrck at h
  split at h
  · exact ⟨trivial, h⟩
  · split at h
    · obtain ⟨c, hc, h1⟩ := xrd_spec h
      clear h
      split at h1
      · split at h1
        · next e =>
          have e := xbeq e
          subst e
          exact ⟨⟨_, _, _, rfl, hc⟩, h1⟩
        · exact h1.elim
      · exact h1.elim
    · exact h.elim
/-- a call of a method with the contract C -/
def xRunOk (E : xE) (R : Room) (own : String) (cc : ByteArray) (nL : Nat) (init : Bool) (pc : Nat) (rc : Option Nat) (n kc ks : Nat) (C : xPT) : Prop := ∀ (p : Program) (l : Launch) (en : Env) (s : State) (m : MethodId) (args : Array Value) (below : List Frame) (meth : Method) (c : Code) (A : Nat → Prop), xCtx E p s m args meth c cc own nL init A →
  ∀ (asc : List Nat) (lw : xW) (K1 : xKo) (avc : List Value) (H : Heap) (locs : List Loc) (k1 k2 : Nat) (la : Array Slot) (rest : List Value), C avc lw K1 → avc.length = n → asc.length = lw.length → va_P E.1 vwCl (xG E asc lw) H → va_D (fun _ => True) (xG E asc lw) → (∀ q, va_A (xG E asc lw) H.size q → A q) → va_S A s.heap H locs → la.size = nL → (rest.map fun v => v.category).sum ≤ 8 → k1 + kc ≤ R.cells → k2 + ks ≤ R.slots → xrecv rc avc lw →
  va_Run p l en R s m args below meth c H locs k1 k2 kc ks (F0 m pc la ((avc.map (xcv E asc)).reverse ++ rest)) rest (xQ E asc K1 (va_A (xG E asc lw) H.size) ((avc.map (xcv E asc)).toArray)) (va_A (xG E asc lw) H.size)
theorem x_pre {E : xE} {p : Program} {s : State} {m : MethodId} {args : Array Value} {meth : Method} {c : Code} {cc : ByteArray} {own : String} {nL : Nat} {init : Bool} {A : Nat → Prop} (X : xCtx E p s m args meth c cc own nL init A) {asc : List Nat} {lw : xW} {H : Heap} {locs : List Loc} (hl : asc.length = lw.length) (hP : va_P E.1 vwCl (xG E asc lw) H) (hD : va_D (fun _ => True) (xG E asc lw)) (hA : ∀ q, va_A (xG E asc lw) H.size q → A q) (hS : va_S A s.heap H locs) {U : State} (hU : U.heap = H) (hW : s.WarmedH U.vm) : xPre E asc lw H.size U := by
  refine ⟨by rw [hU], hl, by rw [hU]; exact hP, va_K.moved hW.alike X.2.2.2.2.2.1, hD, ?_⟩
  rw [hU]
  exact xStat_narrow (xStat_warm hW (xStat_kept X.2.2.2.2.2.2.1 hS.2.1)) hA
section RUN
variable {E : xE} {R : Room} {own : String} {cc : ByteArray} {nL : Nat} {init : Bool}
variable {y : MethodName} {cy : ByteArray} {maxL : Nat} {rt : Option FieldType} {d kc ks n idx : Nat} {C : xPT}
theorem run_V (pc : Nat) {C0 : String} {ci N : Nat} {T : u_T} (hSn : xSnd y cy maxL rt d kc ks C) (hc : vwCl[ci]? = some (C0, T, N)) (wm : Cond.methodLink own idx y ∈ xT) (wi : Cond.instanceMethod y ∈ xT) (wsl : Cond.selects C0 y y ∈ xT) (wn : Cond.initialized C0 ∈ xT) (wc : Cond.code y cy maxL rt ∈ xT) (hd : y.cls = C0 ∧ y.cls ≠ "java/lang/invoke/MethodHandle" ∧ y.cls ≠ "java/lang/invoke/VarHandle" ∧ (parseMethodDescriptor y.desc).map (fun d => d.parameters.length) = some n) (hR : d + 2 ≤ R.frames ∧ 8 + (maxL + 11) + 60 * (d + 1) ≤ R.locals) (hdg : decode cc pc = .ok (.invokevirtual idx, 3)) : xRunOk E R own cc nL init pc (some ci) (n + 1) kc ks C := by
  intro p l en s m args below meth c A X asc lw K1 avc H locs k1 k2 la rest hC hn hl hP hD hA hS hla hcat h1 h2 hrv
  obtain ⟨q, vs, fs, rfl, hq⟩ := hrv
  have e : ((Value.ref q :: vs).map (xcv E asc)).reverse ++ rest = (vs.map (xcv E asc)).reverse ++ .ref (asc.getD q 0) :: rest := by
    rw [List.map_cons, List.reverse_cons, List.append_assoc]
    rfl
  rw [e]
  have hrec := va_recv X.2.2.2.2.2.1 hP hc (xG_get (E := E) hl hq)
  exact va_runV (As := vs.map (xcv E asc)) (rest := rest) ⟨X.1, X.2.1, X.2.2.1, X.2.2.2.1, X.2.2.2.2.1⟩ (hSn l E asc H.size (.ref q :: vs) lw K1 hC) (cwV (C := C0) n X.2.2.2.2.1 (x_good (fun w hw => by
    simp only [wsV, List.mem_append, List.mem_cons, List.not_mem_nil, or_false] at hw
    rcases hw with (rfl | rfl | rfl | rfl) | rfl | hw
    · exact wm
    · exact wi
    · exact wsl
    · exact wn
    · exact wc
    · exact hw)) rfl rfl rfl hd ⟨hR.1, hR.2⟩) ⟨x_blind _ _ _ _ _, hrec, fun U hU hW => ⟨rfl, x_pre X hl hP hD hA hS hU hW⟩⟩ rfl (by rw [List.length_map]; simpa using hn) hla rfl (lv_room hcat) hdg ⟨h1, h2⟩
theorem run_S (pc : Nat) (hSn : xSnd y cy maxL rt d kc ks C) (wm : Cond.methodLink own idx y ∈ xT) (wi : Cond.static y ∈ xT) (wn : Cond.initialized y.cls ∈ xT) (wc : Cond.code y cy maxL rt ∈ xT) (hd : y.cls ≠ "java/lang/invoke/MethodHandle" ∧ y.cls ≠ "java/lang/invoke/VarHandle" ∧ (parseMethodDescriptor y.desc).map (fun d => d.parameters.length) = some n) (hR : d + 2 ≤ R.frames ∧ 8 + (maxL + 11) + 60 * (d + 1) ≤ R.locals) (hdg : decode cc pc = .ok (.invokestatic idx, 3)) : xRunOk E R own cc nL init pc none n kc ks C := by
  intro p l en s m args below meth c A X asc lw K1 avc H locs k1 k2 la rest hC hn hl hP hD hA hS hla hcat h1 h2 hrv
  exact va_runS (As := avc.map (xcv E asc)) (rest := rest) ⟨X.1, X.2.1, X.2.2.1, X.2.2.2.1, X.2.2.2.2.1⟩ (hSn l E asc H.size avc lw K1 hC) (va_cwS n X.2.2.2.2.1 (x_good (fun w hw => by
    simp only [va_wsS, List.mem_append, List.mem_cons, List.not_mem_nil, or_false] at hw
    rcases hw with (rfl | rfl | rfl) | rfl | hw
    · exact wm
    · exact wi
    · exact wn
    · exact wc
    · exact hw)) rfl rfl rfl hd ⟨hR.1, hR.2⟩) ⟨x_blind _ _ _ _ _, fun U hU hW => ⟨rfl, x_pre X hl hP hD hA hS hU hW⟩⟩ rfl (by rw [List.length_map]; exact hn) hla rfl (lv_room hcat) hdg ⟨h1, h2⟩
theorem run_N (pc : Nat) {host : String} (hSn : xSnd y cy maxL rt d kc ks C) (wm : Cond.methodLinkNest own idx y host ∈ xNest) (wi : Cond.static y ∈ xT) (wn : Cond.initialized y.cls ∈ xT) (wc : Cond.code y cy maxL rt ∈ xT) (hd : y.cls ≠ "java/lang/invoke/MethodHandle" ∧ y.cls ≠ "java/lang/invoke/VarHandle" ∧ (parseMethodDescriptor y.desc).map (fun d => d.parameters.length) = some n) (hR : d + 2 ≤ R.frames ∧ 8 + (maxL + 11) + 60 * (d + 1) ≤ R.locals) (hdg : decode cc pc = .ok (.invokestatic idx, 3)) : xRunOk E R own cc nL init pc none n kc ks C := by
  intro p l en s m args below meth c A X asc lw K1 avc H locs k1 k2 la rest hC hn hl hP hD hA hS hla hcat h1 h2 hrv
  exact va_runSN (As := avc.map (xcv E asc)) (rest := rest) ⟨X.1, X.2.1, X.2.2.1, X.2.2.2.1, X.2.2.2.2.1⟩ (hSn l E asc H.size avc lw K1 hC) ⟨va_cnB n X.2.2.2.2.1 (x_good (fun w hw => by
    rcases List.mem_cons.mp hw with rfl | hw
    · exact wc
    · exact hw)) rfl rfl rfl (X.2.2.2.2.2.2.1.2.2.2.2.1 _ wm) (X.2.2.2.2.1 _ wn) hd ⟨hR.1, hR.2⟩, X.2.2.2.2.1 _ wi, trivial⟩ ⟨x_blind _ _ _ _ _, fun U hU hW => ⟨rfl, x_pre X hl hP hD hA hS hU hW⟩⟩ rfl (by rw [List.length_map]; exact hn) hla rfl (lv_room hcat) hdg ⟨h1, h2⟩
theorem run_I (pc : Nat) {host : String} (hSn : xSnd y cy maxL none d kc ks C) {ci : Nat} (hy1 : y.name = "<init>") (wm : Cond.methodLinkNest own idx y host ∈ xNest) (wi : Cond.instanceMethod y ∈ xT) (wn : Cond.initialized y.cls ∈ xT) (wc : Cond.code y cy maxL none ∈ xT) (hd : y.cls ≠ "java/lang/invoke/MethodHandle" ∧ y.cls ≠ "java/lang/invoke/VarHandle" ∧ (parseMethodDescriptor y.desc).map (fun d => d.parameters.length) = some n) (hR : d + 2 ≤ R.frames ∧ 8 + (maxL + 11) + 60 * (d + 1) ≤ R.locals) (hdg : decode cc pc = .ok (.invokespecial idx, 3)) : xRunOk E R own cc nL init pc (some ci) (n + 1) kc ks C := by
  intro p l en s m args below meth c A X asc lw K1 avc H locs k1 k2 la rest hC hn hl hP hD hA hS hla hcat h1 h2 hrv
  obtain ⟨q, vs, fs, rfl, hq⟩ := hrv
  have e : ((Value.ref q :: vs).map (xcv E asc)).reverse ++ rest = (vs.map (xcv E asc)).reverse ++ .ref (asc.getD q 0) :: rest := by
    rw [List.map_cons, List.reverse_cons, List.append_assoc]
    rfl
  rw [e]
  exact va_runIN (As := vs.map (xcv E asc)) (rest := rest) ⟨X.1, X.2.1, X.2.2.1, X.2.2.2.1, X.2.2.2.2.1⟩ (hSn l E asc H.size (.ref q :: vs) lw K1 hC) ⟨va_cnB n X.2.2.2.2.1 (x_good (fun w hw => by
    rcases List.mem_cons.mp hw with rfl | hw
    · exact wc
    · exact hw)) rfl rfl rfl (X.2.2.2.2.2.2.1.2.2.2.2.1 _ wm) (X.2.2.2.2.1 _ wn) hd ⟨hR.1, hR.2⟩, hy1, X.2.2.2.2.1 _ wi⟩ ⟨x_blind _ _ _ _ _, fun U hU hW => ⟨rfl, x_pre X hl hP hD hA hS hU hW⟩⟩ rfl (by rw [List.length_map]; simpa using hn) hla rfl (lv_room hcat) hdg ⟨h1, h2⟩
theorem run_P (pc : Nat) (hSn : xSnd y cy maxL none d kc ks C) {ci : Nat} (hy1 : y.name = "<init>") (wm : Cond.methodLink own idx y ∈ xT) (wi : Cond.instanceMethod y ∈ xT) (wn : Cond.initialized y.cls ∈ xT) (wc : Cond.code y cy maxL none ∈ xT) (hd : y.cls ≠ "java/lang/invoke/MethodHandle" ∧ y.cls ≠ "java/lang/invoke/VarHandle" ∧ (parseMethodDescriptor y.desc).map (fun d => d.parameters.length) = some n) (hR : d + 2 ≤ R.frames ∧ 8 + (maxL + 11) + 60 * (d + 1) ≤ R.locals) (hdg : decode cc pc = .ok (.invokespecial idx, 3)) : xRunOk E R own cc nL init pc (some ci) (n + 1) kc ks C := by
  intro p l en s m args below meth c A X asc lw K1 avc H locs k1 k2 la rest hC hn hl hP hD hA hS hla hcat h1 h2 hrv
  obtain ⟨q, vs, fs, rfl, hq⟩ := hrv
  have e : ((Value.ref q :: vs).map (xcv E asc)).reverse ++ rest = (vs.map (xcv E asc)).reverse ++ .ref (asc.getD q 0) :: rest := by
    rw [List.map_cons, List.reverse_cons, List.append_assoc]
    rfl
  rw [e]
  exact va_runI (As := vs.map (xcv E asc)) (rest := rest) ⟨X.1, X.2.1, X.2.2.1, X.2.2.2.1, X.2.2.2.2.1⟩ (hSn l E asc H.size (.ref q :: vs) lw K1 hC) (cwI n X.2.2.2.2.1 (x_good (fun w hw => by
    rcases List.mem_cons.mp hw with rfl | hw
    · exact wc
    · exact hw)) rfl rfl rfl (X.2.2.2.2.1 _ wn) (X.2.2.2.2.1 _ wm) (X.2.2.2.2.1 _ wi) hy1 hd ⟨hR.1, hR.2⟩) ⟨x_blind _ _ _ _ _, fun U hU hW => ⟨rfl, x_pre X hl hP hD hA hS hU hW⟩⟩ rfl (by rw [List.length_map]; simpa using hn) hla rfl (lv_room hcat) hdg ⟨h1, h2⟩
end RUN
end
section
/-! ===== a call in a run; the whole method ===== -/
theorem xokF_app {n : Nat} : ∀ {a b : List Value}, xokF n (a ++ b) = true → xokF n b = true
  | [], b, h => h
  | v :: a, b, h => by
    rw [List.cons_append] at h
    unfold xokF at h
    rw [Bool.and_eq_true] at h
    exact xokF_app h.2
section CORE
variable {E : xE} {R : Room} {own : String} {cc : ByteArray} {nL : Nat} {rt : Option FieldType} {init : Bool}
theorem x_sub {as pi : List Nat} {w lw : xW} (hlen : as.length = w.length) (hl : lw.length = pi.length) (hg : ∀ (j i : Nat), pi[j]? = some i → ∃ c c' : xC, w[i]? = some c ∧ lw[j]? = some c' ∧ ∀ (E : xE) (as : List Nat), xce E (xpm as pi) c' = xce E as c) {j : Nat} {x : Nat × va_E} (h : (xG E (xpm as pi) lw)[j]? = some x) : ∃ i, pi[j]? = some i ∧ (xG E as w)[i]? = some x := by
  obtain ⟨c', h1, h2, h3⟩ := xG_at h
  have hj : j < pi.length := by rw [← hl]; exact (List.getElem?_eq_some_iff.mp h1).1
  have hi := List.getElem?_eq_getElem hj
  obtain ⟨c, c2, g1, g2, g3⟩ := hg j _ hi
  cases g2.symm.trans h1
  exact ⟨_, hi, by rw [h3, xG_get hlen g1, g3, xpm_get hi]⟩
theorem x_nodup {l : List Nat} (h : l.Nodup) {i j a : Nat} (h1 : l[i]? = some a) (h2 : l[j]? = some a) : i = j := by
  obtain ⟨hi, e1⟩ := List.getElem?_eq_some_iff.mp h1
  obtain ⟨hj, e2⟩ := List.getElem?_eq_some_iff.mp h2
  exact (List.getElem_inj (xs := l) h).mp (e1.trans e2.symm)
/-- what a callee left, in its caller's world -/
theorem x_back {A : Nat → Prop} {H H1 : Heap} {as nw pi : List Nat} {w lw lw' w2 ex : xW} (hlen : as.length = w.length) (hl : lw.length = pi.length) (hnd : pi.Nodup) (hpl : ∀ a ∈ pi, a < w.length)
    (hg : ∀ (j i : Nat), pi[j]? = some i → ∃ c c' : xC, w[i]? = some c ∧ lw[j]? = some c' ∧ ∀ (E : xE) (as : List Nat), xce E (xpm as pi) c' = xce E as c)
    (hP : va_P E.1 vwCl (xG E as w) H) (hD : va_D A (xG E as w)) (hA : ∀ q, va_A (xG E (xpm as pi) lw) H.size q → A q)
    (hl' : (xpm as pi ++ nw).length = lw'.length) (hP1 : va_P E.1 vwCl (xG E (xpm as pi ++ nw) lw') H1) (hD1 : va_D (va_A (xG E (xpm as pi) lw) H.size) (xG E (xpm as pi ++ nw) lw')) (hk : ∀ q : Nat, q < H.size → ¬ va_A (xG E (xpm as pi) lw) H.size q → H1[q]? = H[q]?)
    (h2 : w2.length = w.length) (h3 : lw'.length = pi.length + ex.length) (s1 : ∀ (j i : Nat) (c : xC), pi[j]? = some i → lw'[j]? = some c → ∃ c' : xC, w2[i]? = some c' ∧ xUp w.length pi c c') (s2 : ∀ i : Nat, i ∉ pi → w2[i]? = w[i]?) (s3 : ∀ (j : Nat) (c : xC), lw'[pi.length + j]? = some c → ∃ c' : xC, ex[j]? = some c' ∧ xUp w.length pi c c')
    (hF : ∀ (k : Nat) (c : xC), w[k]? = some c → xce E (as ++ nw) c = xce E as c) :
    (as ++ nw).length = (w2 ++ ex).length ∧ va_P E.1 vwCl (xG E (as ++ nw) (w2 ++ ex)) H1 ∧ va_D A (xG E (as ++ nw) (w2 ++ ex)) := by
  have hpm : (xpm as pi).length = pi.length := List.length_map _
  have hnw : nw.length = ex.length := by
    rw [List.length_append, hpm, h3] at hl'
    omega
  have hlen2 : (as ++ nw).length = (w2 ++ ex).length := by rw [List.length_append, List.length_append, hlen, h2, hnw]
  -- an old place apart from the callee's is not the callee's to write
  have apart : ∀ (k : Nat) (x : Nat × va_E), (xG E as w)[k]? = some x → k ∉ pi → x.1 < H.size ∧ ¬ va_A (xG E (xpm as pi) lw) H.size x.1 := by
    intro k x hx hk'
    have hlt := (hP k x hx).lt
    refine ⟨hlt, fun z => ?_⟩
    rcases z with ⟨j, e, z⟩ | z
    · obtain ⟨i, g1, g2⟩ := x_sub hlen hl hg z
      have := hD.1 k i x _ hx g2 rfl
      subst this
      exact hk' (List.mem_of_getElem? g1)
    · omega
  -- each cell of the new world: one of the callee's, or an old one
  have key : ∀ (k : Nat) (x : Nat × va_E), (xG E (as ++ nw) (w2 ++ ex))[k]? = some x → (∃ j, (xG E (xpm as pi ++ nw) lw')[j]? = some x ∧ ((pi[j]? = some k ∧ k < w.length) ∨ (j = pi.length + (k - w.length) ∧ w.length ≤ k))) ∨ (k < w.length ∧ k ∉ pi ∧ (xG E as w)[k]? = some x) := by
    intro k x hx
    obtain ⟨c, g1, g2, g3⟩ := xG_at hx
    by_cases hkw : k < w.length
    · have g1' : w2[k]? = some c := by rw [List.getElem?_append_left (by omega)] at g1; exact g1
      have ga : (as ++ nw).getD k 0 = as.getD k 0 := x_gd (by omega)
      by_cases hp : k ∈ pi
      · obtain ⟨j, hj⟩ := List.getElem?_of_mem hp
        have hjl : j < lw'.length := by
          have := (List.getElem?_eq_some_iff.mp hj).1
          omega
        have e1 := List.getElem?_eq_getElem hjl
        obtain ⟨c', e2, e3⟩ := s1 j k _ hj e1
        cases e2.symm.trans g1'
        refine Or.inl ⟨j, ?_, Or.inl ⟨hj, hkw⟩⟩
        rw [xG_get hl' e1, g3, ga, x_gd (by rw [hpm]; exact (List.getElem?_eq_some_iff.mp hj).1), xpm_get hj, e3 E as nw hlen hpl]
      · have g1'' : w[k]? = some c := by rw [← s2 k hp]; exact g1'
        refine Or.inr ⟨hkw, hp, ?_⟩
        rw [xG_get hlen g1'', g3, ga, hF k c g1'']
    · have g1' : ex[k - w.length]? = some c := by rw [List.getElem?_append_right (by omega), h2] at g1; exact g1
      have hjl : pi.length + (k - w.length) < lw'.length := by
        have := (List.getElem?_eq_some_iff.mp g1').1
        omega
      have e1 := List.getElem?_eq_getElem hjl
      obtain ⟨c', e2, e3⟩ := s3 _ _ e1
      cases e2.symm.trans g1'
      refine Or.inl ⟨_, ?_, Or.inr ⟨rfl, by omega⟩⟩
      rw [xG_get hl' e1, g3, e3 E as nw hlen hpl]
      have f1 : (as ++ nw).getD k 0 = nw.getD (k - w.length) 0 := by
        rw [List.getD_eq_getElem?_getD, List.getElem?_append_right (by omega), hlen, List.getD_eq_getElem?_getD]
      have f2 : (xpm as pi ++ nw).getD (pi.length + (k - w.length)) 0 = nw.getD (k - w.length) 0 := by
        rw [List.getD_eq_getElem?_getD, List.getElem?_append_right (by omega), hpm, Nat.add_sub_cancel_left, List.getD_eq_getElem?_getD]
      rw [f1, f2]
  refine ⟨hlen2, fun k x hx => ?_, fun i j x y hi hj hxy => ?_, fun k x hx => ?_⟩
  · rcases key k x hx with ⟨j, h, -⟩ | ⟨h1, h2, h⟩
    · exact hP1 j x h
    · exact (hP k x h).kept (hk x.1 (apart k x h h2).1 (apart k x h h2).2)
  · rcases key i x hi with ⟨a, h, hc⟩ | ⟨h1, h2, h⟩ <;> rcases key j y hj with ⟨b, g, hd⟩ | ⟨g1, g2, g⟩
    · have hab := hD1.1 a b x y h g hxy
      subst hab
      rcases hc with ⟨c1, c2⟩ | ⟨c1, c2⟩ <;> rcases hd with ⟨d1, d2⟩ | ⟨d1, d2⟩
      · exact Option.some.inj (c1.symm.trans d1)
      · have := (List.getElem?_eq_some_iff.mp c1).1
        omega
      · have := (List.getElem?_eq_some_iff.mp d1).1
        omega
      · omega
    · exact absurd (hxy ▸ hD1.2 a x h) (apart j y g g2).2
    · exact absurd (hxy ▸ hD1.2 b y g) (hxy ▸ (apart i x h h2).2)
    · exact hD.1 i j x y h g hxy
  · rcases key k x hx with ⟨j, h, -⟩ | ⟨h1, h2, h⟩
    · exact hA _ (hD1.2 j x h)
    · exact hD.2 k x h
theorem ok_core (pc : Nat) {instr : Instr} {g : Bool} {MC MS kc ks n : Nat} {rc : Option Nat} {C : xPT} (hrun : decode cc pc = .ok (instr, 3) → xRunOk E R own cc nL init pc rc n kc ks C) (hR : MC ≤ R.cells ∧ MS ≤ R.slots) : xOk E R own cc nL rt init (pc, instr, 3, xs_call g MC MS kc ks rc n C) := by
  intro hd p l en s m args below meth c Q A as0 K X hR' ls st w b go h k
  unfold xs_call at h
  dsimp only at h
  obtain ⟨vs, st', hst, hn, h⟩ := xpop_spec h
  rw [List.append_nil] at h
  split at h
  · next e =>
    rw [Bool.and_eq_true] at e
    obtain ⟨e1, e2⟩ := e
    have e1 := x_beqT e1
    obtain ⟨hb1, hb2, h⟩ := xbud_spec h
    obtain ⟨hrv, h⟩ := xrck_spec h
    obtain ⟨pi, h, hnd, hpl⟩ := xpi_spec h List.nodup_nil (fun a ha => by cases ha)
    have hrl : vs.reverse.length = n := by rw [List.length_reverse]; exact hn
    split at h
    · -- the callee's world is the caller's
      have h := h C rfl
      intro nw H locs la hbb hlen hP hD hS hl
      have hst2 : st.map (xcv E (as0 ++ nw)) = ((vs.reverse).map (xcv E (as0 ++ nw))).reverse ++ st'.map (xcv E (as0 ++ nw)) := by
        rw [hst, List.map_append, List.map_reverse, List.reverse_reverse]
      rw [hst2]
      have hA1 : ∀ q, va_A (xG E (as0 ++ nw) w) H.size q → A q := by
        intro q hq
        rcases hq with ⟨j, x, hq⟩ | hq
        · exact hD.2 j _ hq
        · exact X.2.2.2.2.2.2.2.1 q (Nat.le_trans hS.1 hq)
      refine x_after (hrun hd p l en s m args below meth c A X (as0 ++ nw) w _ vs.reverse H locs b.1 b.2 la (st'.map (xcv E (as0 ++ nw))) h hrl hlen hP (hD.weaken fun _ _ _ _ => trivial) hA1 hS hl.1 (by rw [x_sum]; exact e1) (by omega) (by omega) hrv) hS hA1 hA1 ?_
      intro r w' nw2 H1 locs1 hK hln hP1 hD1 hz hk1 hS1
      split at hK
      · next e3 =>
        have e3 := xbeq e3
        have hnil : nw2 = [] := by
          rw [List.length_append] at hln
          exact List.length_eq_zero_iff.mp (by omega)
        subst hnil
        rw [List.append_nil] at hln hP1 hD1 ⊢
        have hD2 : va_D A (xG E (as0 ++ nw) w') := hD1.weaken fun _ _ _ hq => hA1 _ hq
        cases r with
        | none => exact k none _ _ _ _ hK nw H1 locs1 la ⟨by omega, by omega⟩ hln hP1 hD2 hS1 hl
        | some v => exact k none _ _ _ _ hK nw H1 locs1 la ⟨by omega, by omega⟩ hln hP1 hD2 hS1 hl
      · exact hK.elim
    · obtain ⟨av', h, hal, hav, hah⟩ := xdnF_spec h
      obtain ⟨lw, h, hll, hlg⟩ := xga_spec h
      have h := h C rfl
      intro nw H locs la hbb hlen hP hD hS hl
      have hst2 : st.map (xcv E (as0 ++ nw)) = (av'.map (xcv E (xpm (as0 ++ nw) pi))).reverse ++ st'.map (xcv E (as0 ++ nw)) := by
        rw [hst, List.map_append, hav, List.map_reverse, List.reverse_reverse]
      rw [hst2]
      have hsub := fun j x (hx : (xG E (xpm (as0 ++ nw) pi) lw)[j]? = some x) => x_sub (E := E) hlen hll hlg hx
      have hA1 : ∀ q, va_A (xG E (xpm (as0 ++ nw) pi) lw) H.size q → A q := by
        intro q hq
        rcases hq with ⟨j, x, hq⟩ | hq
        · obtain ⟨i, -, hi⟩ := hsub j _ hq
          exact hD.2 i _ hi
        · exact X.2.2.2.2.2.2.2.1 q (Nat.le_trans hS.1 hq)
      have hPc : va_P E.1 vwCl (xG E (xpm (as0 ++ nw) pi) lw) H := fun j x hx => by
        obtain ⟨i, -, hi⟩ := hsub j x hx
        exact hP i x hi
      have hDc : va_D (fun _ => True) (xG E (xpm (as0 ++ nw) pi) lw) := ⟨fun i j x y hx hy hxy => by
        obtain ⟨i1, g1, g2⟩ := hsub i x hx
        obtain ⟨j1, g3, g4⟩ := hsub j y hy
        have := hD.1 i1 j1 x y g2 g4 hxy
        subst this
        exact x_nodup hnd g1 g3, fun _ _ _ => trivial⟩
      have hrv' : xrecv rc av' lw := by
        cases rc with
        | none => trivial
        | some ci =>
          obtain ⟨q, vs2, fs, hq1, hq2⟩ := hrv
          obtain ⟨j, r', hj1, hj2⟩ := hah q vs2 hq1
          obtain ⟨c1, c2, g1, g2, g3⟩ := hlg j q hj2
          cases g1.symm.trans hq2
          have g4 := g3 E (as0 ++ nw)
          match c2, g2, g4 with
          | .inl a, _, g4 => cases g4
          | .inr (.inl (t, xs)), _, g4 => cases g4
          | .inr (.inr (cj, fs2)), g2, g4 =>
            have : cj = ci := congrArg (fun z : va_E => match z with | .inl _ => 0 | .inr o => o.1) g4
            subst this
            exact ⟨j, r', fs2, hj1, g2⟩
      refine x_after (hrun hd p l en s m args below meth c A X (xpm (as0 ++ nw) pi) lw _ av' H locs b.1 b.2 la (st'.map (xcv E (as0 ++ nw))) h (by rw [hal]; exact hrl) (by rw [hll]; exact List.length_map _) hPc hDc hA1 hS hl.1 (by rw [x_sum]; exact e1) (by omega) (by omega) hrv') hS hA1 hA1 ?_
      intro r lw' nw2 H1 locs1 hK hln hP1 hD1 hz hk1 hS1
      obtain ⟨w2, ex, hK, q2, q3, qg, q5, q6, q7⟩ := xsc_spec hK hnd
      have hpm : (xpm (as0 ++ nw) pi).length = pi.length := List.length_map _
      have hF : (∀ (k : Nat) (c : xC), w[k]? = some c → xce E ((as0 ++ nw) ++ nw2) c = xce E (as0 ++ nw) c) ∧ xlv E ((as0 ++ nw) ++ nw2) ls = xlv E (as0 ++ nw) ls ∧ st'.map (xcv E ((as0 ++ nw) ++ nw2)) = st'.map (xcv E (as0 ++ nw)) := by
        cases g with
        | false =>
          have : ex = [] := qg rfl
          subst this
          have : nw2 = [] := by
            rw [List.length_append, hpm, q3, List.length_nil] at hln
            exact List.length_eq_zero_iff.mp (by omega)
          subst this
          rw [List.append_nil]
          exact ⟨fun _ _ _ => rfl, rfl, rfl⟩
        | true =>
          have e2 : xok ls (vs.reverse ++ st') w = true := e2
          obtain ⟨o1, o2, o3⟩ := xok_spec e2
          exact ⟨fun k c hc => xce_app (Nat.le_of_eq hlen.symm) (xokW_get o3 hc), xlv_app (Nat.le_of_eq hlen.symm) o1, xcvF_app (Nat.le_of_eq hlen.symm) (xokF_app o2)⟩
      obtain ⟨b1, b2, b3⟩ := x_back hlen hll hnd hpl hlg hP hD hA1 hln hP1 hD1 hk1 q2 q3 q5 q6 q7 hF.1
      have e4 : as0 ++ (nw ++ nw2) = (as0 ++ nw) ++ nw2 := (List.append_assoc _ _ _).symm
      have hl2 : lv_has la nL (xlv E (as0 ++ (nw ++ nw2)) ls) := by rw [e4, hF.2.1]; exact hl
      cases r with
      | none =>
        have := k none _ _ _ _ hK (nw ++ nw2) H1 locs1 la ⟨by omega, by omega⟩ (by rw [e4]; exact b1) (by rw [e4]; exact b2) (by rw [e4]; exact b3) hS1 hl2
        rw [e4, hF.2.2] at this
        exact this
      | some v =>
        unfold xret at hK
        obtain ⟨v', hK, hv⟩ := xupV_spec hK
        have := k none _ _ _ _ hK (nw ++ nw2) H1 locs1 la ⟨by omega, by omega⟩ (by rw [e4]; exact b1) (by rw [e4]; exact b2) (by rw [e4]; exact b3) hS1 hl2
        rw [List.map_cons, e4, hF.2.2, hv E (as0 ++ nw) nw2 hlen hpl] at this
        exact this
  · exact h.elim
end CORE
def xchain : List xEl → Bool
  | [] => true
  | [_] => true
  | e :: e' :: r => Nat.beq e'.1 (e.1 + e.2.2.1) && xchain (e' :: r)
theorem xchain_at : ∀ {pre : List xEl} {e e' : xEl} {r : List xEl}, xchain (pre ++ e :: e' :: r) = true → e'.1 = e.1 + e.2.2.1
  | [], e, e', r, h => by
    rw [List.nil_append] at h
    unfold xchain at h
    rw [Bool.and_eq_true] at h
    exact xbeq h.1
  | [a], e, e', r, h => by
    have h : xchain (a :: e :: e' :: r) = true := h
    unfold xchain at h
    rw [Bool.and_eq_true] at h
    exact xchain_at (pre := []) h.2
  | a :: b :: pre, e, e', r, h => by
    have h : xchain (a :: b :: (pre ++ e :: e' :: r)) = true := h
    unfold xchain at h
    rw [Bool.and_eq_true] at h
    exact xchain_at (pre := b :: pre) h.2
theorem xseek_spec {t : Nat} : ∀ {prog : List xEl}, xseek prog t = [] ∨ ∃ pre e r, prog = pre ++ e :: r ∧ xseek prog t = e :: r ∧ e.1 = t
  | [] => Or.inl rfl
  | a :: prog => by
    unfold xseek
    split
    · next e => exact Or.inr ⟨[], a, prog, rfl, rfl, xbeq e⟩
    · rcases xseek_spec (prog := prog) (t := t) with h | ⟨pre, e, r, h1, h2, h3⟩
      · exact Or.inl h
      · exact Or.inr ⟨a :: pre, e, r, by rw [h1]; rfl, h2, h3⟩
section MAST
variable {E : xE} {R : Room} {own : String} {cc : ByteArray} {nL : Nat} {rt : Option FieldType} {init : Bool}
theorem xWat_weak {p : Program} {l : Launch} {en : Env} {s : State} {m : MethodId} {args : Array Value} {below : List Frame} {meth : Method} {c : Code} {Q : State → Prop} {A : Nat → Prop} {as0 : List Nat} {pc : Nat} {ls ls' : xL} {st : List Value} {w : xW} {b : xB} (h : xWat E R p l en s m args below meth c Q A as0 nL pc ls' st w b) (hs : ∀ q ∈ ls', q ∈ ls) : xWat E R p l en s m args below meth c Q A as0 nL pc ls st w b := by
  intro nw H locs la hbb hlen hP hD hS hl
  refine h nw H locs la hbb hlen hP hD hS (lv_has_sub hl fun q hq => ?_)
  obtain ⟨x, hx, rfl⟩ := List.mem_map.mp hq
  exact List.mem_map.mpr ⟨x, hs x hx, rfl⟩
theorem xrun_sound {prog : List xEl} (hdec : ∀ e ∈ prog, decode cc e.1 = .ok (e.2.1, e.2.2.1)) (hch : xchain prog = true) (hok : ∀ e ∈ prog, xOk E R own cc nL rt init e) {p : Program} {l : Launch} {en : Env} {s : State} {m : MethodId} {args : Array Value} {below : List Frame} {meth : Method} {c : Code} {Q : State → Prop} {A : Nat → Prop} {as0 : List Nat} {K : xKo} {cuts : List (Nat × List Nat)}
    (X : xCtx E p s m args meth c cc own nL init A) (hR : xRet (xWat E R p l en s m args below meth c Q A as0 nL) cc rt K) : ∀ (n : Nat) (pre : List xEl) (e : xEl) (r : List xEl) (ls : xL) (st : List Value) (w : xW) (b : xB), prog = pre ++ e :: r → xrun prog cuts (xWat E R p l en s m args below meth c Q A as0 nL) K n (e :: r) ls st w b → xWat E R p l en s m args below meth c Q A as0 nL e.1 ls st w b
  | 0, _, _, _, _, _, _, _, _, h => by unfold xrun at h; exact h.elim
  | n + 1, pre, e, r, ls, st, w, b, hp, h => by
    unfold xrun at h
    have hm : e ∈ prog := by rw [hp]; simp
    refine hok e hm (hdec e hm) p l en s m args below meth c Q A as0 K X hR ls st w b _ h (fun t ls' st' w' b' hgo => ?_)
    cases t with
    | none =>
      cases r with
      | nil => exact hgo.elim
      | cons e' r' =>
        have he : e'.1 = e.1 + e.2.2.1 := xchain_at (pre := pre) (by rw [← hp]; exact hch)
        show xWat E R p l en s m args below meth c Q A as0 nL (e.1 + e.2.2.1) ls' st' w' b'
        rw [← he]
        dsimp only at hgo
        split at hgo
        · obtain ⟨l1, h1, h2⟩ := xkeep_spec hgo
          exact xWat_weak h1 h2
        · exact xrun_sound hdec hch hok X hR n (pre ++ [e]) e' r' ls' st' w' b' (by rw [hp]; simp) hgo
    | some t =>
      dsimp only at hgo
      show xWat E R p l en s m args below meth c Q A as0 nL t ls' st' w' b'
      rcases xseek_spec (prog := prog) (t := t) with hs | ⟨pre2, e2, r2, h1, h2, h3⟩
      · rw [hs] at hgo
        exact hgo.elim
      · rw [h2] at hgo
        rw [← h3]
        dsimp only at hgo
        split at hgo
        · obtain ⟨l1, h4, h5⟩ := xkeep_spec hgo
          exact xWat_weak h4 h5
        · exact xrun_sound hdec hch hok X hR n pre2 e2 r2 ls' st' w' b' h1 hgo
end MAST
theorem x_lgl {E : xE} {as : List Nat} (av : List Value) : (lg_sl (av.map (xcv E as))).length = (lg_sl av).length := by
  induction av with
  | nil => rfl
  | cons v r ih =>
    unfold lg_sl at ih ⊢
    rw [List.map_cons, List.flatMap_cons, List.flatMap_cons, List.length_append, List.length_append, ih]
    congr 1
    simp only [xcv_cat]
    split <;> rfl
theorem x_lva {E : xE} {as : List Nat} : ∀ (i : Nat) (av : List Value), lv_args i (av.map (xcv E as)) = xlv E as (lv_args i av)
  | _, [] => rfl
  | i, v :: r => by
    rw [List.map_cons]
    unfold lv_args
    rw [xcv_cat, x_lva _ r]
    rfl
theorem x_metW {l : Launch} {y : MethodName} {ws ws' : List Cond} {rm : Room} {Pc : Array Value → State → Prop} {Qc : Array Value → State → Outcome → State → Prop} {mc ms : Nat} {free : Addr → Prop} {cc : ByteArray} {maxL : Nat} {ret : Option FieldType}
    (hy : (plainName y.cls || plainFor y) = true) (hw : ws = Cond.code y cc maxL ret :: ws')
    (body : ∀ p e s m args below meth c s₁, BodyLoose p l y (headSpec ws rm) cc maxL ret e s m args below meth c s₁ → c.maxLocals = maxL → Pc args s →
      W p l e (headSpec ws rm).room s m args below meth c s.heap [] 0 0 (MQ below Qc args s mc ms free) (entryFrame m args maxL)) : Met l y ws rm Pc Qc mc ms free := by
  rw [Bool.or_eq_true] at hy
  rcases hy with hy | hy
  · exact Met.ofW hy hw body
  · exact va_MetF hy hw body
theorem xSnd_of {y : MethodName} {cc : ByteArray} {maxL d mc ms : Nat} {rt : Option FieldType} {init : Bool} {prog : List xEl} (hy : (plainName y.cls || plainFor y) = true) (hdec : ∀ e ∈ prog, decode cc e.1 = .ok (e.2.1, e.2.2.1)) (hch : xchain prog = true) (hi : init = true → y.name = "<init>")
    (hok : ∀ E, ∀ e ∈ prog, xOk E (xR d mc ms) y.cls cc maxL rt init e) : xSnd y cc maxL rt d mc ms (xM maxL prog) := by
  intro l E as sz av w K hC
  refine x_metW (cc := cc) (maxL := maxL) (ret := rt) hy rfl ?_
  intro p e s m args below meth c s₁ B hml hv
  obtain ⟨rfl, hsz, hlen, hP, hK, hD0, hst⟩ := hv
  subst hsz
  have hts := atoms_spec (ws := Cond.code y cc maxL rt :: xT) B.pre
  have hlocks := B.notSynchronized
  have hr := B.returns
  have X : xCtx E p s m (av.map (xcv E as)).toArray meth c cc y.cls maxL init (va_A (xG E as w) s.heap.size) := ⟨B.exec, B.bytes, hml, findClass_of_methodNamed B.named, fun w hw => hts w (List.mem_cons_of_mem _ hw), hK, hst, fun q h => Or.inr h, fun z => by
    rw [(name_of_methodNamed B.named B.method).1]; exact hi z⟩
  unfold xM at hC
  split at hC
  · next e5 =>
    have e5 := x_beqT e5
    have hR : xRet (xWat E (xR d mc ms) p l e s m (av.map (xcv E as)).toArray below meth c (MQ below (xQ E as K (va_A (xG E as w) s.heap.size)) (av.map (xcv E as)).toArray s mc ms (va_A (xG E as w) s.heap.size)) (va_A (xG E as w) s.heap.size) as maxL) cc rt K := by
      intro pc ls w' b
      have fin : ∀ (r : Option Value) (nw : List Nat) (H : Heap) (locs : List Loc), K r w' → (as ++ nw).length = w'.length → va_P E.1 vwCl (xG E (as ++ nw) w') H → va_D (va_A (xG E as w) s.heap.size) (xG E (as ++ nw) w') → va_S (va_A (xG E as w) s.heap.size) s.heap H locs → ∀ t : State, t.heap = H → xQ E as K (va_A (xG E as w) s.heap.size) (av.map (xcv E as)).toArray s (.returned (r.map (xcv E (as ++ nw)))) t :=
        fun r nw H locs hk h1 h2 h3 h4 t ht => ⟨⟨r, w', nw, rfl, hk, h1, by rw [ht]; exact h2, h3⟩, h4.F ht⟩
      refine ⟨fun v ty hd ht hn hk => ?_, fun q hd ht hk => ?_, fun hd ht hk => ?_⟩
      · intro nw H locs la hbb hl1 hP hD hS hl
        exact W.widen hbb.1 hbb.2 (W.zret (ty := ty) B.exec B.bytes (by rw [hr, ht]) hn (fun t h1 _ => fin (some (.int v)) nw H locs hk hl1 hP hD hS t h1) hS.2.2 hd)
      · intro nw H locs la hbb hl1 hP hD hS hl
        exact W.widen hbb.1 hbb.2 (W.aret (rt := .array .int) B.exec B.bytes (by rw [hr, ht]) (Or.inr ⟨_, rfl⟩) (Or.inr ⟨_, rfl⟩) (fun t h1 _ => fin (some (.ref q)) nw H locs hk hl1 hP hD hS t h1) hS.2.2 hd)
      · intro nw H locs la hbb hl1 hP hD hS hl
        exact W.widen hbb.1 hbb.2 (W.vret B.exec B.bytes (by rw [hr, ht]) (fun t h1 _ => fin none nw H locs hk hl1 hP hD hS t h1) hS.2.2 hd)
    have hW := hC (xWat E (xR d mc ms) p l e s m (av.map (xcv E as)).toArray below meth c (MQ below (xQ E as K (va_A (xG E as w) s.heap.size)) (av.map (xcv E as)).toArray s mc ms (va_A (xG E as w) s.heap.size)) (va_A (xG E as w) s.heap.size) as maxL) (fun n cuts pc ls st w' b h => by
      rcases xseek_spec (prog := prog) (t := pc) with hs | ⟨pre2, e2, r2, h1, h2, h3⟩
      · rw [hs] at h
        cases n <;> (unfold xrun at h; exact h.elim)
      · rw [h2] at h
        rw [← h3]
        exact xrun_sound hdec hch (hok E) X hR n pre2 e2 r2 ls st w' b h1 h)
    rw [lg_entry_eq]
    have hl := lv_entry (av.map (xcv E as)) (n := maxL) (by rw [x_lgl]; exact e5)
    rw [x_lva] at hl
    have := hW [] s.heap [] _ ⟨Nat.zero_le _, Nat.zero_le _⟩ (by rw [List.append_nil]; exact hlen) (by rw [List.append_nil]; exact hP) (by rw [List.append_nil]; exact hD0.self) va_S.rf (by rw [List.append_nil]; exact hl)
    exact this
  · exact hC.elim
end
section
/-! ===== names of methods, words by their places ===== -/
theorem x_inT {ws : List Cond} (h1 : ∀ w ∈ ws, w ∈ lw_tbl) (h2 : ws.all goodWord = true) : ∀ w ∈ ws, w ∈ xT := fun w hw => List.mem_filter.mpr ⟨h1 w hw, List.all_eq_true.mp h2 w hw⟩
def xOks (E : xE) (R : Room) (own : String) (cc : ByteArray) (nL : Nat) (rt : Option FieldType) (init : Bool) : List xEl → Prop
  | [] => True
  | e :: r => xOk E R own cc nL rt init e ∧ xOks E R own cc nL rt init r
theorem xOks_all {E : xE} {R : Room} {own : String} {cc : ByteArray} {nL : Nat} {rt : Option FieldType} {init : Bool} : ∀ {prog : List xEl}, xOks E R own cc nL rt init prog → ∀ e ∈ prog, xOk E R own cc nL rt init e
  | [], _, e, h => by cases h
  | a :: r, h, e, he => by
    rcases List.mem_cons.mp he with rfl | he
    · exact h.1
    · exact xOks_all h.2 e he
def xNo : xPT := fun _ _ _ => False
theorem snd_no {y : MethodName} {cc : ByteArray} {maxL d mc ms : Nat} {rt : Option FieldType} : xSnd y cc maxL rt d mc ms xNo := fun _ _ _ _ _ _ _ h => h.elim
theorem x_dec {prog : List xEl} {l : List (Nat × Instr × Nat)} {cc : ByteArray} (h : prog.map (fun e => (e.1, e.2.1, e.2.2.1)) = l) (hd : ∀ q ∈ l, decode cc q.1 = .ok q.2) : ∀ e ∈ prog, decode cc e.1 = .ok (e.2.1, e.2.2.1) := fun e he => hd (e.1, e.2.1, e.2.2.1) (by rw [← h]; exact List.mem_map.mpr ⟨e, he, rfl⟩)
theorem ok_ldc_w {E : xE} {R : Room} {own : String} {cc : ByteArray} {nL : Nat} {rt : Option FieldType} {init : Bool} (pc : Nat) {index : Nat} {v : Int32} (hw : Cond.constant own index v ∈ xT) : xOk E R own cc nL rt init (pc, .ldc_w index, 3, xs_push (.int v)) := by
  intro hd p l en s m args below meth c Q A as0 K C hR ls st w b go h k
  intro nw H locs la hbb hlen hP hD hS hl
  exact lv_ldcw C.1 C.2.1 C.2.2.2.1 (C.2.2.2.2.1 _ hw) hd (k none _ _ _ _ h nw H locs la hbb hlen hP hD hS hl)
abbrev y_H_init : MethodName := ⟨"HomeCalls", "<init>", "()V"⟩
theorem hd_H_init : y_H_init.cls = "HomeCalls" ∧ y_H_init.cls ≠ "java/lang/invoke/MethodHandle" ∧ y_H_init.cls ≠ "java/lang/invoke/VarHandle" ∧ (parseMethodDescriptor y_H_init.desc).map (fun d => d.parameters.length) = some 0 := by decide +kernel
abbrev y_H_thing : MethodName := ⟨"HomeCalls", "thing", "(II)I"⟩
theorem hd_H_thing : y_H_thing.cls = "HomeCalls" ∧ y_H_thing.cls ≠ "java/lang/invoke/MethodHandle" ∧ y_H_thing.cls ≠ "java/lang/invoke/VarHandle" ∧ (parseMethodDescriptor y_H_thing.desc).map (fun d => d.parameters.length) = some 2 := by decide +kernel
abbrev y_H_ofThing : MethodName := ⟨"HomeCalls", "ofThing", "(II)I"⟩
theorem hd_H_ofThing : y_H_ofThing.cls = "HomeCalls" ∧ y_H_ofThing.cls ≠ "java/lang/invoke/MethodHandle" ∧ y_H_ofThing.cls ≠ "java/lang/invoke/VarHandle" ∧ (parseMethodDescriptor y_H_ofThing.desc).map (fun d => d.parameters.length) = some 2 := by decide +kernel
abbrev y_H_shift : MethodName := ⟨"HomeCalls", "shift", "(III)I"⟩
theorem hd_H_shift : y_H_shift.cls = "HomeCalls" ∧ y_H_shift.cls ≠ "java/lang/invoke/MethodHandle" ∧ y_H_shift.cls ≠ "java/lang/invoke/VarHandle" ∧ (parseMethodDescriptor y_H_shift.desc).map (fun d => d.parameters.length) = some 3 := by decide +kernel
abbrev y_H_child : MethodName := ⟨"HomeCalls", "child", "(II)I"⟩
theorem hd_H_child : y_H_child.cls = "HomeCalls" ∧ y_H_child.cls ≠ "java/lang/invoke/MethodHandle" ∧ y_H_child.cls ≠ "java/lang/invoke/VarHandle" ∧ (parseMethodDescriptor y_H_child.desc).map (fun d => d.parameters.length) = some 2 := by decide +kernel
abbrev y_H_ofChild : MethodName := ⟨"HomeCalls", "ofChild", "(II)I"⟩
theorem hd_H_ofChild : y_H_ofChild.cls = "HomeCalls" ∧ y_H_ofChild.cls ≠ "java/lang/invoke/MethodHandle" ∧ y_H_ofChild.cls ≠ "java/lang/invoke/VarHandle" ∧ (parseMethodDescriptor y_H_ofChild.desc).map (fun d => d.parameters.length) = some 2 := by decide +kernel
abbrev y_H_change : MethodName := ⟨"HomeCalls", "change", "(III)I"⟩
theorem hd_H_change : y_H_change.cls = "HomeCalls" ∧ y_H_change.cls ≠ "java/lang/invoke/MethodHandle" ∧ y_H_change.cls ≠ "java/lang/invoke/VarHandle" ∧ (parseMethodDescriptor y_H_change.desc).map (fun d => d.parameters.length) = some 3 := by decide +kernel
abbrev y_H_it : MethodName := ⟨"HomeCalls", "it", "(I)I"⟩
theorem hd_H_it : y_H_it.cls = "HomeCalls" ∧ y_H_it.cls ≠ "java/lang/invoke/MethodHandle" ∧ y_H_it.cls ≠ "java/lang/invoke/VarHandle" ∧ (parseMethodDescriptor y_H_it.desc).map (fun d => d.parameters.length) = some 1 := by decide +kernel
abbrev y_H_become : MethodName := ⟨"HomeCalls", "become", "(II)I"⟩
theorem hd_H_become : y_H_become.cls = "HomeCalls" ∧ y_H_become.cls ≠ "java/lang/invoke/MethodHandle" ∧ y_H_become.cls ≠ "java/lang/invoke/VarHandle" ∧ (parseMethodDescriptor y_H_become.desc).map (fun d => d.parameters.length) = some 2 := by decide +kernel
abbrev y_H_as : MethodName := ⟨"HomeCalls", "as", "(II)I"⟩
theorem hd_H_as : y_H_as.cls = "HomeCalls" ∧ y_H_as.cls ≠ "java/lang/invoke/MethodHandle" ∧ y_H_as.cls ≠ "java/lang/invoke/VarHandle" ∧ (parseMethodDescriptor y_H_as.desc).map (fun d => d.parameters.length) = some 2 := by decide +kernel
abbrev y_H_feed : MethodName := ⟨"HomeCalls", "feed", "(JI)I"⟩
theorem hd_H_feed : y_H_feed.cls = "HomeCalls" ∧ y_H_feed.cls ≠ "java/lang/invoke/MethodHandle" ∧ y_H_feed.cls ≠ "java/lang/invoke/VarHandle" ∧ (parseMethodDescriptor y_H_feed.desc).map (fun d => d.parameters.length) = some 2 := by decide +kernel
abbrev y_H_text : MethodName := ⟨"HomeCalls", "text", "(I)I"⟩
theorem hd_H_text : y_H_text.cls = "HomeCalls" ∧ y_H_text.cls ≠ "java/lang/invoke/MethodHandle" ∧ y_H_text.cls ≠ "java/lang/invoke/VarHandle" ∧ (parseMethodDescriptor y_H_text.desc).map (fun d => d.parameters.length) = some 1 := by decide +kernel
abbrev y_H_law : MethodName := ⟨"HomeCalls", "law", "(IIII)I"⟩
theorem hd_H_law : y_H_law.cls = "HomeCalls" ∧ y_H_law.cls ≠ "java/lang/invoke/MethodHandle" ∧ y_H_law.cls ≠ "java/lang/invoke/VarHandle" ∧ (parseMethodDescriptor y_H_law.desc).map (fun d => d.parameters.length) = some 4 := by decide +kernel
abbrev y_H_call : MethodName := ⟨"HomeCalls", "call", "(II)I"⟩
theorem hd_H_call : y_H_call.cls = "HomeCalls" ∧ y_H_call.cls ≠ "java/lang/invoke/MethodHandle" ∧ y_H_call.cls ≠ "java/lang/invoke/VarHandle" ∧ (parseMethodDescriptor y_H_call.desc).map (fun d => d.parameters.length) = some 2 := by decide +kernel
abbrev y_H_loose : MethodName := ⟨"HomeCalls", "loose", "(I)I"⟩
theorem hd_H_loose : y_H_loose.cls = "HomeCalls" ∧ y_H_loose.cls ≠ "java/lang/invoke/MethodHandle" ∧ y_H_loose.cls ≠ "java/lang/invoke/VarHandle" ∧ (parseMethodDescriptor y_H_loose.desc).map (fun d => d.parameters.length) = some 1 := by decide +kernel
abbrev y_H_hadBy : MethodName := ⟨"HomeCalls", "hadBy", "(II)I"⟩
theorem hd_H_hadBy : y_H_hadBy.cls = "HomeCalls" ∧ y_H_hadBy.cls ≠ "java/lang/invoke/MethodHandle" ∧ y_H_hadBy.cls ≠ "java/lang/invoke/VarHandle" ∧ (parseMethodDescriptor y_H_hadBy.desc).map (fun d => d.parameters.length) = some 2 := by decide +kernel
abbrev y_H_runsTo : MethodName := ⟨"HomeCalls", "runsTo", "(III)I"⟩
theorem hd_H_runsTo : y_H_runsTo.cls = "HomeCalls" ∧ y_H_runsTo.cls ≠ "java/lang/invoke/MethodHandle" ∧ y_H_runsTo.cls ≠ "java/lang/invoke/VarHandle" ∧ (parseMethodDescriptor y_H_runsTo.desc).map (fun d => d.parameters.length) = some 3 := by decide +kernel
abbrev y_H_worst : MethodName := ⟨"HomeCalls", "worst", "(II)I"⟩
theorem hd_H_worst : y_H_worst.cls = "HomeCalls" ∧ y_H_worst.cls ≠ "java/lang/invoke/MethodHandle" ∧ y_H_worst.cls ≠ "java/lang/invoke/VarHandle" ∧ (parseMethodDescriptor y_H_worst.desc).map (fun d => d.parameters.length) = some 2 := by decide +kernel
abbrev y_H_best : MethodName := ⟨"HomeCalls", "best", "(II)I"⟩
theorem hd_H_best : y_H_best.cls = "HomeCalls" ∧ y_H_best.cls ≠ "java/lang/invoke/MethodHandle" ∧ y_H_best.cls ≠ "java/lang/invoke/VarHandle" ∧ (parseMethodDescriptor y_H_best.desc).map (fun d => d.parameters.length) = some 2 := by decide +kernel
abbrev y_H_stand : MethodName := ⟨"HomeCalls", "stand", "(III)I"⟩
theorem hd_H_stand : y_H_stand.cls = "HomeCalls" ∧ y_H_stand.cls ≠ "java/lang/invoke/MethodHandle" ∧ y_H_stand.cls ≠ "java/lang/invoke/VarHandle" ∧ (parseMethodDescriptor y_H_stand.desc).map (fun d => d.parameters.length) = some 3 := by decide +kernel
abbrev y_H_steps : MethodName := ⟨"HomeCalls", "steps", "(I)I"⟩
theorem hd_H_steps : y_H_steps.cls = "HomeCalls" ∧ y_H_steps.cls ≠ "java/lang/invoke/MethodHandle" ∧ y_H_steps.cls ≠ "java/lang/invoke/VarHandle" ∧ (parseMethodDescriptor y_H_steps.desc).map (fun d => d.parameters.length) = some 1 := by decide +kernel
abbrev y_H_take : MethodName := ⟨"HomeCalls", "take", "(III)I"⟩
theorem hd_H_take : y_H_take.cls = "HomeCalls" ∧ y_H_take.cls ≠ "java/lang/invoke/MethodHandle" ∧ y_H_take.cls ≠ "java/lang/invoke/VarHandle" ∧ (parseMethodDescriptor y_H_take.desc).map (fun d => d.parameters.length) = some 3 := by decide +kernel
abbrev y_H_lay : MethodName := ⟨"HomeCalls", "lay", "(III)I"⟩
theorem hd_H_lay : y_H_lay.cls = "HomeCalls" ∧ y_H_lay.cls ≠ "java/lang/invoke/MethodHandle" ∧ y_H_lay.cls ≠ "java/lang/invoke/VarHandle" ∧ (parseMethodDescriptor y_H_lay.desc).map (fun d => d.parameters.length) = some 3 := by decide +kernel
abbrev y_H_called : MethodName := ⟨"HomeCalls", "called", "(II)I"⟩
theorem hd_H_called : y_H_called.cls = "HomeCalls" ∧ y_H_called.cls ≠ "java/lang/invoke/MethodHandle" ∧ y_H_called.cls ≠ "java/lang/invoke/VarHandle" ∧ (parseMethodDescriptor y_H_called.desc).map (fun d => d.parameters.length) = some 2 := by decide +kernel
abbrev y_H_parts : MethodName := ⟨"HomeCalls", "parts", "(II)I"⟩
theorem hd_H_parts : y_H_parts.cls = "HomeCalls" ∧ y_H_parts.cls ≠ "java/lang/invoke/MethodHandle" ∧ y_H_parts.cls ≠ "java/lang/invoke/VarHandle" ∧ (parseMethodDescriptor y_H_parts.desc).map (fun d => d.parameters.length) = some 2 := by decide +kernel
abbrev y_H_never : MethodName := ⟨"HomeCalls", "never", "(I)I"⟩
theorem hd_H_never : y_H_never.cls = "HomeCalls" ∧ y_H_never.cls ≠ "java/lang/invoke/MethodHandle" ∧ y_H_never.cls ≠ "java/lang/invoke/VarHandle" ∧ (parseMethodDescriptor y_H_never.desc).map (fun d => d.parameters.length) = some 1 := by decide +kernel
abbrev y_H_series : MethodName := ⟨"HomeCalls", "series", "(III)I"⟩
theorem hd_H_series : y_H_series.cls = "HomeCalls" ∧ y_H_series.cls ≠ "java/lang/invoke/MethodHandle" ∧ y_H_series.cls ≠ "java/lang/invoke/VarHandle" ∧ (parseMethodDescriptor y_H_series.desc).map (fun d => d.parameters.length) = some 3 := by decide +kernel
abbrev y_H_odds : MethodName := ⟨"HomeCalls", "odds", "(III)I"⟩
theorem hd_H_odds : y_H_odds.cls = "HomeCalls" ∧ y_H_odds.cls ≠ "java/lang/invoke/MethodHandle" ∧ y_H_odds.cls ≠ "java/lang/invoke/VarHandle" ∧ (parseMethodDescriptor y_H_odds.desc).map (fun d => d.parameters.length) = some 3 := by decide +kernel
abbrev y_H_seed : MethodName := ⟨"HomeCalls", "seed", "(I)I"⟩
theorem hd_H_seed : y_H_seed.cls = "HomeCalls" ∧ y_H_seed.cls ≠ "java/lang/invoke/MethodHandle" ∧ y_H_seed.cls ≠ "java/lang/invoke/VarHandle" ∧ (parseMethodDescriptor y_H_seed.desc).map (fun d => d.parameters.length) = some 1 := by decide +kernel
abbrev y_H_voice : MethodName := ⟨"HomeCalls", "voice", "(III)I"⟩
theorem hd_H_voice : y_H_voice.cls = "HomeCalls" ∧ y_H_voice.cls ≠ "java/lang/invoke/MethodHandle" ∧ y_H_voice.cls ≠ "java/lang/invoke/VarHandle" ∧ (parseMethodDescriptor y_H_voice.desc).map (fun d => d.parameters.length) = some 3 := by decide +kernel
abbrev y_H_trace : MethodName := ⟨"HomeCalls", "trace", "(I)I"⟩
theorem hd_H_trace : y_H_trace.cls = "HomeCalls" ∧ y_H_trace.cls ≠ "java/lang/invoke/MethodHandle" ∧ y_H_trace.cls ≠ "java/lang/invoke/VarHandle" ∧ (parseMethodDescriptor y_H_trace.desc).map (fun d => d.parameters.length) = some 1 := by decide +kernel
abbrev y_H_sheet : MethodName := ⟨"HomeCalls", "sheet", "(III)I"⟩
theorem hd_H_sheet : y_H_sheet.cls = "HomeCalls" ∧ y_H_sheet.cls ≠ "java/lang/invoke/MethodHandle" ∧ y_H_sheet.cls ≠ "java/lang/invoke/VarHandle" ∧ (parseMethodDescriptor y_H_sheet.desc).map (fun d => d.parameters.length) = some 3 := by decide +kernel
abbrev y_H_put : MethodName := ⟨"HomeCalls", "put", "(III)I"⟩
theorem hd_H_put : y_H_put.cls = "HomeCalls" ∧ y_H_put.cls ≠ "java/lang/invoke/MethodHandle" ∧ y_H_put.cls ≠ "java/lang/invoke/VarHandle" ∧ (parseMethodDescriptor y_H_put.desc).map (fun d => d.parameters.length) = some 3 := by decide +kernel
abbrev y_H_move : MethodName := ⟨"HomeCalls", "move", "(IIIII)I"⟩
theorem hd_H_move : y_H_move.cls = "HomeCalls" ∧ y_H_move.cls ≠ "java/lang/invoke/MethodHandle" ∧ y_H_move.cls ≠ "java/lang/invoke/VarHandle" ∧ (parseMethodDescriptor y_H_move.desc).map (fun d => d.parameters.length) = some 5 := by decide +kernel
abbrev y_H_places : MethodName := ⟨"HomeCalls", "places", "(I)I"⟩
theorem hd_H_places : y_H_places.cls = "HomeCalls" ∧ y_H_places.cls ≠ "java/lang/invoke/MethodHandle" ∧ y_H_places.cls ≠ "java/lang/invoke/VarHandle" ∧ (parseMethodDescriptor y_H_places.desc).map (fun d => d.parameters.length) = some 1 := by decide +kernel
abbrev y_H_judge : MethodName := ⟨"HomeCalls", "judge", "(I)I"⟩
theorem hd_H_judge : y_H_judge.cls = "HomeCalls" ∧ y_H_judge.cls ≠ "java/lang/invoke/MethodHandle" ∧ y_H_judge.cls ≠ "java/lang/invoke/VarHandle" ∧ (parseMethodDescriptor y_H_judge.desc).map (fun d => d.parameters.length) = some 1 := by decide +kernel
abbrev y_H_image : MethodName := ⟨"HomeCalls", "image", "()I"⟩
theorem hd_H_image : y_H_image.cls = "HomeCalls" ∧ y_H_image.cls ≠ "java/lang/invoke/MethodHandle" ∧ y_H_image.cls ≠ "java/lang/invoke/VarHandle" ∧ (parseMethodDescriptor y_H_image.desc).map (fun d => d.parameters.length) = some 0 := by decide +kernel
abbrev y_H_restore : MethodName := ⟨"HomeCalls", "restore", "()I"⟩
theorem hd_H_restore : y_H_restore.cls = "HomeCalls" ∧ y_H_restore.cls ≠ "java/lang/invoke/MethodHandle" ∧ y_H_restore.cls ≠ "java/lang/invoke/VarHandle" ∧ (parseMethodDescriptor y_H_restore.desc).map (fun d => d.parameters.length) = some 0 := by decide +kernel
abbrev y_H_tell : MethodName := ⟨"HomeCalls", "tell", "(I)I"⟩
theorem hd_H_tell : y_H_tell.cls = "HomeCalls" ∧ y_H_tell.cls ≠ "java/lang/invoke/MethodHandle" ∧ y_H_tell.cls ≠ "java/lang/invoke/VarHandle" ∧ (parseMethodDescriptor y_H_tell.desc).map (fun d => d.parameters.length) = some 1 := by decide +kernel
abbrev y_H_check : MethodName := ⟨"HomeCalls", "check", "()I"⟩
theorem hd_H_check : y_H_check.cls = "HomeCalls" ∧ y_H_check.cls ≠ "java/lang/invoke/MethodHandle" ∧ y_H_check.cls ≠ "java/lang/invoke/VarHandle" ∧ (parseMethodDescriptor y_H_check.desc).map (fun d => d.parameters.length) = some 0 := by decide +kernel
abbrev y_H_count : MethodName := ⟨"HomeCalls", "count", "(I)I"⟩
theorem hd_H_count : y_H_count.cls = "HomeCalls" ∧ y_H_count.cls ≠ "java/lang/invoke/MethodHandle" ∧ y_H_count.cls ≠ "java/lang/invoke/VarHandle" ∧ (parseMethodDescriptor y_H_count.desc).map (fun d => d.parameters.length) = some 1 := by decide +kernel
abbrev y_H_told : MethodName := ⟨"HomeCalls", "told", "(I)I"⟩
theorem hd_H_told : y_H_told.cls = "HomeCalls" ∧ y_H_told.cls ≠ "java/lang/invoke/MethodHandle" ∧ y_H_told.cls ≠ "java/lang/invoke/VarHandle" ∧ (parseMethodDescriptor y_H_told.desc).map (fun d => d.parameters.length) = some 1 := by decide +kernel
abbrev y_H_error : MethodName := ⟨"HomeCalls", "error", "(I)I"⟩
theorem hd_H_error : y_H_error.cls = "HomeCalls" ∧ y_H_error.cls ≠ "java/lang/invoke/MethodHandle" ∧ y_H_error.cls ≠ "java/lang/invoke/VarHandle" ∧ (parseMethodDescriptor y_H_error.desc).map (fun d => d.parameters.length) = some 1 := by decide +kernel
abbrev y_H_isBelow : MethodName := ⟨"HomeCalls", "isBelow", "(II)Z"⟩
theorem hd_H_isBelow : y_H_isBelow.cls = "HomeCalls" ∧ y_H_isBelow.cls ≠ "java/lang/invoke/MethodHandle" ∧ y_H_isBelow.cls ≠ "java/lang/invoke/VarHandle" ∧ (parseMethodDescriptor y_H_isBelow.desc).map (fun d => d.parameters.length) = some 2 := by decide +kernel
abbrev y_H_isIn : MethodName := ⟨"HomeCalls", "isIn", "(II)Z"⟩
theorem hd_H_isIn : y_H_isIn.cls = "HomeCalls" ∧ y_H_isIn.cls ≠ "java/lang/invoke/MethodHandle" ∧ y_H_isIn.cls ≠ "java/lang/invoke/VarHandle" ∧ (parseMethodDescriptor y_H_isIn.desc).map (fun d => d.parameters.length) = some 2 := by decide +kernel
abbrev y_H_isSteps : MethodName := ⟨"HomeCalls", "isSteps", "(I)Z"⟩
theorem hd_H_isSteps : y_H_isSteps.cls = "HomeCalls" ∧ y_H_isSteps.cls ≠ "java/lang/invoke/MethodHandle" ∧ y_H_isSteps.cls ≠ "java/lang/invoke/VarHandle" ∧ (parseMethodDescriptor y_H_isSteps.desc).map (fun d => d.parameters.length) = some 1 := by decide +kernel
abbrev y_H_isChild : MethodName := ⟨"HomeCalls", "isChild", "(I)Z"⟩
theorem hd_H_isChild : y_H_isChild.cls = "HomeCalls" ∧ y_H_isChild.cls ≠ "java/lang/invoke/MethodHandle" ∧ y_H_isChild.cls ≠ "java/lang/invoke/VarHandle" ∧ (parseMethodDescriptor y_H_isChild.desc).map (fun d => d.parameters.length) = some 1 := by decide +kernel
abbrev y_H_replace : MethodName := ⟨"HomeCalls", "replace", "([III)I"⟩
theorem hd_H_replace : y_H_replace.cls = "HomeCalls" ∧ y_H_replace.cls ≠ "java/lang/invoke/MethodHandle" ∧ y_H_replace.cls ≠ "java/lang/invoke/VarHandle" ∧ (parseMethodDescriptor y_H_replace.desc).map (fun d => d.parameters.length) = some 3 := by decide +kernel
abbrev y_H_markFor : MethodName := ⟨"HomeCalls", "markFor", "(III)I"⟩
theorem hd_H_markFor : y_H_markFor.cls = "HomeCalls" ∧ y_H_markFor.cls ≠ "java/lang/invoke/MethodHandle" ∧ y_H_markFor.cls ≠ "java/lang/invoke/VarHandle" ∧ (parseMethodDescriptor y_H_markFor.desc).map (fun d => d.parameters.length) = some 3 := by decide +kernel
abbrev y_H_scoreFor : MethodName := ⟨"HomeCalls", "scoreFor", "(II)I"⟩
theorem hd_H_scoreFor : y_H_scoreFor.cls = "HomeCalls" ∧ y_H_scoreFor.cls ≠ "java/lang/invoke/MethodHandle" ∧ y_H_scoreFor.cls ≠ "java/lang/invoke/VarHandle" ∧ (parseMethodDescriptor y_H_scoreFor.desc).map (fun d => d.parameters.length) = some 2 := by decide +kernel
abbrev y_H_hadWithout : MethodName := ⟨"HomeCalls", "hadWithout", "(IIII)Z"⟩
theorem hd_H_hadWithout : y_H_hadWithout.cls = "HomeCalls" ∧ y_H_hadWithout.cls ≠ "java/lang/invoke/MethodHandle" ∧ y_H_hadWithout.cls ≠ "java/lang/invoke/VarHandle" ∧ (parseMethodDescriptor y_H_hadWithout.desc).map (fun d => d.parameters.length) = some 4 := by decide +kernel
abbrev y_M_init : MethodName := ⟨"HomeCallsModel", "<init>", "()V"⟩
theorem hd_M_init : y_M_init.cls = "HomeCallsModel" ∧ y_M_init.cls ≠ "java/lang/invoke/MethodHandle" ∧ y_M_init.cls ≠ "java/lang/invoke/VarHandle" ∧ (parseMethodDescriptor y_M_init.desc).map (fun d => d.parameters.length) = some 0 := by decide +kernel
abbrev y_M_in : MethodName := ⟨"HomeCallsModel", "in", "(III)Z"⟩
theorem hd_M_in : y_M_in.cls = "HomeCallsModel" ∧ y_M_in.cls ≠ "java/lang/invoke/MethodHandle" ∧ y_M_in.cls ≠ "java/lang/invoke/VarHandle" ∧ (parseMethodDescriptor y_M_in.desc).map (fun d => d.parameters.length) = some 3 := by decide +kernel
abbrev y_M_errs : MethodName := ⟨"HomeCallsModel", "errs", "(I)I"⟩
theorem hd_M_errs : y_M_errs.cls = "HomeCallsModel" ∧ y_M_errs.cls ≠ "java/lang/invoke/MethodHandle" ∧ y_M_errs.cls ≠ "java/lang/invoke/VarHandle" ∧ (parseMethodDescriptor y_M_errs.desc).map (fun d => d.parameters.length) = some 1 := by decide +kernel
abbrev y_M_held : MethodName := ⟨"HomeCallsModel", "held", "(III)I"⟩
theorem hd_M_held : y_M_held.cls = "HomeCallsModel" ∧ y_M_held.cls ≠ "java/lang/invoke/MethodHandle" ∧ y_M_held.cls ≠ "java/lang/invoke/VarHandle" ∧ (parseMethodDescriptor y_M_held.desc).map (fun d => d.parameters.length) = some 3 := by decide +kernel
abbrev y_M_moveAll : MethodName := ⟨"HomeCallsModel", "moveAll", "([I[I)V"⟩
theorem hd_M_moveAll : y_M_moveAll.cls = "HomeCallsModel" ∧ y_M_moveAll.cls ≠ "java/lang/invoke/MethodHandle" ∧ y_M_moveAll.cls ≠ "java/lang/invoke/VarHandle" ∧ (parseMethodDescriptor y_M_moveAll.desc).map (fun d => d.parameters.length) = some 2 := by decide +kernel
abbrev y_M_bits : MethodName := ⟨"HomeCallsModel", "bits", "(I)I"⟩
theorem hd_M_bits : y_M_bits.cls = "HomeCallsModel" ∧ y_M_bits.cls ≠ "java/lang/invoke/MethodHandle" ∧ y_M_bits.cls ≠ "java/lang/invoke/VarHandle" ∧ (parseMethodDescriptor y_M_bits.desc).map (fun d => d.parameters.length) = some 1 := by decide +kernel
abbrev y_M_its : MethodName := ⟨"HomeCallsModel", "its", "(II)I"⟩
theorem hd_M_its : y_M_its.cls = "HomeCallsModel" ∧ y_M_its.cls ≠ "java/lang/invoke/MethodHandle" ∧ y_M_its.cls ≠ "java/lang/invoke/VarHandle" ∧ (parseMethodDescriptor y_M_its.desc).map (fun d => d.parameters.length) = some 2 := by decide +kernel
abbrev y_M_gets : MethodName := ⟨"HomeCallsModel", "gets", "(III)V"⟩
theorem hd_M_gets : y_M_gets.cls = "HomeCallsModel" ∧ y_M_gets.cls ≠ "java/lang/invoke/MethodHandle" ∧ y_M_gets.cls ≠ "java/lang/invoke/VarHandle" ∧ (parseMethodDescriptor y_M_gets.desc).map (fun d => d.parameters.length) = some 3 := by decide +kernel
abbrev y_M_isCell : MethodName := ⟨"HomeCallsModel", "isCell", "(I)Z"⟩
theorem hd_M_isCell : y_M_isCell.cls = "HomeCallsModel" ∧ y_M_isCell.cls ≠ "java/lang/invoke/MethodHandle" ∧ y_M_isCell.cls ≠ "java/lang/invoke/VarHandle" ∧ (parseMethodDescriptor y_M_isCell.desc).map (fun d => d.parameters.length) = some 1 := by decide +kernel
abbrev y_M_isMark : MethodName := ⟨"HomeCallsModel", "isMark", "(I)Z"⟩
theorem hd_M_isMark : y_M_isMark.cls = "HomeCallsModel" ∧ y_M_isMark.cls ≠ "java/lang/invoke/MethodHandle" ∧ y_M_isMark.cls ≠ "java/lang/invoke/VarHandle" ∧ (parseMethodDescriptor y_M_isMark.desc).map (fun d => d.parameters.length) = some 1 := by decide +kernel
abbrev y_M_areSteps : MethodName := ⟨"HomeCallsModel", "areSteps", "(I)Z"⟩
theorem hd_M_areSteps : y_M_areSteps.cls = "HomeCallsModel" ∧ y_M_areSteps.cls ≠ "java/lang/invoke/MethodHandle" ∧ y_M_areSteps.cls ≠ "java/lang/invoke/VarHandle" ∧ (parseMethodDescriptor y_M_areSteps.desc).map (fun d => d.parameters.length) = some 1 := by decide +kernel
abbrev y_M_isThing : MethodName := ⟨"HomeCallsModel", "isThing", "(I)Z"⟩
theorem hd_M_isThing : y_M_isThing.cls = "HomeCallsModel" ∧ y_M_isThing.cls ≠ "java/lang/invoke/MethodHandle" ∧ y_M_isThing.cls ≠ "java/lang/invoke/VarHandle" ∧ (parseMethodDescriptor y_M_isThing.desc).map (fun d => d.parameters.length) = some 1 := by decide +kernel
abbrev y_M_isChild : MethodName := ⟨"HomeCallsModel", "isChild", "(I)Z"⟩
theorem hd_M_isChild : y_M_isChild.cls = "HomeCallsModel" ∧ y_M_isChild.cls ≠ "java/lang/invoke/MethodHandle" ∧ y_M_isChild.cls ≠ "java/lang/invoke/VarHandle" ∧ (parseMethodDescriptor y_M_isChild.desc).map (fun d => d.parameters.length) = some 1 := by decide +kernel
abbrev y_M_becomes : MethodName := ⟨"HomeCallsModel", "becomes", "(II)I"⟩
theorem hd_M_becomes : y_M_becomes.cls = "HomeCallsModel" ∧ y_M_becomes.cls ≠ "java/lang/invoke/MethodHandle" ∧ y_M_becomes.cls ≠ "java/lang/invoke/VarHandle" ∧ (parseMethodDescriptor y_M_becomes.desc).map (fun d => d.parameters.length) = some 2 := by decide +kernel
abbrev y_M_adds : MethodName := ⟨"HomeCallsModel", "adds", "(II)V"⟩
theorem hd_M_adds : y_M_adds.cls = "HomeCallsModel" ∧ y_M_adds.cls ≠ "java/lang/invoke/MethodHandle" ∧ y_M_adds.cls ≠ "java/lang/invoke/VarHandle" ∧ (parseMethodDescriptor y_M_adds.desc).map (fun d => d.parameters.length) = some 2 := by decide +kernel
abbrev y_M_thing : MethodName := ⟨"HomeCallsModel", "thing", "(II)I"⟩
theorem hd_M_thing : y_M_thing.cls = "HomeCallsModel" ∧ y_M_thing.cls ≠ "java/lang/invoke/MethodHandle" ∧ y_M_thing.cls ≠ "java/lang/invoke/VarHandle" ∧ (parseMethodDescriptor y_M_thing.desc).map (fun d => d.parameters.length) = some 2 := by decide +kernel
abbrev y_M_ofThing : MethodName := ⟨"HomeCallsModel", "ofThing", "(II)I"⟩
theorem hd_M_ofThing : y_M_ofThing.cls = "HomeCallsModel" ∧ y_M_ofThing.cls ≠ "java/lang/invoke/MethodHandle" ∧ y_M_ofThing.cls ≠ "java/lang/invoke/VarHandle" ∧ (parseMethodDescriptor y_M_ofThing.desc).map (fun d => d.parameters.length) = some 2 := by decide +kernel
abbrev y_M_shift : MethodName := ⟨"HomeCallsModel", "shift", "(III)I"⟩
theorem hd_M_shift : y_M_shift.cls = "HomeCallsModel" ∧ y_M_shift.cls ≠ "java/lang/invoke/MethodHandle" ∧ y_M_shift.cls ≠ "java/lang/invoke/VarHandle" ∧ (parseMethodDescriptor y_M_shift.desc).map (fun d => d.parameters.length) = some 3 := by decide +kernel
abbrev y_M_child : MethodName := ⟨"HomeCallsModel", "child", "(II)I"⟩
theorem hd_M_child : y_M_child.cls = "HomeCallsModel" ∧ y_M_child.cls ≠ "java/lang/invoke/MethodHandle" ∧ y_M_child.cls ≠ "java/lang/invoke/VarHandle" ∧ (parseMethodDescriptor y_M_child.desc).map (fun d => d.parameters.length) = some 2 := by decide +kernel
abbrev y_M_ofChild : MethodName := ⟨"HomeCallsModel", "ofChild", "(II)I"⟩
theorem hd_M_ofChild : y_M_ofChild.cls = "HomeCallsModel" ∧ y_M_ofChild.cls ≠ "java/lang/invoke/MethodHandle" ∧ y_M_ofChild.cls ≠ "java/lang/invoke/VarHandle" ∧ (parseMethodDescriptor y_M_ofChild.desc).map (fun d => d.parameters.length) = some 2 := by decide +kernel
abbrev y_M_change : MethodName := ⟨"HomeCallsModel", "change", "(III)I"⟩
theorem hd_M_change : y_M_change.cls = "HomeCallsModel" ∧ y_M_change.cls ≠ "java/lang/invoke/MethodHandle" ∧ y_M_change.cls ≠ "java/lang/invoke/VarHandle" ∧ (parseMethodDescriptor y_M_change.desc).map (fun d => d.parameters.length) = some 3 := by decide +kernel
abbrev y_M_it : MethodName := ⟨"HomeCallsModel", "it", "(I)I"⟩
theorem hd_M_it : y_M_it.cls = "HomeCallsModel" ∧ y_M_it.cls ≠ "java/lang/invoke/MethodHandle" ∧ y_M_it.cls ≠ "java/lang/invoke/VarHandle" ∧ (parseMethodDescriptor y_M_it.desc).map (fun d => d.parameters.length) = some 1 := by decide +kernel
abbrev y_M_become : MethodName := ⟨"HomeCallsModel", "become", "(II)I"⟩
theorem hd_M_become : y_M_become.cls = "HomeCallsModel" ∧ y_M_become.cls ≠ "java/lang/invoke/MethodHandle" ∧ y_M_become.cls ≠ "java/lang/invoke/VarHandle" ∧ (parseMethodDescriptor y_M_become.desc).map (fun d => d.parameters.length) = some 2 := by decide +kernel
abbrev y_M_above : MethodName := ⟨"HomeCallsModel", "above", "(I)I"⟩
theorem hd_M_above : y_M_above.cls = "HomeCallsModel" ∧ y_M_above.cls ≠ "java/lang/invoke/MethodHandle" ∧ y_M_above.cls ≠ "java/lang/invoke/VarHandle" ∧ (parseMethodDescriptor y_M_above.desc).map (fun d => d.parameters.length) = some 1 := by decide +kernel
abbrev y_M_as : MethodName := ⟨"HomeCallsModel", "as", "(II)I"⟩
theorem hd_M_as : y_M_as.cls = "HomeCallsModel" ∧ y_M_as.cls ≠ "java/lang/invoke/MethodHandle" ∧ y_M_as.cls ≠ "java/lang/invoke/VarHandle" ∧ (parseMethodDescriptor y_M_as.desc).map (fun d => d.parameters.length) = some 2 := by decide +kernel
abbrev y_M_byteAt : MethodName := ⟨"HomeCallsModel", "byteAt", "(I)I"⟩
theorem hd_M_byteAt : y_M_byteAt.cls = "HomeCallsModel" ∧ y_M_byteAt.cls ≠ "java/lang/invoke/MethodHandle" ∧ y_M_byteAt.cls ≠ "java/lang/invoke/VarHandle" ∧ (parseMethodDescriptor y_M_byteAt.desc).map (fun d => d.parameters.length) = some 1 := by decide +kernel
abbrev y_M_isDigit : MethodName := ⟨"HomeCallsModel", "isDigit", "(I)Z"⟩
theorem hd_M_isDigit : y_M_isDigit.cls = "HomeCallsModel" ∧ y_M_isDigit.cls ≠ "java/lang/invoke/MethodHandle" ∧ y_M_isDigit.cls ≠ "java/lang/invoke/VarHandle" ∧ (parseMethodDescriptor y_M_isDigit.desc).map (fun d => d.parameters.length) = some 1 := by decide +kernel
abbrev y_M_fails : MethodName := ⟨"HomeCallsModel", "fails", "()I"⟩
theorem hd_M_fails : y_M_fails.cls = "HomeCallsModel" ∧ y_M_fails.cls ≠ "java/lang/invoke/MethodHandle" ∧ y_M_fails.cls ≠ "java/lang/invoke/VarHandle" ∧ (parseMethodDescriptor y_M_fails.desc).map (fun d => d.parameters.length) = some 0 := by decide +kernel
abbrev y_M_number : MethodName := ⟨"HomeCallsModel", "number", "()I"⟩
theorem hd_M_number : y_M_number.cls = "HomeCallsModel" ∧ y_M_number.cls ≠ "java/lang/invoke/MethodHandle" ∧ y_M_number.cls ≠ "java/lang/invoke/VarHandle" ∧ (parseMethodDescriptor y_M_number.desc).map (fun d => d.parameters.length) = some 0 := by decide +kernel
abbrev y_M_named : MethodName := ⟨"HomeCallsModel", "named", "(I)I"⟩
theorem hd_M_named : y_M_named.cls = "HomeCallsModel" ∧ y_M_named.cls ≠ "java/lang/invoke/MethodHandle" ∧ y_M_named.cls ≠ "java/lang/invoke/VarHandle" ∧ (parseMethodDescriptor y_M_named.desc).map (fun d => d.parameters.length) = some 1 := by decide +kernel
abbrev y_M_factor : MethodName := ⟨"HomeCallsModel", "factor", "()I"⟩
theorem hd_M_factor : y_M_factor.cls = "HomeCallsModel" ∧ y_M_factor.cls ≠ "java/lang/invoke/MethodHandle" ∧ y_M_factor.cls ≠ "java/lang/invoke/VarHandle" ∧ (parseMethodDescriptor y_M_factor.desc).map (fun d => d.parameters.length) = some 0 := by decide +kernel
abbrev y_M_product : MethodName := ⟨"HomeCallsModel", "product", "()I"⟩
theorem hd_M_product : y_M_product.cls = "HomeCallsModel" ∧ y_M_product.cls ≠ "java/lang/invoke/MethodHandle" ∧ y_M_product.cls ≠ "java/lang/invoke/VarHandle" ∧ (parseMethodDescriptor y_M_product.desc).map (fun d => d.parameters.length) = some 0 := by decide +kernel
abbrev y_M_sum : MethodName := ⟨"HomeCallsModel", "sum", "()I"⟩
theorem hd_M_sum : y_M_sum.cls = "HomeCallsModel" ∧ y_M_sum.cls ≠ "java/lang/invoke/MethodHandle" ∧ y_M_sum.cls ≠ "java/lang/invoke/VarHandle" ∧ (parseMethodDescriptor y_M_sum.desc).map (fun d => d.parameters.length) = some 0 := by decide +kernel
abbrev y_M_compared : MethodName := ⟨"HomeCallsModel", "compared", "()I"⟩
theorem hd_M_compared : y_M_compared.cls = "HomeCallsModel" ∧ y_M_compared.cls ≠ "java/lang/invoke/MethodHandle" ∧ y_M_compared.cls ≠ "java/lang/invoke/VarHandle" ∧ (parseMethodDescriptor y_M_compared.desc).map (fun d => d.parameters.length) = some 0 := by decide +kernel
abbrev y_M_both : MethodName := ⟨"HomeCallsModel", "both", "()I"⟩
theorem hd_M_both : y_M_both.cls = "HomeCallsModel" ∧ y_M_both.cls ≠ "java/lang/invoke/MethodHandle" ∧ y_M_both.cls ≠ "java/lang/invoke/VarHandle" ∧ (parseMethodDescriptor y_M_both.desc).map (fun d => d.parameters.length) = some 0 := by decide +kernel
abbrev y_M_whole : MethodName := ⟨"HomeCallsModel", "whole", "()I"⟩
theorem hd_M_whole : y_M_whole.cls = "HomeCallsModel" ∧ y_M_whole.cls ≠ "java/lang/invoke/MethodHandle" ∧ y_M_whole.cls ≠ "java/lang/invoke/VarHandle" ∧ (parseMethodDescriptor y_M_whole.desc).map (fun d => d.parameters.length) = some 0 := by decide +kernel
abbrev y_M_walks : MethodName := ⟨"HomeCallsModel", "walks", "(IIII)I"⟩
theorem hd_M_walks : y_M_walks.cls = "HomeCallsModel" ∧ y_M_walks.cls ≠ "java/lang/invoke/MethodHandle" ∧ y_M_walks.cls ≠ "java/lang/invoke/VarHandle" ∧ (parseMethodDescriptor y_M_walks.desc).map (fun d => d.parameters.length) = some 4 := by decide +kernel
abbrev y_M_lawOf : MethodName := ⟨"HomeCallsModel", "lawOf", "(IIII)I"⟩
theorem hd_M_lawOf : y_M_lawOf.cls = "HomeCallsModel" ∧ y_M_lawOf.cls ≠ "java/lang/invoke/MethodHandle" ∧ y_M_lawOf.cls ≠ "java/lang/invoke/VarHandle" ∧ (parseMethodDescriptor y_M_lawOf.desc).map (fun d => d.parameters.length) = some 4 := by decide +kernel
abbrev y_M_law : MethodName := ⟨"HomeCallsModel", "law", "(IIII)I"⟩
theorem hd_M_law : y_M_law.cls = "HomeCallsModel" ∧ y_M_law.cls ≠ "java/lang/invoke/MethodHandle" ∧ y_M_law.cls ≠ "java/lang/invoke/VarHandle" ∧ (parseMethodDescriptor y_M_law.desc).map (fun d => d.parameters.length) = some 4 := by decide +kernel
abbrev y_M_feed : MethodName := ⟨"HomeCallsModel", "feed", "(JI)I"⟩
theorem hd_M_feed : y_M_feed.cls = "HomeCallsModel" ∧ y_M_feed.cls ≠ "java/lang/invoke/MethodHandle" ∧ y_M_feed.cls ≠ "java/lang/invoke/VarHandle" ∧ (parseMethodDescriptor y_M_feed.desc).map (fun d => d.parameters.length) = some 2 := by decide +kernel
abbrev y_M_text : MethodName := ⟨"HomeCallsModel", "text", "(I)I"⟩
theorem hd_M_text : y_M_text.cls = "HomeCallsModel" ∧ y_M_text.cls ≠ "java/lang/invoke/MethodHandle" ∧ y_M_text.cls ≠ "java/lang/invoke/VarHandle" ∧ (parseMethodDescriptor y_M_text.desc).map (fun d => d.parameters.length) = some 1 := by decide +kernel
abbrev y_M_pace : MethodName := ⟨"HomeCallsModel", "pace", "(I)I"⟩
theorem hd_M_pace : y_M_pace.cls = "HomeCallsModel" ∧ y_M_pace.cls ≠ "java/lang/invoke/MethodHandle" ∧ y_M_pace.cls ≠ "java/lang/invoke/VarHandle" ∧ (parseMethodDescriptor y_M_pace.desc).map (fun d => d.parameters.length) = some 1 := by decide +kernel
abbrev y_M_far : MethodName := ⟨"HomeCallsModel", "far", "(I)I"⟩
theorem hd_M_far : y_M_far.cls = "HomeCallsModel" ∧ y_M_far.cls ≠ "java/lang/invoke/MethodHandle" ∧ y_M_far.cls ≠ "java/lang/invoke/VarHandle" ∧ (parseMethodDescriptor y_M_far.desc).map (fun d => d.parameters.length) = some 1 := by decide +kernel
abbrev y_M_round : MethodName := ⟨"HomeCallsModel", "round", "(II)I"⟩
theorem hd_M_round : y_M_round.cls = "HomeCallsModel" ∧ y_M_round.cls ≠ "java/lang/invoke/MethodHandle" ∧ y_M_round.cls ≠ "java/lang/invoke/VarHandle" ∧ (parseMethodDescriptor y_M_round.desc).map (fun d => d.parameters.length) = some 2 := by decide +kernel
abbrev y_M_isMarked : MethodName := ⟨"HomeCallsModel", "isMarked", "(II)Z"⟩
theorem hd_M_isMarked : y_M_isMarked.cls = "HomeCallsModel" ∧ y_M_isMarked.cls ≠ "java/lang/invoke/MethodHandle" ∧ y_M_isMarked.cls ≠ "java/lang/invoke/VarHandle" ∧ (parseMethodDescriptor y_M_isMarked.desc).map (fun d => d.parameters.length) = some 2 := by decide +kernel
abbrev y_M_aim : MethodName := ⟨"HomeCallsModel", "aim", "(II)I"⟩
theorem hd_M_aim : y_M_aim.cls = "HomeCallsModel" ∧ y_M_aim.cls ≠ "java/lang/invoke/MethodHandle" ∧ y_M_aim.cls ≠ "java/lang/invoke/VarHandle" ∧ (parseMethodDescriptor y_M_aim.desc).map (fun d => d.parameters.length) = some 2 := by decide +kernel
abbrev y_M_ends : MethodName := ⟨"HomeCallsModel", "ends", "(III)I"⟩
theorem hd_M_ends : y_M_ends.cls = "HomeCallsModel" ∧ y_M_ends.cls ≠ "java/lang/invoke/MethodHandle" ∧ y_M_ends.cls ≠ "java/lang/invoke/VarHandle" ∧ (parseMethodDescriptor y_M_ends.desc).map (fun d => d.parameters.length) = some 3 := by decide +kernel
abbrev y_M_isSafe : MethodName := ⟨"HomeCallsModel", "isSafe", "(II)Z"⟩
theorem hd_M_isSafe : y_M_isSafe.cls = "HomeCallsModel" ∧ y_M_isSafe.cls ≠ "java/lang/invoke/MethodHandle" ∧ y_M_isSafe.cls ≠ "java/lang/invoke/VarHandle" ∧ (parseMethodDescriptor y_M_isSafe.desc).map (fun d => d.parameters.length) = some 2 := by decide +kernel
abbrev y_M_calls : MethodName := ⟨"HomeCallsModel", "calls", "(II)I"⟩
theorem hd_M_calls : y_M_calls.cls = "HomeCallsModel" ∧ y_M_calls.cls ≠ "java/lang/invoke/MethodHandle" ∧ y_M_calls.cls ≠ "java/lang/invoke/VarHandle" ∧ (parseMethodDescriptor y_M_calls.desc).map (fun d => d.parameters.length) = some 2 := by decide +kernel
abbrev y_M_wouldBe : MethodName := ⟨"HomeCallsModel", "wouldBe", "(II)I"⟩
theorem hd_M_wouldBe : y_M_wouldBe.cls = "HomeCallsModel" ∧ y_M_wouldBe.cls ≠ "java/lang/invoke/MethodHandle" ∧ y_M_wouldBe.cls ≠ "java/lang/invoke/VarHandle" ∧ (parseMethodDescriptor y_M_wouldBe.desc).map (fun d => d.parameters.length) = some 2 := by decide +kernel
abbrev y_M_call : MethodName := ⟨"HomeCallsModel", "call", "(II)I"⟩
theorem hd_M_call : y_M_call.cls = "HomeCallsModel" ∧ y_M_call.cls ≠ "java/lang/invoke/MethodHandle" ∧ y_M_call.cls ≠ "java/lang/invoke/VarHandle" ∧ (parseMethodDescriptor y_M_call.desc).map (fun d => d.parameters.length) = some 2 := by decide +kernel
abbrev y_M_drawn : MethodName := ⟨"HomeCallsModel", "drawn", "(I)I"⟩
theorem hd_M_drawn : y_M_drawn.cls = "HomeCallsModel" ∧ y_M_drawn.cls ≠ "java/lang/invoke/MethodHandle" ∧ y_M_drawn.cls ≠ "java/lang/invoke/VarHandle" ∧ (parseMethodDescriptor y_M_drawn.desc).map (fun d => d.parameters.length) = some 1 := by decide +kernel
abbrev y_M_loose : MethodName := ⟨"HomeCallsModel", "loose", "(I)I"⟩
theorem hd_M_loose : y_M_loose.cls = "HomeCallsModel" ∧ y_M_loose.cls ≠ "java/lang/invoke/MethodHandle" ∧ y_M_loose.cls ≠ "java/lang/invoke/VarHandle" ∧ (parseMethodDescriptor y_M_loose.desc).map (fun d => d.parameters.length) = some 1 := by decide +kernel
abbrev y_M_hadBy : MethodName := ⟨"HomeCallsModel", "hadBy", "(II)I"⟩
theorem hd_M_hadBy : y_M_hadBy.cls = "HomeCallsModel" ∧ y_M_hadBy.cls ≠ "java/lang/invoke/MethodHandle" ∧ y_M_hadBy.cls ≠ "java/lang/invoke/VarHandle" ∧ (parseMethodDescriptor y_M_hadBy.desc).map (fun d => d.parameters.length) = some 2 := by decide +kernel
abbrev y_M_runsTo : MethodName := ⟨"HomeCallsModel", "runsTo", "(III)I"⟩
theorem hd_M_runsTo : y_M_runsTo.cls = "HomeCallsModel" ∧ y_M_runsTo.cls ≠ "java/lang/invoke/MethodHandle" ∧ y_M_runsTo.cls ≠ "java/lang/invoke/VarHandle" ∧ (parseMethodDescriptor y_M_runsTo.desc).map (fun d => d.parameters.length) = some 3 := by decide +kernel
abbrev y_M_worst : MethodName := ⟨"HomeCallsModel", "worst", "(II)I"⟩
theorem hd_M_worst : y_M_worst.cls = "HomeCallsModel" ∧ y_M_worst.cls ≠ "java/lang/invoke/MethodHandle" ∧ y_M_worst.cls ≠ "java/lang/invoke/VarHandle" ∧ (parseMethodDescriptor y_M_worst.desc).map (fun d => d.parameters.length) = some 2 := by decide +kernel
abbrev y_M_best : MethodName := ⟨"HomeCallsModel", "best", "(II)I"⟩
theorem hd_M_best : y_M_best.cls = "HomeCallsModel" ∧ y_M_best.cls ≠ "java/lang/invoke/MethodHandle" ∧ y_M_best.cls ≠ "java/lang/invoke/VarHandle" ∧ (parseMethodDescriptor y_M_best.desc).map (fun d => d.parameters.length) = some 2 := by decide +kernel
abbrev y_M_hadOften : MethodName := ⟨"HomeCallsModel", "hadOften", "(II)I"⟩
theorem hd_M_hadOften : y_M_hadOften.cls = "HomeCallsModel" ∧ y_M_hadOften.cls ≠ "java/lang/invoke/MethodHandle" ∧ y_M_hadOften.cls ≠ "java/lang/invoke/VarHandle" ∧ (parseMethodDescriptor y_M_hadOften.desc).map (fun d => d.parameters.length) = some 2 := by decide +kernel
abbrev y_M_stand : MethodName := ⟨"HomeCallsModel", "stand", "(III)I"⟩
theorem hd_M_stand : y_M_stand.cls = "HomeCallsModel" ∧ y_M_stand.cls ≠ "java/lang/invoke/MethodHandle" ∧ y_M_stand.cls ≠ "java/lang/invoke/VarHandle" ∧ (parseMethodDescriptor y_M_stand.desc).map (fun d => d.parameters.length) = some 3 := by decide +kernel
abbrev y_M_steps : MethodName := ⟨"HomeCallsModel", "steps", "(I)I"⟩
theorem hd_M_steps : y_M_steps.cls = "HomeCallsModel" ∧ y_M_steps.cls ≠ "java/lang/invoke/MethodHandle" ∧ y_M_steps.cls ≠ "java/lang/invoke/VarHandle" ∧ (parseMethodDescriptor y_M_steps.desc).map (fun d => d.parameters.length) = some 1 := by decide +kernel
abbrev y_M_take : MethodName := ⟨"HomeCallsModel", "take", "(III)I"⟩
theorem hd_M_take : y_M_take.cls = "HomeCallsModel" ∧ y_M_take.cls ≠ "java/lang/invoke/MethodHandle" ∧ y_M_take.cls ≠ "java/lang/invoke/VarHandle" ∧ (parseMethodDescriptor y_M_take.desc).map (fun d => d.parameters.length) = some 3 := by decide +kernel
abbrev y_M_lay : MethodName := ⟨"HomeCallsModel", "lay", "(III)I"⟩
theorem hd_M_lay : y_M_lay.cls = "HomeCallsModel" ∧ y_M_lay.cls ≠ "java/lang/invoke/MethodHandle" ∧ y_M_lay.cls ≠ "java/lang/invoke/VarHandle" ∧ (parseMethodDescriptor y_M_lay.desc).map (fun d => d.parameters.length) = some 3 := by decide +kernel
abbrev y_M_called : MethodName := ⟨"HomeCallsModel", "called", "(II)I"⟩
theorem hd_M_called : y_M_called.cls = "HomeCallsModel" ∧ y_M_called.cls ≠ "java/lang/invoke/MethodHandle" ∧ y_M_called.cls ≠ "java/lang/invoke/VarHandle" ∧ (parseMethodDescriptor y_M_called.desc).map (fun d => d.parameters.length) = some 2 := by decide +kernel
abbrev y_M_players : MethodName := ⟨"HomeCallsModel", "players", "()I"⟩
theorem hd_M_players : y_M_players.cls = "HomeCallsModel" ∧ y_M_players.cls ≠ "java/lang/invoke/MethodHandle" ∧ y_M_players.cls ≠ "java/lang/invoke/VarHandle" ∧ (parseMethodDescriptor y_M_players.desc).map (fun d => d.parameters.length) = some 0 := by decide +kernel
abbrev y_M_parts : MethodName := ⟨"HomeCallsModel", "parts", "(II)I"⟩
theorem hd_M_parts : y_M_parts.cls = "HomeCallsModel" ∧ y_M_parts.cls ≠ "java/lang/invoke/MethodHandle" ∧ y_M_parts.cls ≠ "java/lang/invoke/VarHandle" ∧ (parseMethodDescriptor y_M_parts.desc).map (fun d => d.parameters.length) = some 2 := by decide +kernel
abbrev y_M_never : MethodName := ⟨"HomeCallsModel", "never", "(I)I"⟩
theorem hd_M_never : y_M_never.cls = "HomeCallsModel" ∧ y_M_never.cls ≠ "java/lang/invoke/MethodHandle" ∧ y_M_never.cls ≠ "java/lang/invoke/VarHandle" ∧ (parseMethodDescriptor y_M_never.desc).map (fun d => d.parameters.length) = some 1 := by decide +kernel
abbrev y_M_isSheet : MethodName := ⟨"HomeCallsModel", "isSheet", "(I)Z"⟩
theorem hd_M_isSheet : y_M_isSheet.cls = "HomeCallsModel" ∧ y_M_isSheet.cls ≠ "java/lang/invoke/MethodHandle" ∧ y_M_isSheet.cls ≠ "java/lang/invoke/VarHandle" ∧ (parseMethodDescriptor y_M_isSheet.desc).map (fun d => d.parameters.length) = some 1 := by decide +kernel
abbrev y_M_series : MethodName := ⟨"HomeCallsModel", "series", "(III)I"⟩
theorem hd_M_series : y_M_series.cls = "HomeCallsModel" ∧ y_M_series.cls ≠ "java/lang/invoke/MethodHandle" ∧ y_M_series.cls ≠ "java/lang/invoke/VarHandle" ∧ (parseMethodDescriptor y_M_series.desc).map (fun d => d.parameters.length) = some 3 := by decide +kernel
abbrev y_M_divisor : MethodName := ⟨"HomeCallsModel", "divisor", "(II)I"⟩
theorem hd_M_divisor : y_M_divisor.cls = "HomeCallsModel" ∧ y_M_divisor.cls ≠ "java/lang/invoke/MethodHandle" ∧ y_M_divisor.cls ≠ "java/lang/invoke/VarHandle" ∧ (parseMethodDescriptor y_M_divisor.desc).map (fun d => d.parameters.length) = some 2 := by decide +kernel
abbrev y_M_odds : MethodName := ⟨"HomeCallsModel", "odds", "(III)I"⟩
theorem hd_M_odds : y_M_odds.cls = "HomeCallsModel" ∧ y_M_odds.cls ≠ "java/lang/invoke/MethodHandle" ∧ y_M_odds.cls ≠ "java/lang/invoke/VarHandle" ∧ (parseMethodDescriptor y_M_odds.desc).map (fun d => d.parameters.length) = some 3 := by decide +kernel
abbrev y_M_seed : MethodName := ⟨"HomeCallsModel", "seed", "(I)I"⟩
theorem hd_M_seed : y_M_seed.cls = "HomeCallsModel" ∧ y_M_seed.cls ≠ "java/lang/invoke/MethodHandle" ∧ y_M_seed.cls ≠ "java/lang/invoke/VarHandle" ∧ (parseMethodDescriptor y_M_seed.desc).map (fun d => d.parameters.length) = some 1 := by decide +kernel
abbrev y_M_ran : MethodName := ⟨"HomeCallsModel", "ran", "(I)V"⟩
theorem hd_M_ran : y_M_ran.cls = "HomeCallsModel" ∧ y_M_ran.cls ≠ "java/lang/invoke/MethodHandle" ∧ y_M_ran.cls ≠ "java/lang/invoke/VarHandle" ∧ (parseMethodDescriptor y_M_ran.desc).map (fun d => d.parameters.length) = some 1 := by decide +kernel
abbrev y_M_shoutsIn : MethodName := ⟨"HomeCallsModel", "shoutsIn", "(II)I"⟩
theorem hd_M_shoutsIn : y_M_shoutsIn.cls = "HomeCallsModel" ∧ y_M_shoutsIn.cls ≠ "java/lang/invoke/MethodHandle" ∧ y_M_shoutsIn.cls ≠ "java/lang/invoke/VarHandle" ∧ (parseMethodDescriptor y_M_shoutsIn.desc).map (fun d => d.parameters.length) = some 2 := by decide +kernel
abbrev y_M_touchesIn : MethodName := ⟨"HomeCallsModel", "touchesIn", "(II)I"⟩
theorem hd_M_touchesIn : y_M_touchesIn.cls = "HomeCallsModel" ∧ y_M_touchesIn.cls ≠ "java/lang/invoke/MethodHandle" ∧ y_M_touchesIn.cls ≠ "java/lang/invoke/VarHandle" ∧ (parseMethodDescriptor y_M_touchesIn.desc).map (fun d => d.parameters.length) = some 2 := by decide +kernel
abbrev y_M_runsIn : MethodName := ⟨"HomeCallsModel", "runsIn", "(II)I"⟩
theorem hd_M_runsIn : y_M_runsIn.cls = "HomeCallsModel" ∧ y_M_runsIn.cls ≠ "java/lang/invoke/MethodHandle" ∧ y_M_runsIn.cls ≠ "java/lang/invoke/VarHandle" ∧ (parseMethodDescriptor y_M_runsIn.desc).map (fun d => d.parameters.length) = some 2 := by decide +kernel
abbrev y_M_tellsIn : MethodName := ⟨"HomeCallsModel", "tellsIn", "(II)I"⟩
theorem hd_M_tellsIn : y_M_tellsIn.cls = "HomeCallsModel" ∧ y_M_tellsIn.cls ≠ "java/lang/invoke/MethodHandle" ∧ y_M_tellsIn.cls ≠ "java/lang/invoke/VarHandle" ∧ (parseMethodDescriptor y_M_tellsIn.desc).map (fun d => d.parameters.length) = some 2 := by decide +kernel
abbrev y_M_voice : MethodName := ⟨"HomeCallsModel", "voice", "(III)I"⟩
theorem hd_M_voice : y_M_voice.cls = "HomeCallsModel" ∧ y_M_voice.cls ≠ "java/lang/invoke/MethodHandle" ∧ y_M_voice.cls ≠ "java/lang/invoke/VarHandle" ∧ (parseMethodDescriptor y_M_voice.desc).map (fun d => d.parameters.length) = some 3 := by decide +kernel
abbrev y_M_trace : MethodName := ⟨"HomeCallsModel", "trace", "(I)I"⟩
theorem hd_M_trace : y_M_trace.cls = "HomeCallsModel" ∧ y_M_trace.cls ≠ "java/lang/invoke/MethodHandle" ∧ y_M_trace.cls ≠ "java/lang/invoke/VarHandle" ∧ (parseMethodDescriptor y_M_trace.desc).map (fun d => d.parameters.length) = some 1 := by decide +kernel
abbrev y_M_narrow : MethodName := ⟨"HomeCallsModel", "narrow", "(II)I"⟩
theorem hd_M_narrow : y_M_narrow.cls = "HomeCallsModel" ∧ y_M_narrow.cls ≠ "java/lang/invoke/MethodHandle" ∧ y_M_narrow.cls ≠ "java/lang/invoke/VarHandle" ∧ (parseMethodDescriptor y_M_narrow.desc).map (fun d => d.parameters.length) = some 2 := by decide +kernel
abbrev y_M_sheet : MethodName := ⟨"HomeCallsModel", "sheet", "(III)I"⟩
theorem hd_M_sheet : y_M_sheet.cls = "HomeCallsModel" ∧ y_M_sheet.cls ≠ "java/lang/invoke/MethodHandle" ∧ y_M_sheet.cls ≠ "java/lang/invoke/VarHandle" ∧ (parseMethodDescriptor y_M_sheet.desc).map (fun d => d.parameters.length) = some 3 := by decide +kernel
abbrev y_M_put : MethodName := ⟨"HomeCallsModel", "put", "(III)I"⟩
theorem hd_M_put : y_M_put.cls = "HomeCallsModel" ∧ y_M_put.cls ≠ "java/lang/invoke/MethodHandle" ∧ y_M_put.cls ≠ "java/lang/invoke/VarHandle" ∧ (parseMethodDescriptor y_M_put.desc).map (fun d => d.parameters.length) = some 3 := by decide +kernel
abbrev y_M_move : MethodName := ⟨"HomeCallsModel", "move", "(IIIII)I"⟩
theorem hd_M_move : y_M_move.cls = "HomeCallsModel" ∧ y_M_move.cls ≠ "java/lang/invoke/MethodHandle" ∧ y_M_move.cls ≠ "java/lang/invoke/VarHandle" ∧ (parseMethodDescriptor y_M_move.desc).map (fun d => d.parameters.length) = some 5 := by decide +kernel
abbrev y_M_places : MethodName := ⟨"HomeCallsModel", "places", "(I)I"⟩
theorem hd_M_places : y_M_places.cls = "HomeCallsModel" ∧ y_M_places.cls ≠ "java/lang/invoke/MethodHandle" ∧ y_M_places.cls ≠ "java/lang/invoke/VarHandle" ∧ (parseMethodDescriptor y_M_places.desc).map (fun d => d.parameters.length) = some 1 := by decide +kernel
abbrev y_M_judge : MethodName := ⟨"HomeCallsModel", "judge", "(I)I"⟩
theorem hd_M_judge : y_M_judge.cls = "HomeCallsModel" ∧ y_M_judge.cls ≠ "java/lang/invoke/MethodHandle" ∧ y_M_judge.cls ≠ "java/lang/invoke/VarHandle" ∧ (parseMethodDescriptor y_M_judge.desc).map (fun d => d.parameters.length) = some 1 := by decide +kernel
abbrev y_M_image : MethodName := ⟨"HomeCallsModel", "image", "()I"⟩
theorem hd_M_image : y_M_image.cls = "HomeCallsModel" ∧ y_M_image.cls ≠ "java/lang/invoke/MethodHandle" ∧ y_M_image.cls ≠ "java/lang/invoke/VarHandle" ∧ (parseMethodDescriptor y_M_image.desc).map (fun d => d.parameters.length) = some 0 := by decide +kernel
abbrev y_M_restore : MethodName := ⟨"HomeCallsModel", "restore", "()I"⟩
theorem hd_M_restore : y_M_restore.cls = "HomeCallsModel" ∧ y_M_restore.cls ≠ "java/lang/invoke/MethodHandle" ∧ y_M_restore.cls ≠ "java/lang/invoke/VarHandle" ∧ (parseMethodDescriptor y_M_restore.desc).map (fun d => d.parameters.length) = some 0 := by decide +kernel
abbrev y_M_tell : MethodName := ⟨"HomeCallsModel", "tell", "(I)I"⟩
theorem hd_M_tell : y_M_tell.cls = "HomeCallsModel" ∧ y_M_tell.cls ≠ "java/lang/invoke/MethodHandle" ∧ y_M_tell.cls ≠ "java/lang/invoke/VarHandle" ∧ (parseMethodDescriptor y_M_tell.desc).map (fun d => d.parameters.length) = some 1 := by decide +kernel
abbrev y_M_check : MethodName := ⟨"HomeCallsModel", "check", "()I"⟩
theorem hd_M_check : y_M_check.cls = "HomeCallsModel" ∧ y_M_check.cls ≠ "java/lang/invoke/MethodHandle" ∧ y_M_check.cls ≠ "java/lang/invoke/VarHandle" ∧ (parseMethodDescriptor y_M_check.desc).map (fun d => d.parameters.length) = some 0 := by decide +kernel
abbrev y_M_sumOf : MethodName := ⟨"HomeCallsModel", "sumOf", "(I)I"⟩
theorem hd_M_sumOf : y_M_sumOf.cls = "HomeCallsModel" ∧ y_M_sumOf.cls ≠ "java/lang/invoke/MethodHandle" ∧ y_M_sumOf.cls ≠ "java/lang/invoke/VarHandle" ∧ (parseMethodDescriptor y_M_sumOf.desc).map (fun d => d.parameters.length) = some 1 := by decide +kernel
abbrev y_M_count : MethodName := ⟨"HomeCallsModel", "count", "(I)I"⟩
theorem hd_M_count : y_M_count.cls = "HomeCallsModel" ∧ y_M_count.cls ≠ "java/lang/invoke/MethodHandle" ∧ y_M_count.cls ≠ "java/lang/invoke/VarHandle" ∧ (parseMethodDescriptor y_M_count.desc).map (fun d => d.parameters.length) = some 1 := by decide +kernel
abbrev y_M_told : MethodName := ⟨"HomeCallsModel", "told", "(I)I"⟩
theorem hd_M_told : y_M_told.cls = "HomeCallsModel" ∧ y_M_told.cls ≠ "java/lang/invoke/MethodHandle" ∧ y_M_told.cls ≠ "java/lang/invoke/VarHandle" ∧ (parseMethodDescriptor y_M_told.desc).map (fun d => d.parameters.length) = some 1 := by decide +kernel
abbrev y_L_init : MethodName := ⟨"HomeCalls$Law", "<init>", "()V"⟩
theorem hd_L_init : y_L_init.cls = "HomeCalls$Law" ∧ y_L_init.cls ≠ "java/lang/invoke/MethodHandle" ∧ y_L_init.cls ≠ "java/lang/invoke/VarHandle" ∧ (parseMethodDescriptor y_L_init.desc).map (fun d => d.parameters.length) = some 0 := by decide +kernel
abbrev y_L_adopt : MethodName := ⟨"HomeCalls$Law", "adopt", "([II)V"⟩
theorem hd_L_adopt : y_L_adopt.cls = "HomeCalls$Law" ∧ y_L_adopt.cls ≠ "java/lang/invoke/MethodHandle" ∧ y_L_adopt.cls ≠ "java/lang/invoke/VarHandle" ∧ (parseMethodDescriptor y_L_adopt.desc).map (fun d => d.parameters.length) = some 2 := by decide +kernel
abbrev y_L_gives : MethodName := ⟨"HomeCalls$Law", "gives", "(III)I"⟩
theorem hd_L_gives : y_L_gives.cls = "HomeCalls$Law" ∧ y_L_gives.cls ≠ "java/lang/invoke/MethodHandle" ∧ y_L_gives.cls ≠ "java/lang/invoke/VarHandle" ∧ (parseMethodDescriptor y_L_gives.desc).map (fun d => d.parameters.length) = some 3 := by decide +kernel
abbrev y_L_push : MethodName := ⟨"HomeCalls$Law", "push", "(I)V"⟩
theorem hd_L_push : y_L_push.cls = "HomeCalls$Law" ∧ y_L_push.cls ≠ "java/lang/invoke/MethodHandle" ∧ y_L_push.cls ≠ "java/lang/invoke/VarHandle" ∧ (parseMethodDescriptor y_L_push.desc).map (fun d => d.parameters.length) = some 1 := by decide +kernel
abbrev y_L_pop : MethodName := ⟨"HomeCalls$Law", "pop", "()I"⟩
theorem hd_L_pop : y_L_pop.cls = "HomeCalls$Law" ∧ y_L_pop.cls ≠ "java/lang/invoke/MethodHandle" ∧ y_L_pop.cls ≠ "java/lang/invoke/VarHandle" ∧ (parseMethodDescriptor y_L_pop.desc).map (fun d => d.parameters.length) = some 0 := by decide +kernel
abbrev y_L_worked : MethodName := ⟨"HomeCalls$Law", "worked", "(III)I"⟩
theorem hd_L_worked : y_L_worked.cls = "HomeCalls$Law" ∧ y_L_worked.cls ≠ "java/lang/invoke/MethodHandle" ∧ y_L_worked.cls ≠ "java/lang/invoke/VarHandle" ∧ (parseMethodDescriptor y_L_worked.desc).map (fun d => d.parameters.length) = some 3 := by decide +kernel
abbrev y_R_init : MethodName := ⟨"HomeCalls$Reader", "<init>", "()V"⟩
theorem hd_R_init : y_R_init.cls = "HomeCalls$Reader" ∧ y_R_init.cls ≠ "java/lang/invoke/MethodHandle" ∧ y_R_init.cls ≠ "java/lang/invoke/VarHandle" ∧ (parseMethodDescriptor y_R_init.desc).map (fun d => d.parameters.length) = some 0 := by decide +kernel
abbrev y_R_faultOf : MethodName := ⟨"HomeCalls$Reader", "faultOf", "([III)I"⟩
theorem hd_R_faultOf : y_R_faultOf.cls = "HomeCalls$Reader" ∧ y_R_faultOf.cls ≠ "java/lang/invoke/MethodHandle" ∧ y_R_faultOf.cls ≠ "java/lang/invoke/VarHandle" ∧ (parseMethodDescriptor y_R_faultOf.desc).map (fun d => d.parameters.length) = some 3 := by decide +kernel
abbrev y_R_goesOn : MethodName := ⟨"HomeCalls$Reader", "goesOn", "(II)Z"⟩
theorem hd_R_goesOn : y_R_goesOn.cls = "HomeCalls$Reader" ∧ y_R_goesOn.cls ≠ "java/lang/invoke/MethodHandle" ∧ y_R_goesOn.cls ≠ "java/lang/invoke/VarHandle" ∧ (parseMethodDescriptor y_R_goesOn.desc).map (fun d => d.parameters.length) = some 2 := by decide +kernel
abbrev y_R_readDigit : MethodName := ⟨"HomeCalls$Reader", "readDigit", "(I)Z"⟩
theorem hd_R_readDigit : y_R_readDigit.cls = "HomeCalls$Reader" ∧ y_R_readDigit.cls ≠ "java/lang/invoke/MethodHandle" ∧ y_R_readDigit.cls ≠ "java/lang/invoke/VarHandle" ∧ (parseMethodDescriptor y_R_readDigit.desc).map (fun d => d.parameters.length) = some 1 := by decide +kernel
abbrev y_R_readStart : MethodName := ⟨"HomeCalls$Reader", "readStart", "(II)Z"⟩
theorem hd_R_readStart : y_R_readStart.cls = "HomeCalls$Reader" ∧ y_R_readStart.cls ≠ "java/lang/invoke/MethodHandle" ∧ y_R_readStart.cls ≠ "java/lang/invoke/VarHandle" ∧ (parseMethodDescriptor y_R_readStart.desc).map (fun d => d.parameters.length) = some 2 := by decide +kernel
abbrev y_R_readNext : MethodName := ⟨"HomeCalls$Reader", "readNext", "(I)Z"⟩
theorem hd_R_readNext : y_R_readNext.cls = "HomeCalls$Reader" ∧ y_R_readNext.cls ≠ "java/lang/invoke/MethodHandle" ∧ y_R_readNext.cls ≠ "java/lang/invoke/VarHandle" ∧ (parseMethodDescriptor y_R_readNext.desc).map (fun d => d.parameters.length) = some 1 := by decide +kernel
abbrev y_R_closeRound : MethodName := ⟨"HomeCalls$Reader", "closeRound", "()Z"⟩
theorem hd_R_closeRound : y_R_closeRound.cls = "HomeCalls$Reader" ∧ y_R_closeRound.cls ≠ "java/lang/invoke/MethodHandle" ∧ y_R_closeRound.cls ≠ "java/lang/invoke/VarHandle" ∧ (parseMethodDescriptor y_R_closeRound.desc).map (fun d => d.parameters.length) = some 0 := by decide +kernel
abbrev y_R_isWhole : MethodName := ⟨"HomeCalls$Reader", "isWhole", "()Z"⟩
theorem hd_R_isWhole : y_R_isWhole.cls = "HomeCalls$Reader" ∧ y_R_isWhole.cls ≠ "java/lang/invoke/MethodHandle" ∧ y_R_isWhole.cls ≠ "java/lang/invoke/VarHandle" ∧ (parseMethodDescriptor y_R_isWhole.desc).map (fun d => d.parameters.length) = some 0 := by decide +kernel
abbrev y_R_closeNots : MethodName := ⟨"HomeCalls$Reader", "closeNots", "()V"⟩
theorem hd_R_closeNots : y_R_closeNots.cls = "HomeCalls$Reader" ∧ y_R_closeNots.cls ≠ "java/lang/invoke/MethodHandle" ∧ y_R_closeNots.cls ≠ "java/lang/invoke/VarHandle" ∧ (parseMethodDescriptor y_R_closeNots.desc).map (fun d => d.parameters.length) = some 0 := by decide +kernel
abbrev y_R_release : MethodName := ⟨"HomeCalls$Reader", "release", "(I)V"⟩
theorem hd_R_release : y_R_release.cls = "HomeCalls$Reader" ∧ y_R_release.cls ≠ "java/lang/invoke/MethodHandle" ∧ y_R_release.cls ≠ "java/lang/invoke/VarHandle" ∧ (parseMethodDescriptor y_R_release.desc).map (fun d => d.parameters.length) = some 1 := by decide +kernel
abbrev y_R_hold : MethodName := ⟨"HomeCalls$Reader", "hold", "(I)V"⟩
theorem hd_R_hold : y_R_hold.cls = "HomeCalls$Reader" ∧ y_R_hold.cls ≠ "java/lang/invoke/MethodHandle" ∧ y_R_hold.cls ≠ "java/lang/invoke/VarHandle" ∧ (parseMethodDescriptor y_R_hold.desc).map (fun d => d.parameters.length) = some 1 := by decide +kernel
abbrev y_R_emit : MethodName := ⟨"HomeCalls$Reader", "emit", "(I)V"⟩
theorem hd_R_emit : y_R_emit.cls = "HomeCalls$Reader" ∧ y_R_emit.cls ≠ "java/lang/invoke/MethodHandle" ∧ y_R_emit.cls ≠ "java/lang/invoke/VarHandle" ∧ (parseMethodDescriptor y_R_emit.desc).map (fun d => d.parameters.length) = some 1 := by decide +kernel
abbrev y_R_rankOf : MethodName := ⟨"HomeCalls$Reader", "rankOf", "(I)I"⟩
theorem hd_R_rankOf : y_R_rankOf.cls = "HomeCalls$Reader" ∧ y_R_rankOf.cls ≠ "java/lang/invoke/MethodHandle" ∧ y_R_rankOf.cls ≠ "java/lang/invoke/VarHandle" ∧ (parseMethodDescriptor y_R_rankOf.desc).map (fun d => d.parameters.length) = some 1 := by decide +kernel
abbrev y_S_init : MethodName := ⟨"HomeCalls$Sheet", "<init>", "()V"⟩
theorem hd_S_init : y_S_init.cls = "HomeCalls$Sheet" ∧ y_S_init.cls ≠ "java/lang/invoke/MethodHandle" ∧ y_S_init.cls ≠ "java/lang/invoke/VarHandle" ∧ (parseMethodDescriptor y_S_init.desc).map (fun d => d.parameters.length) = some 0 := by decide +kernel
abbrev y_S_isMissing : MethodName := ⟨"HomeCalls$Sheet", "isMissing", "()Z"⟩
theorem hd_S_isMissing : y_S_isMissing.cls = "HomeCalls$Sheet" ∧ y_S_isMissing.cls ≠ "java/lang/invoke/MethodHandle" ∧ y_S_isMissing.cls ≠ "java/lang/invoke/VarHandle" ∧ (parseMethodDescriptor y_S_isMissing.desc).map (fun d => d.parameters.length) = some 0 := by decide +kernel
abbrev y_S_begin : MethodName := ⟨"HomeCalls$Sheet", "begin", "(II)V"⟩
theorem hd_S_begin : y_S_begin.cls = "HomeCalls$Sheet" ∧ y_S_begin.cls ≠ "java/lang/invoke/MethodHandle" ∧ y_S_begin.cls ≠ "java/lang/invoke/VarHandle" ∧ (parseMethodDescriptor y_S_begin.desc).map (fun d => d.parameters.length) = some 2 := by decide +kernel
abbrev y_S_write : MethodName := ⟨"HomeCalls$Sheet", "write", "(II)V"⟩
theorem hd_S_write : y_S_write.cls = "HomeCalls$Sheet" ∧ y_S_write.cls ≠ "java/lang/invoke/MethodHandle" ∧ y_S_write.cls ≠ "java/lang/invoke/VarHandle" ∧ (parseMethodDescriptor y_S_write.desc).map (fun d => d.parameters.length) = some 2 := by decide +kernel
abbrev y_S_hasRun : MethodName := ⟨"HomeCalls$Sheet", "hasRun", "(II)Z"⟩
theorem hd_S_hasRun : y_S_hasRun.cls = "HomeCalls$Sheet" ∧ y_S_hasRun.cls ≠ "java/lang/invoke/MethodHandle" ∧ y_S_hasRun.cls ≠ "java/lang/invoke/VarHandle" ∧ (parseMethodDescriptor y_S_hasRun.desc).map (fun d => d.parameters.length) = some 2 := by decide +kernel
abbrev y_P_init : MethodName := ⟨"HomeCalls$Speaker", "<init>", "()V"⟩
theorem hd_P_init : y_P_init.cls = "HomeCalls$Speaker" ∧ y_P_init.cls ≠ "java/lang/invoke/MethodHandle" ∧ y_P_init.cls ≠ "java/lang/invoke/VarHandle" ∧ (parseMethodDescriptor y_P_init.desc).map (fun d => d.parameters.length) = some 0 := by decide +kernel
abbrev y_P_answer : MethodName := ⟨"HomeCalls$Speaker", "answer", "(IIIII)I"⟩
theorem hd_P_answer : y_P_answer.cls = "HomeCalls$Speaker" ∧ y_P_answer.cls ≠ "java/lang/invoke/MethodHandle" ∧ y_P_answer.cls ≠ "java/lang/invoke/VarHandle" ∧ (parseMethodDescriptor y_P_answer.desc).map (fun d => d.parameters.length) = some 5 := by decide +kernel
abbrev y_P_speak : MethodName := ⟨"HomeCalls$Speaker", "speak", "(IIII)I"⟩
theorem hd_P_speak : y_P_speak.cls = "HomeCalls$Speaker" ∧ y_P_speak.cls ≠ "java/lang/invoke/MethodHandle" ∧ y_P_speak.cls ≠ "java/lang/invoke/VarHandle" ∧ (parseMethodDescriptor y_P_speak.desc).map (fun d => d.parameters.length) = some 4 := by decide +kernel
abbrev y_P_note : MethodName := ⟨"HomeCalls$Speaker", "note", "(I)V"⟩
theorem hd_P_note : y_P_note.cls = "HomeCalls$Speaker" ∧ y_P_note.cls ≠ "java/lang/invoke/MethodHandle" ∧ y_P_note.cls ≠ "java/lang/invoke/VarHandle" ∧ (parseMethodDescriptor y_P_note.desc).map (fun d => d.parameters.length) = some 1 := by decide +kernel
abbrev y_T_init : MethodName := ⟨"HomeCalls$Street", "<init>", "()V"⟩
theorem hd_T_init : y_T_init.cls = "HomeCalls$Street" ∧ y_T_init.cls ≠ "java/lang/invoke/MethodHandle" ∧ y_T_init.cls ≠ "java/lang/invoke/VarHandle" ∧ (parseMethodDescriptor y_T_init.desc).map (fun d => d.parameters.length) = some 0 := by decide +kernel
abbrev y_T_copy : MethodName := ⟨"HomeCalls$Street", "copy", "(LHomeCalls$Street;)V"⟩
theorem hd_T_copy : y_T_copy.cls = "HomeCalls$Street" ∧ y_T_copy.cls ≠ "java/lang/invoke/MethodHandle" ∧ y_T_copy.cls ≠ "java/lang/invoke/VarHandle" ∧ (parseMethodDescriptor y_T_copy.desc).map (fun d => d.parameters.length) = some 1 := by decide +kernel
abbrev y_T_copyRow : MethodName := ⟨"HomeCalls$Street", "copyRow", "([I[I)V"⟩
theorem hd_T_copyRow : y_T_copyRow.cls = "HomeCalls$Street" ∧ y_T_copyRow.cls ≠ "java/lang/invoke/MethodHandle" ∧ y_T_copyRow.cls ≠ "java/lang/invoke/VarHandle" ∧ (parseMethodDescriptor y_T_copyRow.desc).map (fun d => d.parameters.length) = some 2 := by decide +kernel
abbrev y_T_addThing : MethodName := ⟨"HomeCalls$Street", "addThing", "(II)I"⟩
theorem hd_T_addThing : y_T_addThing.cls = "HomeCalls$Street" ∧ y_T_addThing.cls ≠ "java/lang/invoke/MethodHandle" ∧ y_T_addThing.cls ≠ "java/lang/invoke/VarHandle" ∧ (parseMethodDescriptor y_T_addThing.desc).map (fun d => d.parameters.length) = some 2 := by decide +kernel
abbrev y_T_rowOfThings : MethodName := ⟨"HomeCalls$Street", "rowOfThings", "(I)[I"⟩
theorem hd_T_rowOfThings : y_T_rowOfThings.cls = "HomeCalls$Street" ∧ y_T_rowOfThings.cls ≠ "java/lang/invoke/MethodHandle" ∧ y_T_rowOfThings.cls ≠ "java/lang/invoke/VarHandle" ∧ (parseMethodDescriptor y_T_rowOfThings.desc).map (fun d => d.parameters.length) = some 1 := by decide +kernel
abbrev y_T_addChild : MethodName := ⟨"HomeCalls$Street", "addChild", "(II)I"⟩
theorem hd_T_addChild : y_T_addChild.cls = "HomeCalls$Street" ∧ y_T_addChild.cls ≠ "java/lang/invoke/MethodHandle" ∧ y_T_addChild.cls ≠ "java/lang/invoke/VarHandle" ∧ (parseMethodDescriptor y_T_addChild.desc).map (fun d => d.parameters.length) = some 2 := by decide +kernel
abbrev y_T_addBytes : MethodName := ⟨"HomeCalls$Street", "addBytes", "(JI)I"⟩
theorem hd_T_addBytes : y_T_addBytes.cls = "HomeCalls$Street" ∧ y_T_addBytes.cls ≠ "java/lang/invoke/MethodHandle" ∧ y_T_addBytes.cls ≠ "java/lang/invoke/VarHandle" ∧ (parseMethodDescriptor y_T_addBytes.desc).map (fun d => d.parameters.length) = some 2 := by decide +kernel
abbrev y_T_draw : MethodName := ⟨"HomeCalls$Street", "draw", "()I"⟩
theorem hd_T_draw : y_T_draw.cls = "HomeCalls$Street" ∧ y_T_draw.cls ≠ "java/lang/invoke/MethodHandle" ∧ y_T_draw.cls ≠ "java/lang/invoke/VarHandle" ∧ (parseMethodDescriptor y_T_draw.desc).map (fun d => d.parameters.length) = some 0 := by decide +kernel
abbrev y_T_pace : MethodName := ⟨"HomeCalls$Street", "pace", "(I)I"⟩
theorem hd_T_pace : y_T_pace.cls = "HomeCalls$Street" ∧ y_T_pace.cls ≠ "java/lang/invoke/MethodHandle" ∧ y_T_pace.cls ≠ "java/lang/invoke/VarHandle" ∧ (parseMethodDescriptor y_T_pace.desc).map (fun d => d.parameters.length) = some 1 := by decide +kernel
abbrev y_T_far : MethodName := ⟨"HomeCalls$Street", "far", "(I)I"⟩
theorem hd_T_far : y_T_far.cls = "HomeCalls$Street" ∧ y_T_far.cls ≠ "java/lang/invoke/MethodHandle" ∧ y_T_far.cls ≠ "java/lang/invoke/VarHandle" ∧ (parseMethodDescriptor y_T_far.desc).map (fun d => d.parameters.length) = some 1 := by decide +kernel
abbrev y_T_marksThatHave : MethodName := ⟨"HomeCalls$Street", "marksThatHave", "(II)I"⟩
theorem hd_T_marksThatHave : y_T_marksThatHave.cls = "HomeCalls$Street" ∧ y_T_marksThatHave.cls ≠ "java/lang/invoke/MethodHandle" ∧ y_T_marksThatHave.cls ≠ "java/lang/invoke/VarHandle" ∧ (parseMethodDescriptor y_T_marksThatHave.desc).map (fun d => d.parameters.length) = some 2 := by decide +kernel
abbrev y_T_wouldBeHad : MethodName := ⟨"HomeCalls$Street", "wouldBeHad", "(II)I"⟩
theorem hd_T_wouldBeHad : y_T_wouldBeHad.cls = "HomeCalls$Street" ∧ y_T_wouldBeHad.cls ≠ "java/lang/invoke/MethodHandle" ∧ y_T_wouldBeHad.cls ≠ "java/lang/invoke/VarHandle" ∧ (parseMethodDescriptor y_T_wouldBeHad.desc).map (fun d => d.parameters.length) = some 2 := by decide +kernel
abbrev y_T_play : MethodName := ⟨"HomeCalls$Street", "play", "(II)I"⟩
theorem hd_T_play : y_T_play.cls = "HomeCalls$Street" ∧ y_T_play.cls ≠ "java/lang/invoke/MethodHandle" ∧ y_T_play.cls ≠ "java/lang/invoke/VarHandle" ∧ (parseMethodDescriptor y_T_play.desc).map (fun d => d.parameters.length) = some 2 := by decide +kernel
abbrev y_T_endOf : MethodName := ⟨"HomeCalls$Street", "endOf", "(III)I"⟩
theorem hd_T_endOf : y_T_endOf.cls = "HomeCalls$Street" ∧ y_T_endOf.cls ≠ "java/lang/invoke/MethodHandle" ∧ y_T_endOf.cls ≠ "java/lang/invoke/VarHandle" ∧ (parseMethodDescriptor y_T_endOf.desc).map (fun d => d.parameters.length) = some 3 := by decide +kernel
abbrev y_T_goalOf : MethodName := ⟨"HomeCalls$Street", "goalOf", "(II)I"⟩
theorem hd_T_goalOf : y_T_goalOf.cls = "HomeCalls$Street" ∧ y_T_goalOf.cls ≠ "java/lang/invoke/MethodHandle" ∧ y_T_goalOf.cls ≠ "java/lang/invoke/VarHandle" ∧ (parseMethodDescriptor y_T_goalOf.desc).map (fun d => d.parameters.length) = some 2 := by decide +kernel
abbrev y_T_cellsOff : MethodName := ⟨"HomeCalls$Street", "cellsOff", "(II)I"⟩
theorem hd_T_cellsOff : y_T_cellsOff.cls = "HomeCalls$Street" ∧ y_T_cellsOff.cls ≠ "java/lang/invoke/MethodHandle" ∧ y_T_cellsOff.cls ≠ "java/lang/invoke/VarHandle" ∧ (parseMethodDescriptor y_T_cellsOff.desc).map (fun d => d.parameters.length) = some 2 := by decide +kernel
abbrev y_T_isHeld : MethodName := ⟨"HomeCalls$Street", "isHeld", "(II)Z"⟩
theorem hd_T_isHeld : y_T_isHeld.cls = "HomeCalls$Street" ∧ y_T_isHeld.cls ≠ "java/lang/invoke/MethodHandle" ∧ y_T_isHeld.cls ≠ "java/lang/invoke/VarHandle" ∧ (parseMethodDescriptor y_T_isHeld.desc).map (fun d => d.parameters.length) = some 2 := by decide +kernel
abbrev y_T_crowdIn : MethodName := ⟨"HomeCalls$Street", "crowdIn", "(I)I"⟩
theorem hd_T_crowdIn : y_T_crowdIn.cls = "HomeCalls$Street" ∧ y_T_crowdIn.cls ≠ "java/lang/invoke/MethodHandle" ∧ y_T_crowdIn.cls ≠ "java/lang/invoke/VarHandle" ∧ (parseMethodDescriptor y_T_crowdIn.desc).map (fun d => d.parameters.length) = some 1 := by decide +kernel
abbrev y_T_runners : MethodName := ⟨"HomeCalls$Street", "runners", "()I"⟩
theorem hd_T_runners : y_T_runners.cls = "HomeCalls$Street" ∧ y_T_runners.cls ≠ "java/lang/invoke/MethodHandle" ∧ y_T_runners.cls ≠ "java/lang/invoke/VarHandle" ∧ (parseMethodDescriptor y_T_runners.desc).map (fun d => d.parameters.length) = some 0 := by decide +kernel
abbrev y_T_allHave : MethodName := ⟨"HomeCalls$Street", "allHave", "(II)Z"⟩
theorem hd_T_allHave : y_T_allHave.cls = "HomeCalls$Street" ∧ y_T_allHave.cls ≠ "java/lang/invoke/MethodHandle" ∧ y_T_allHave.cls ≠ "java/lang/invoke/VarHandle" ∧ (parseMethodDescriptor y_T_allHave.desc).map (fun d => d.parameters.length) = some 2 := by decide +kernel
abbrev y_T_sum : MethodName := ⟨"HomeCalls$Street", "sum", "([I)I"⟩
theorem hd_T_sum : y_T_sum.cls = "HomeCalls$Street" ∧ y_T_sum.cls ≠ "java/lang/invoke/MethodHandle" ∧ y_T_sum.cls ≠ "java/lang/invoke/VarHandle" ∧ (parseMethodDescriptor y_T_sum.desc).map (fun d => d.parameters.length) = some 1 := by decide +kernel
abbrev y_I_bitCount : MethodName := ⟨"java/lang/Integer", "bitCount", "(I)I"⟩
theorem hd_I_bitCount : y_I_bitCount.cls = "java/lang/Integer" ∧ y_I_bitCount.cls ≠ "java/lang/invoke/MethodHandle" ∧ y_I_bitCount.cls ≠ "java/lang/invoke/VarHandle" ∧ (parseMethodDescriptor y_I_bitCount.desc).map (fun d => d.parameters.length) = some 1 := by decide +kernel
abbrev y_A_abs : MethodName := ⟨"java/lang/Math", "abs", "(I)I"⟩
theorem hd_A_abs : y_A_abs.cls = "java/lang/Math" ∧ y_A_abs.cls ≠ "java/lang/invoke/MethodHandle" ∧ y_A_abs.cls ≠ "java/lang/invoke/VarHandle" ∧ (parseMethodDescriptor y_A_abs.desc).map (fun d => d.parameters.length) = some 1 := by decide +kernel
abbrev y_A_floorMod : MethodName := ⟨"java/lang/Math", "floorMod", "(II)I"⟩
theorem hd_A_floorMod : y_A_floorMod.cls = "java/lang/Math" ∧ y_A_floorMod.cls ≠ "java/lang/invoke/MethodHandle" ∧ y_A_floorMod.cls ≠ "java/lang/invoke/VarHandle" ∧ (parseMethodDescriptor y_A_floorMod.desc).map (fun d => d.parameters.length) = some 2 := by decide +kernel
abbrev y_A_max : MethodName := ⟨"java/lang/Math", "max", "(II)I"⟩
theorem hd_A_max : y_A_max.cls = "java/lang/Math" ∧ y_A_max.cls ≠ "java/lang/invoke/MethodHandle" ∧ y_A_max.cls ≠ "java/lang/invoke/VarHandle" ∧ (parseMethodDescriptor y_A_max.desc).map (fun d => d.parameters.length) = some 2 := by decide +kernel
abbrev y_A_min : MethodName := ⟨"java/lang/Math", "min", "(II)I"⟩
theorem hd_A_min : y_A_min.cls = "java/lang/Math" ∧ y_A_min.cls ≠ "java/lang/invoke/MethodHandle" ∧ y_A_min.cls ≠ "java/lang/invoke/VarHandle" ∧ (parseMethodDescriptor y_A_min.desc).map (fun d => d.parameters.length) = some 2 := by decide +kernel
abbrev y_Y_fill : MethodName := ⟨"java/util/Arrays", "fill", "([II)V"⟩
theorem hd_Y_fill : y_Y_fill.cls = "java/util/Arrays" ∧ y_Y_fill.cls ≠ "java/lang/invoke/MethodHandle" ∧ y_Y_fill.cls ≠ "java/lang/invoke/VarHandle" ∧ (parseMethodDescriptor y_Y_fill.desc).map (fun d => d.parameters.length) = some 2 := by decide +kernel
def tk_0 : List Cond := [Cond.selects "HomeCalls" (⟨"HomeCalls", "error", "(I)I"⟩ : MethodName) (⟨"HomeCalls", "error", "(I)I"⟩ : MethodName), Cond.selects "HomeCalls" (⟨"HomeCalls", "isChild", "(I)Z"⟩ : MethodName) (⟨"HomeCalls", "isChild", "(I)Z"⟩ : MethodName), Cond.selects "HomeCalls$Reader" (⟨"HomeCalls$Reader", "goesOn", "(II)Z"⟩ : MethodName) (⟨"HomeCalls$Reader", "goesOn", "(II)Z"⟩ : MethodName), Cond.selects "HomeCalls$Reader" (⟨"HomeCalls$Reader", "readDigit", "(I)Z"⟩ : MethodName) (⟨"HomeCalls$Reader", "readDigit", "(I)Z"⟩ : MethodName), Cond.selects "HomeCalls$Reader" (⟨"HomeCalls$Reader", "emit", "(I)V"⟩ : MethodName) (⟨"HomeCalls$Reader", "emit", "(I)V"⟩ : MethodName), Cond.selects "HomeCalls$Reader" (⟨"HomeCalls$Reader", "readStart", "(II)Z"⟩ : MethodName) (⟨"HomeCalls$Reader", "readStart", "(II)Z"⟩ : MethodName), Cond.selects "HomeCalls$Reader" (⟨"HomeCalls$Reader", "hold", "(I)V"⟩ : MethodName) (⟨"HomeCalls$Reader", "hold", "(I)V"⟩ : MethodName), Cond.selects "HomeCalls$Reader" (⟨"HomeCalls$Reader", "readNext", "(I)Z"⟩ : MethodName) (⟨"HomeCalls$Reader", "readNext", "(I)Z"⟩ : MethodName), Cond.selects "HomeCalls$Reader" (⟨"HomeCalls$Reader", "closeNots", "()V"⟩ : MethodName) (⟨"HomeCalls$Reader", "closeNots", "()V"⟩ : MethodName), Cond.selects "HomeCalls$Reader" (⟨"HomeCalls$Reader", "closeRound", "()Z"⟩ : MethodName) (⟨"HomeCalls$Reader", "closeRound", "()Z"⟩ : MethodName), Cond.selects "HomeCalls$Reader" (⟨"HomeCalls$Reader", "release", "(I)V"⟩ : MethodName) (⟨"HomeCalls$Reader", "release", "(I)V"⟩ : MethodName), Cond.selects "HomeCalls$Reader" (⟨"HomeCalls$Reader", "isWhole", "()Z"⟩ : MethodName) (⟨"HomeCalls$Reader", "isWhole", "()Z"⟩ : MethodName), Cond.selects "HomeCalls$Law" (⟨"HomeCalls$Law", "push", "(I)V"⟩ : MethodName) (⟨"HomeCalls$Law", "push", "(I)V"⟩ : MethodName), Cond.selects "HomeCalls$Law" (⟨"HomeCalls$Law", "pop", "()I"⟩ : MethodName) (⟨"HomeCalls$Law", "pop", "()I"⟩ : MethodName), Cond.selects "HomeCalls$Street" (⟨"HomeCalls$Street", "goalOf", "(II)I"⟩ : MethodName) (⟨"HomeCalls$Street", "goalOf", "(II)I"⟩ : MethodName), Cond.selects "HomeCalls$Street" (⟨"HomeCalls$Street", "isHeld", "(II)Z"⟩ : MethodName) (⟨"HomeCalls$Street", "isHeld", "(II)Z"⟩ : MethodName), Cond.selects "HomeCalls$Street" (⟨"HomeCalls$Street", "crowdIn", "(I)I"⟩ : MethodName) (⟨"HomeCalls$Street", "crowdIn", "(I)I"⟩ : MethodName), Cond.selects "HomeCalls" (⟨"HomeCalls", "markFor", "(III)I"⟩ : MethodName) (⟨"HomeCalls", "markFor", "(III)I"⟩ : MethodName), Cond.selects "HomeCalls" (⟨"HomeCalls", "scoreFor", "(II)I"⟩ : MethodName) (⟨"HomeCalls", "scoreFor", "(II)I"⟩ : MethodName), Cond.selects "HomeCalls" (⟨"HomeCalls", "hadWithout", "(IIII)Z"⟩ : MethodName) (⟨"HomeCalls", "hadWithout", "(IIII)Z"⟩ : MethodName), Cond.selects "HomeCalls$Speaker" (⟨"HomeCalls$Speaker", "speak", "(IIII)I"⟩ : MethodName) (⟨"HomeCalls$Speaker", "speak", "(IIII)I"⟩ : MethodName), Cond.selects "HomeCalls$Speaker" (⟨"HomeCalls$Speaker", "note", "(I)V"⟩ : MethodName) (⟨"HomeCalls$Speaker", "note", "(I)V"⟩ : MethodName), Cond.selects "HomeCallsModel" (⟨"HomeCallsModel", "errs", "(I)I"⟩ : MethodName) (⟨"HomeCallsModel", "errs", "(I)I"⟩ : MethodName), Cond.selects "HomeCallsModel" (⟨"HomeCallsModel", "adds", "(II)V"⟩ : MethodName) (⟨"HomeCallsModel", "adds", "(II)V"⟩ : MethodName), Cond.selects "HomeCallsModel" (⟨"HomeCallsModel", "isThing", "(I)Z"⟩ : MethodName) (⟨"HomeCallsModel", "isThing", "(I)Z"⟩ : MethodName), Cond.selects "HomeCallsModel" (⟨"HomeCallsModel", "becomes", "(II)I"⟩ : MethodName) (⟨"HomeCallsModel", "becomes", "(II)I"⟩ : MethodName), Cond.selects "HomeCallsModel" (⟨"HomeCallsModel", "gets", "(III)V"⟩ : MethodName) (⟨"HomeCallsModel", "gets", "(III)V"⟩ : MethodName), Cond.selects "HomeCallsModel" (⟨"HomeCallsModel", "isChild", "(I)Z"⟩ : MethodName) (⟨"HomeCallsModel", "isChild", "(I)Z"⟩ : MethodName), Cond.selects "HomeCallsModel" (⟨"HomeCallsModel", "its", "(II)I"⟩ : MethodName) (⟨"HomeCallsModel", "its", "(II)I"⟩ : MethodName), Cond.selects "HomeCallsModel" (⟨"HomeCallsModel", "pace", "(I)I"⟩ : MethodName) (⟨"HomeCallsModel", "pace", "(I)I"⟩ : MethodName), Cond.selects "HomeCallsModel" (⟨"HomeCallsModel", "far", "(I)I"⟩ : MethodName) (⟨"HomeCallsModel", "far", "(I)I"⟩ : MethodName), Cond.selects "HomeCallsModel" (⟨"HomeCallsModel", "lawOf", "(IIII)I"⟩ : MethodName) (⟨"HomeCallsModel", "lawOf", "(IIII)I"⟩ : MethodName), Cond.selects "HomeCallsModel" (⟨"HomeCallsModel", "walks", "(IIII)I"⟩ : MethodName) (⟨"HomeCallsModel", "walks", "(IIII)I"⟩ : MethodName), Cond.selects "HomeCallsModel" (⟨"HomeCallsModel", "whole", "()I"⟩ : MethodName) (⟨"HomeCallsModel", "whole", "()I"⟩ : MethodName), Cond.selects "HomeCallsModel" (⟨"HomeCallsModel", "both", "()I"⟩ : MethodName) (⟨"HomeCallsModel", "both", "()I"⟩ : MethodName), Cond.selects "HomeCallsModel" (⟨"HomeCallsModel", "compared", "()I"⟩ : MethodName) (⟨"HomeCallsModel", "compared", "()I"⟩ : MethodName), Cond.selects "HomeCallsModel" (⟨"HomeCallsModel", "sum", "()I"⟩ : MethodName) (⟨"HomeCallsModel", "sum", "()I"⟩ : MethodName), Cond.selects "HomeCallsModel" (⟨"HomeCallsModel", "product", "()I"⟩ : MethodName) (⟨"HomeCallsModel", "product", "()I"⟩ : MethodName), Cond.selects "HomeCallsModel" (⟨"HomeCallsModel", "factor", "()I"⟩ : MethodName) (⟨"HomeCallsModel", "factor", "()I"⟩ : MethodName), Cond.selects "HomeCallsModel" (⟨"HomeCallsModel", "byteAt", "(I)I"⟩ : MethodName) (⟨"HomeCallsModel", "byteAt", "(I)I"⟩ : MethodName), Cond.selects "HomeCallsModel" (⟨"HomeCallsModel", "number", "()I"⟩ : MethodName) (⟨"HomeCallsModel", "number", "()I"⟩ : MethodName), Cond.selects "HomeCallsModel" (⟨"HomeCallsModel", "named", "(I)I"⟩ : MethodName) (⟨"HomeCallsModel", "named", "(I)I"⟩ : MethodName), Cond.selects "HomeCallsModel" (⟨"HomeCallsModel", "fails", "()I"⟩ : MethodName) (⟨"HomeCallsModel", "fails", "()I"⟩ : MethodName), Cond.selects "HomeCallsModel" (⟨"HomeCallsModel", "moveAll", "([I[I)V"⟩ : MethodName) (⟨"HomeCallsModel", "moveAll", "([I[I)V"⟩ : MethodName), Cond.selects "HomeCallsModel" (⟨"HomeCallsModel", "calls", "(II)I"⟩ : MethodName) (⟨"HomeCallsModel", "calls", "(II)I"⟩ : MethodName), Cond.selects "HomeCallsModel" (⟨"HomeCallsModel", "ends", "(III)I"⟩ : MethodName) (⟨"HomeCallsModel", "ends", "(III)I"⟩ : MethodName), Cond.selects "HomeCallsModel" (⟨"HomeCallsModel", "aim", "(II)I"⟩ : MethodName) (⟨"HomeCallsModel", "aim", "(II)I"⟩ : MethodName), Cond.selects "HomeCallsModel" (⟨"HomeCallsModel", "isMarked", "(II)Z"⟩ : MethodName) (⟨"HomeCallsModel", "isMarked", "(II)Z"⟩ : MethodName)]
set_option maxRecDepth 40000 in
theorem tks_0 : ∀ w ∈ tk_0, w ∈ lw_tbl := fun w h => List.mem_of_mem_drop (List.mem_of_mem_take (show w ∈ (lw_tbl.drop 0).take 48 from h))
def tk_1 : List Cond := [Cond.selects "HomeCallsModel" (⟨"HomeCallsModel", "isSafe", "(II)Z"⟩ : MethodName) (⟨"HomeCallsModel", "isSafe", "(II)Z"⟩ : MethodName), Cond.selects "HomeCallsModel" (⟨"HomeCallsModel", "drawn", "(I)I"⟩ : MethodName) (⟨"HomeCallsModel", "drawn", "(I)I"⟩ : MethodName), Cond.selects "HomeCallsModel" (⟨"HomeCallsModel", "wouldBe", "(II)I"⟩ : MethodName) (⟨"HomeCallsModel", "wouldBe", "(II)I"⟩ : MethodName), Cond.selects "HomeCallsModel" (⟨"HomeCallsModel", "hadOften", "(II)I"⟩ : MethodName) (⟨"HomeCallsModel", "hadOften", "(II)I"⟩ : MethodName), Cond.selects "HomeCallsModel" (⟨"HomeCallsModel", "players", "()I"⟩ : MethodName) (⟨"HomeCallsModel", "players", "()I"⟩ : MethodName), Cond.selects "HomeCallsModel" (⟨"HomeCallsModel", "shoutsIn", "(II)I"⟩ : MethodName) (⟨"HomeCallsModel", "shoutsIn", "(II)I"⟩ : MethodName), Cond.selects "HomeCallsModel" (⟨"HomeCallsModel", "ran", "(I)V"⟩ : MethodName) (⟨"HomeCallsModel", "ran", "(I)V"⟩ : MethodName), Cond.selects "HomeCallsModel" (⟨"HomeCallsModel", "runsIn", "(II)I"⟩ : MethodName) (⟨"HomeCallsModel", "runsIn", "(II)I"⟩ : MethodName), Cond.selects "HomeCallsModel" (⟨"HomeCallsModel", "touchesIn", "(II)I"⟩ : MethodName) (⟨"HomeCallsModel", "touchesIn", "(II)I"⟩ : MethodName), Cond.selects "HomeCallsModel" (⟨"HomeCallsModel", "tellsIn", "(II)I"⟩ : MethodName) (⟨"HomeCallsModel", "tellsIn", "(II)I"⟩ : MethodName), Cond.selects "HomeCallsModel" (⟨"HomeCallsModel", "sumOf", "(I)I"⟩ : MethodName) (⟨"HomeCallsModel", "sumOf", "(I)I"⟩ : MethodName), (Jvm.Cond.initialized "HomeCallsLaw"), (Jvm.Cond.initialized "HomeCalls"), (Jvm.Cond.initialized "HomeCalls$Street"), (Jvm.Cond.initialized "HomeCalls$Law"), (Jvm.Cond.initialized "HomeCalls$Reader"), (Jvm.Cond.initialized "HomeCalls$Speaker"), (Jvm.Cond.initialized "HomeCalls$Sheet"), (Jvm.Cond.initialized "HomeCallsModel"), (Jvm.Cond.initialized "java/lang/Math"), (Jvm.Cond.initialized "java/lang/System"), (Jvm.Cond.initialized "java/lang/Integer"), (Jvm.Cond.initialized "java/util/Arrays"), (Jvm.Cond.classLink "HomeCallsLaw" (7 : Nat) "HomeCalls"), (Jvm.Cond.instantiable "HomeCalls" (8 : Nat)), (Jvm.Cond.methodLink "HomeCallsLaw" (9 : Nat) ({ cls := "HomeCalls", name := "<init>", desc := "()V" } : Jvm.MethodName)), (Jvm.Cond.instanceMethod ({ cls := "HomeCalls", name := "<init>", desc := "()V" } : Jvm.MethodName)), (Jvm.Cond.code ({ cls := "HomeCalls", name := "<init>", desc := "()V" } : Jvm.MethodName) prog_1_method_1_code (1 : Nat) (Option.none : Option Jvm.ClassFile.FieldType)), (Jvm.Cond.methodLink "HomeCalls" (1 : Nat) ({ cls := "java/lang/Object", name := "<init>", desc := "()V" } : Jvm.MethodName)), (Jvm.Cond.instanceMethod ({ cls := "java/lang/Object", name := "<init>", desc := "()V" } : Jvm.MethodName)), (Jvm.Cond.code ({ cls := "java/lang/Object", name := "<init>", desc := "()V" } : Jvm.MethodName) object_method_1_code (1 : Nat) (Option.none : Option Jvm.ClassFile.FieldType)), (Jvm.Cond.classLink "HomeCalls" (7 : Nat) "HomeCalls$Street"), (Jvm.Cond.instantiable "HomeCalls$Street" (18 : Nat)), (Jvm.Cond.methodLinkNest "HomeCalls" (9 : Nat) ({ cls := "HomeCalls$Street", name := "<init>", desc := "()V" } : Jvm.MethodName) "HomeCalls"), (Jvm.Cond.instanceMethod ({ cls := "HomeCalls$Street", name := "<init>", desc := "()V" } : Jvm.MethodName)), (Jvm.Cond.code ({ cls := "HomeCalls$Street", name := "<init>", desc := "()V" } : Jvm.MethodName) prog_6_method_1_code (1 : Nat) (Option.none : Option Jvm.ClassFile.FieldType)), (Jvm.Cond.methodLink "HomeCalls$Street" (3 : Nat) ({ cls := "java/lang/Object", name := "<init>", desc := "()V" } : Jvm.MethodName)), (Jvm.Cond.classLink "HomeCalls$Street" (40 : Nat) "HomeCalls$Law"), (Jvm.Cond.arrayOver (Jvm.ClassFile.FieldType.object "HomeCalls$Law")), (Jvm.Cond.instantiable "HomeCalls$Law" (4 : Nat)), (Jvm.Cond.methodLinkNest "HomeCalls$Street" (42 : Nat) ({ cls := "HomeCalls$Law", name := "<init>", desc := "()V" } : Jvm.MethodName) "HomeCalls"), (Jvm.Cond.instanceMethod ({ cls := "HomeCalls$Law", name := "<init>", desc := "()V" } : Jvm.MethodName)), (Jvm.Cond.code ({ cls := "HomeCalls$Law", name := "<init>", desc := "()V" } : Jvm.MethodName) prog_2_method_1_code (1 : Nat) (Option.none : Option Jvm.ClassFile.FieldType)), (Jvm.Cond.methodLink "HomeCalls$Law" (3 : Nat) ({ cls := "java/lang/Object", name := "<init>", desc := "()V" } : Jvm.MethodName)), (Jvm.Cond.fieldLink "HomeCalls$Law" (9 : Nat) "HomeCalls$Law" "code" "[I"), (Jvm.Cond.fieldLink "HomeCalls$Street" (69 : Nat) "HomeCalls$Law" "code" "[I"), (Jvm.Cond.fieldLink "HomeCalls$Law" (24 : Nat) "HomeCalls$Law" "size" "I"), (Jvm.Cond.fieldLink "HomeCalls$Street" (72 : Nat) "HomeCalls$Law" "size" "I")]
set_option maxRecDepth 40000 in
theorem tks_1 : ∀ w ∈ tk_1, w ∈ lw_tbl := fun w h => List.mem_of_mem_drop (List.mem_of_mem_take (show w ∈ (lw_tbl.drop 48).take 48 from h))
def tk_2 : List Cond := [(Jvm.Cond.fieldLink "HomeCalls$Law" (15 : Nat) "HomeCalls$Law" "stack" "[I"), (Jvm.Cond.fieldLink "HomeCalls$Law" (34 : Nat) "HomeCalls$Law" "top" "I"), (Jvm.Cond.laysFinal "HomeCalls$Law" "HomeCalls$Law" "code" "[I"), (Jvm.Cond.soleField "HomeCalls$Law" "code"), (Jvm.Cond.lays "HomeCalls$Law" "HomeCalls$Law" "size" "I"), (Jvm.Cond.soleField "HomeCalls$Law" "size"), (Jvm.Cond.laysFinal "HomeCalls$Law" "HomeCalls$Law" "stack" "[I"), (Jvm.Cond.soleField "HomeCalls$Law" "stack"), (Jvm.Cond.lays "HomeCalls$Law" "HomeCalls$Law" "top" "I"), (Jvm.Cond.soleField "HomeCalls$Law" "top"), (Jvm.Cond.superclass "HomeCalls$Law" "java/lang/Object"), (Jvm.Cond.arrayClass Jvm.ClassFile.FieldType.int), (Jvm.Cond.fieldLink "HomeCalls$Street" (9 : Nat) "HomeCalls$Street" "cells" "[I"), (Jvm.Cond.fieldLink "HomeCalls" (185 : Nat) "HomeCalls$Street" "cells" "[I"), (Jvm.Cond.fieldLink "HomeCalls$Street" (15 : Nat) "HomeCalls$Street" "marks" "[I"), (Jvm.Cond.fieldLink "HomeCalls" (254 : Nat) "HomeCalls$Street" "marks" "[I"), (Jvm.Cond.fieldLink "HomeCalls$Street" (60 : Nat) "HomeCalls$Street" "things" "I"), (Jvm.Cond.fieldLink "HomeCalls" (55 : Nat) "HomeCalls$Street" "things" "I"), (Jvm.Cond.fieldLink "HomeCalls$Street" (18 : Nat) "HomeCalls$Street" "kinds" "[I"), (Jvm.Cond.fieldLink "HomeCalls" (81 : Nat) "HomeCalls$Street" "kinds" "[I"), (Jvm.Cond.fieldLink "HomeCalls$Street" (21 : Nat) "HomeCalls$Street" "numbers" "[I"), (Jvm.Cond.fieldLink "HomeCalls" (84 : Nat) "HomeCalls$Street" "numbers" "[I"), (Jvm.Cond.fieldLink "HomeCalls$Street" (24 : Nat) "HomeCalls$Street" "at" "[I"), (Jvm.Cond.fieldLink "HomeCalls" (87 : Nat) "HomeCalls$Street" "at" "[I"), (Jvm.Cond.fieldLink "HomeCalls$Street" (27 : Nat) "HomeCalls$Street" "had" "[I"), (Jvm.Cond.fieldLink "HomeCalls" (90 : Nat) "HomeCalls$Street" "had" "[I"), (Jvm.Cond.fieldLink "HomeCalls$Street" (30 : Nat) "HomeCalls$Street" "safe" "[I"), (Jvm.Cond.fieldLink "HomeCalls" (93 : Nat) "HomeCalls$Street" "safe" "[I"), (Jvm.Cond.fieldLink "HomeCalls$Street" (63 : Nat) "HomeCalls$Street" "children" "I"), (Jvm.Cond.fieldLink "HomeCalls" (71 : Nat) "HomeCalls$Street" "children" "I"), (Jvm.Cond.fieldLink "HomeCalls$Street" (33 : Nat) "HomeCalls$Street" "it" "I"), (Jvm.Cond.fieldLink "HomeCalls" (102 : Nat) "HomeCalls$Street" "it" "I"), (Jvm.Cond.fieldLink "HomeCalls$Street" (66 : Nat) "HomeCalls$Street" "calls" "I"), (Jvm.Cond.fieldLink "HomeCalls" (147 : Nat) "HomeCalls$Street" "calls" "I"), (Jvm.Cond.fieldLink "HomeCalls$Street" (37 : Nat) "HomeCalls$Street" "z" "I"), (Jvm.Cond.fieldLink "HomeCalls" (194 : Nat) "HomeCalls$Street" "z" "I"), (Jvm.Cond.fieldLink "HomeCalls$Street" (43 : Nat) "HomeCalls$Street" "laws" "[LHomeCalls$Law;"), (Jvm.Cond.fieldLink "HomeCalls" (124 : Nat) "HomeCalls$Street" "laws" "[LHomeCalls$Law;"), (Jvm.Cond.fieldLink "HomeCalls$Street" (47 : Nat) "HomeCalls$Street" "tape" "[I"), (Jvm.Cond.fieldLink "HomeCalls" (118 : Nat) "HomeCalls$Street" "tape" "[I"), (Jvm.Cond.fieldLink "HomeCalls$Street" (79 : Nat) "HomeCalls$Street" "bytes" "I"), (Jvm.Cond.fieldLink "HomeCalls" (111 : Nat) "HomeCalls$Street" "bytes" "I"), (Jvm.Cond.fieldLink "HomeCalls$Street" (50 : Nat) "HomeCalls$Street" "waiting" "[I"), (Jvm.Cond.fieldLink "HomeCalls" (237 : Nat) "HomeCalls$Street" "waiting" "[I"), (Jvm.Cond.fieldLink "HomeCalls$Street" (82 : Nat) "HomeCalls$Street" "waits" "I"), (Jvm.Cond.fieldLink "HomeCalls" (234 : Nat) "HomeCalls$Street" "waits" "I"), (Jvm.Cond.fieldLink "HomeCalls$Street" (53 : Nat) "HomeCalls$Street" "ends" "[I"), (Jvm.Cond.laysFinal "HomeCalls$Street" "HomeCalls$Street" "cells" "[I")]
set_option maxRecDepth 40000 in
theorem tks_2 : ∀ w ∈ tk_2, w ∈ lw_tbl := fun w h => List.mem_of_mem_drop (List.mem_of_mem_take (show w ∈ (lw_tbl.drop 96).take 48 from h))
def tk_3 : List Cond := [(Jvm.Cond.soleField "HomeCalls$Street" "cells"), (Jvm.Cond.laysFinal "HomeCalls$Street" "HomeCalls$Street" "marks" "[I"), (Jvm.Cond.soleField "HomeCalls$Street" "marks"), (Jvm.Cond.lays "HomeCalls$Street" "HomeCalls$Street" "things" "I"), (Jvm.Cond.soleField "HomeCalls$Street" "things"), (Jvm.Cond.laysFinal "HomeCalls$Street" "HomeCalls$Street" "kinds" "[I"), (Jvm.Cond.soleField "HomeCalls$Street" "kinds"), (Jvm.Cond.laysFinal "HomeCalls$Street" "HomeCalls$Street" "numbers" "[I"), (Jvm.Cond.soleField "HomeCalls$Street" "numbers"), (Jvm.Cond.laysFinal "HomeCalls$Street" "HomeCalls$Street" "at" "[I"), (Jvm.Cond.soleField "HomeCalls$Street" "at"), (Jvm.Cond.laysFinal "HomeCalls$Street" "HomeCalls$Street" "had" "[I"), (Jvm.Cond.soleField "HomeCalls$Street" "had"), (Jvm.Cond.laysFinal "HomeCalls$Street" "HomeCalls$Street" "safe" "[I"), (Jvm.Cond.soleField "HomeCalls$Street" "safe"), (Jvm.Cond.lays "HomeCalls$Street" "HomeCalls$Street" "children" "I"), (Jvm.Cond.soleField "HomeCalls$Street" "children"), (Jvm.Cond.lays "HomeCalls$Street" "HomeCalls$Street" "it" "I"), (Jvm.Cond.soleField "HomeCalls$Street" "it"), (Jvm.Cond.lays "HomeCalls$Street" "HomeCalls$Street" "calls" "I"), (Jvm.Cond.soleField "HomeCalls$Street" "calls"), (Jvm.Cond.lays "HomeCalls$Street" "HomeCalls$Street" "z" "I"), (Jvm.Cond.soleField "HomeCalls$Street" "z"), (Jvm.Cond.laysFinal "HomeCalls$Street" "HomeCalls$Street" "laws" "[LHomeCalls$Law;"), (Jvm.Cond.soleField "HomeCalls$Street" "laws"), (Jvm.Cond.laysFinal "HomeCalls$Street" "HomeCalls$Street" "tape" "[I"), (Jvm.Cond.soleField "HomeCalls$Street" "tape"), (Jvm.Cond.lays "HomeCalls$Street" "HomeCalls$Street" "bytes" "I"), (Jvm.Cond.soleField "HomeCalls$Street" "bytes"), (Jvm.Cond.laysFinal "HomeCalls$Street" "HomeCalls$Street" "waiting" "[I"), (Jvm.Cond.soleField "HomeCalls$Street" "waiting"), (Jvm.Cond.lays "HomeCalls$Street" "HomeCalls$Street" "waits" "I"), (Jvm.Cond.soleField "HomeCalls$Street" "waits"), (Jvm.Cond.laysFinal "HomeCalls$Street" "HomeCalls$Street" "ends" "[I"), (Jvm.Cond.soleField "HomeCalls$Street" "ends"), (Jvm.Cond.superclass "HomeCalls$Street" "java/lang/Object"), (Jvm.Cond.classLink "HomeCalls" (22 : Nat) "HomeCalls$Reader"), (Jvm.Cond.instantiable "HomeCalls$Reader" (7 : Nat)), (Jvm.Cond.methodLinkNest "HomeCalls" (24 : Nat) ({ cls := "HomeCalls$Reader", name := "<init>", desc := "()V" } : Jvm.MethodName) "HomeCalls"), (Jvm.Cond.instanceMethod ({ cls := "HomeCalls$Reader", name := "<init>", desc := "()V" } : Jvm.MethodName)), (Jvm.Cond.code ({ cls := "HomeCalls$Reader", name := "<init>", desc := "()V" } : Jvm.MethodName) prog_3_method_1_code (1 : Nat) (Option.none : Option Jvm.ClassFile.FieldType)), (Jvm.Cond.methodLink "HomeCalls$Reader" (3 : Nat) ({ cls := "java/lang/Object", name := "<init>", desc := "()V" } : Jvm.MethodName)), (Jvm.Cond.fieldLink "HomeCalls$Reader" (9 : Nat) "HomeCalls$Reader" "code" "[I"), (Jvm.Cond.fieldLink "HomeCalls" (128 : Nat) "HomeCalls$Reader" "code" "[I"), (Jvm.Cond.fieldLink "HomeCalls$Reader" (18 : Nat) "HomeCalls$Reader" "size" "I"), (Jvm.Cond.fieldLink "HomeCalls" (131 : Nat) "HomeCalls$Reader" "size" "I"), (Jvm.Cond.fieldLink "HomeCalls$Reader" (15 : Nat) "HomeCalls$Reader" "held" "[I"), (Jvm.Cond.fieldLink "HomeCalls$Reader" (22 : Nat) "HomeCalls$Reader" "top" "I")]
set_option maxRecDepth 40000 in
theorem tks_3 : ∀ w ∈ tk_3, w ∈ lw_tbl := fun w h => List.mem_of_mem_drop (List.mem_of_mem_take (show w ∈ (lw_tbl.drop 144).take 48 from h))
def tk_4 : List Cond := [(Jvm.Cond.fieldLink "HomeCalls$Reader" (25 : Nat) "HomeCalls$Reader" "open" "I"), (Jvm.Cond.fieldLink "HomeCalls$Reader" (28 : Nat) "HomeCalls$Reader" "digits" "I"), (Jvm.Cond.fieldLink "HomeCalls$Reader" (31 : Nat) "HomeCalls$Reader" "wantsValue" "Z"), (Jvm.Cond.laysFinal "HomeCalls$Reader" "HomeCalls$Reader" "code" "[I"), (Jvm.Cond.soleField "HomeCalls$Reader" "code"), (Jvm.Cond.lays "HomeCalls$Reader" "HomeCalls$Reader" "size" "I"), (Jvm.Cond.soleField "HomeCalls$Reader" "size"), (Jvm.Cond.laysFinal "HomeCalls$Reader" "HomeCalls$Reader" "held" "[I"), (Jvm.Cond.soleField "HomeCalls$Reader" "held"), (Jvm.Cond.lays "HomeCalls$Reader" "HomeCalls$Reader" "top" "I"), (Jvm.Cond.soleField "HomeCalls$Reader" "top"), (Jvm.Cond.lays "HomeCalls$Reader" "HomeCalls$Reader" "open" "I"), (Jvm.Cond.soleField "HomeCalls$Reader" "open"), (Jvm.Cond.lays "HomeCalls$Reader" "HomeCalls$Reader" "digits" "I"), (Jvm.Cond.soleField "HomeCalls$Reader" "digits"), (Jvm.Cond.lays "HomeCalls$Reader" "HomeCalls$Reader" "wantsValue" "Z"), (Jvm.Cond.soleField "HomeCalls$Reader" "wantsValue"), (Jvm.Cond.superclass "HomeCalls$Reader" "java/lang/Object"), (Jvm.Cond.classLink "HomeCalls" (29 : Nat) "HomeCalls$Speaker"), (Jvm.Cond.instantiable "HomeCalls$Speaker" (5 : Nat)), (Jvm.Cond.methodLinkNest "HomeCalls" (31 : Nat) ({ cls := "HomeCalls$Speaker", name := "<init>", desc := "()V" } : Jvm.MethodName) "HomeCalls"), (Jvm.Cond.instanceMethod ({ cls := "HomeCalls$Speaker", name := "<init>", desc := "()V" } : Jvm.MethodName)), (Jvm.Cond.code ({ cls := "HomeCalls$Speaker", name := "<init>", desc := "()V" } : Jvm.MethodName) prog_5_method_1_code (1 : Nat) (Option.none : Option Jvm.ClassFile.FieldType)), (Jvm.Cond.methodLink "HomeCalls$Speaker" (3 : Nat) ({ cls := "java/lang/Object", name := "<init>", desc := "()V" } : Jvm.MethodName)), (Jvm.Cond.fieldLink "HomeCalls$Speaker" (9 : Nat) "HomeCalls$Speaker" "bodies" "[I"), (Jvm.Cond.fieldLink "HomeCalls" (204 : Nat) "HomeCalls$Speaker" "bodies" "[I"), (Jvm.Cond.fieldLink "HomeCalls$Speaker" (15 : Nat) "HomeCalls$Speaker" "began" "I"), (Jvm.Cond.fieldLink "HomeCalls" (201 : Nat) "HomeCalls$Speaker" "began" "I"), (Jvm.Cond.fieldLink "HomeCalls$Speaker" (19 : Nat) "HomeCalls$Speaker" "kind" "I"), (Jvm.Cond.fieldLink "HomeCalls$Speaker" (22 : Nat) "HomeCalls$Speaker" "n" "I"), (Jvm.Cond.fieldLink "HomeCalls$Speaker" (25 : Nat) "HomeCalls$Speaker" "m" "I"), (Jvm.Cond.laysFinal "HomeCalls$Speaker" "HomeCalls$Speaker" "bodies" "[I"), (Jvm.Cond.soleField "HomeCalls$Speaker" "bodies"), (Jvm.Cond.lays "HomeCalls$Speaker" "HomeCalls$Speaker" "began" "I"), (Jvm.Cond.soleField "HomeCalls$Speaker" "began"), (Jvm.Cond.lays "HomeCalls$Speaker" "HomeCalls$Speaker" "kind" "I"), (Jvm.Cond.soleField "HomeCalls$Speaker" "kind"), (Jvm.Cond.lays "HomeCalls$Speaker" "HomeCalls$Speaker" "n" "I"), (Jvm.Cond.soleField "HomeCalls$Speaker" "n"), (Jvm.Cond.lays "HomeCalls$Speaker" "HomeCalls$Speaker" "m" "I"), (Jvm.Cond.soleField "HomeCalls$Speaker" "m"), (Jvm.Cond.superclass "HomeCalls$Speaker" "java/lang/Object"), (Jvm.Cond.classLink "HomeCalls" (36 : Nat) "HomeCalls$Sheet"), (Jvm.Cond.arrayOver (Jvm.ClassFile.FieldType.object "HomeCalls$Sheet")), (Jvm.Cond.instantiable "HomeCalls$Sheet" (3 : Nat)), (Jvm.Cond.methodLinkNest "HomeCalls" (38 : Nat) ({ cls := "HomeCalls$Sheet", name := "<init>", desc := "()V" } : Jvm.MethodName) "HomeCalls"), (Jvm.Cond.instanceMethod ({ cls := "HomeCalls$Sheet", name := "<init>", desc := "()V" } : Jvm.MethodName)), (Jvm.Cond.code ({ cls := "HomeCalls$Sheet", name := "<init>", desc := "()V" } : Jvm.MethodName) prog_4_method_1_code (1 : Nat) (Option.none : Option Jvm.ClassFile.FieldType))]
set_option maxRecDepth 40000 in
theorem tks_4 : ∀ w ∈ tk_4, w ∈ lw_tbl := fun w h => List.mem_of_mem_drop (List.mem_of_mem_take (show w ∈ (lw_tbl.drop 192).take 48 from h))
def tk_5 : List Cond := [(Jvm.Cond.methodLink "HomeCalls$Sheet" (3 : Nat) ({ cls := "java/lang/Object", name := "<init>", desc := "()V" } : Jvm.MethodName)), (Jvm.Cond.fieldLink "HomeCalls$Sheet" (9 : Nat) "HomeCalls$Sheet" "numbers" "[I"), (Jvm.Cond.fieldLink "HomeCalls" (193 : Nat) "HomeCalls$Sheet" "numbers" "[I"), (Jvm.Cond.fieldLink "HomeCalls$Sheet" (25 : Nat) "HomeCalls$Sheet" "size" "I"), (Jvm.Cond.fieldLink "HomeCalls" (192 : Nat) "HomeCalls$Sheet" "size" "I"), (Jvm.Cond.fieldLink "HomeCalls$Sheet" (15 : Nat) "HomeCalls$Sheet" "bits" "I"), (Jvm.Cond.fieldLink "HomeCalls" (214 : Nat) "HomeCalls$Sheet" "bits" "I"), (Jvm.Cond.laysFinal "HomeCalls$Sheet" "HomeCalls$Sheet" "numbers" "[I"), (Jvm.Cond.soleField "HomeCalls$Sheet" "numbers"), (Jvm.Cond.lays "HomeCalls$Sheet" "HomeCalls$Sheet" "size" "I"), (Jvm.Cond.soleField "HomeCalls$Sheet" "size"), (Jvm.Cond.lays "HomeCalls$Sheet" "HomeCalls$Sheet" "bits" "I"), (Jvm.Cond.soleField "HomeCalls$Sheet" "bits"), (Jvm.Cond.superclass "HomeCalls$Sheet" "java/lang/Object"), (Jvm.Cond.fieldLink "HomeCalls" (10 : Nat) "HomeCalls" "now" "LHomeCalls$Street;"), (Jvm.Cond.fieldLink "HomeCalls" (16 : Nat) "HomeCalls" "kept" "LHomeCalls$Street;"), (Jvm.Cond.fieldLink "HomeCalls" (19 : Nat) "HomeCalls" "thought" "LHomeCalls$Street;"), (Jvm.Cond.fieldLink "HomeCalls" (25 : Nat) "HomeCalls" "reader" "LHomeCalls$Reader;"), (Jvm.Cond.fieldLink "HomeCalls" (32 : Nat) "HomeCalls" "speaker" "LHomeCalls$Speaker;"), (Jvm.Cond.fieldLink "HomeCalls" (39 : Nat) "HomeCalls" "sheets" "[LHomeCalls$Sheet;"), (Jvm.Cond.fieldLink "HomeCalls" (43 : Nat) "HomeCalls" "errors" "[I"), (Jvm.Cond.fieldLink "HomeCalls" (231 : Nat) "HomeCalls" "images" "I"), (Jvm.Cond.laysFinal "HomeCalls" "HomeCalls" "now" "LHomeCalls$Street;"), (Jvm.Cond.soleField "HomeCalls" "now"), (Jvm.Cond.laysFinal "HomeCalls" "HomeCalls" "kept" "LHomeCalls$Street;"), (Jvm.Cond.soleField "HomeCalls" "kept"), (Jvm.Cond.laysFinal "HomeCalls" "HomeCalls" "thought" "LHomeCalls$Street;"), (Jvm.Cond.soleField "HomeCalls" "thought"), (Jvm.Cond.laysFinal "HomeCalls" "HomeCalls" "reader" "LHomeCalls$Reader;"), (Jvm.Cond.soleField "HomeCalls" "reader"), (Jvm.Cond.laysFinal "HomeCalls" "HomeCalls" "speaker" "LHomeCalls$Speaker;"), (Jvm.Cond.soleField "HomeCalls" "speaker"), (Jvm.Cond.laysFinal "HomeCalls" "HomeCalls" "sheets" "[LHomeCalls$Sheet;"), (Jvm.Cond.soleField "HomeCalls" "sheets"), (Jvm.Cond.laysFinal "HomeCalls" "HomeCalls" "errors" "[I"), (Jvm.Cond.soleField "HomeCalls" "errors"), (Jvm.Cond.lays "HomeCalls" "HomeCalls" "images" "I"), (Jvm.Cond.soleField "HomeCalls" "images"), (Jvm.Cond.superclass "HomeCalls" "java/lang/Object"), (Jvm.Cond.methodLink "HomeCallsLaw" (13 : Nat) ({ cls := "HomeCalls", name := "thing", desc := "(II)I" } : Jvm.MethodName)), (Jvm.Cond.instanceMethod ({ cls := "HomeCalls", name := "thing", desc := "(II)I" } : Jvm.MethodName)), (Jvm.Cond.selects "HomeCalls" ({ cls := "HomeCalls", name := "thing", desc := "(II)I" } : Jvm.MethodName) ({ cls := "HomeCalls", name := "thing", desc := "(II)I" } : Jvm.MethodName)), (Jvm.Cond.code ({ cls := "HomeCalls", name := "thing", desc := "(II)I" } : Jvm.MethodName) prog_1_method_2_code (3 : Nat) (Option.some Jvm.ClassFile.FieldType.int)), (Jvm.Cond.methodLink "HomeCalls" (47 : Nat) ({ cls := "HomeCalls", name := "isBelow", desc := "(II)Z" } : Jvm.MethodName)), (Jvm.Cond.static ({ cls := "HomeCalls", name := "isBelow", desc := "(II)Z" } : Jvm.MethodName)), (Jvm.Cond.code ({ cls := "HomeCalls", name := "isBelow", desc := "(II)Z" } : Jvm.MethodName) prog_1_method_44_code (2 : Nat) (Option.some Jvm.ClassFile.FieldType.boolean)), (Jvm.Cond.methodLink "HomeCalls" (51 : Nat) ({ cls := "HomeCalls", name := "error", desc := "(I)I" } : Jvm.MethodName)), (Jvm.Cond.privateMethod ({ cls := "HomeCalls", name := "error", desc := "(I)I" } : Jvm.MethodName))]
set_option maxRecDepth 40000 in
theorem tks_5 : ∀ w ∈ tk_5, w ∈ lw_tbl := fun w h => List.mem_of_mem_drop (List.mem_of_mem_take (show w ∈ (lw_tbl.drop 240).take 48 from h))
def tk_6 : List Cond := [(Jvm.Cond.instanceMethod ({ cls := "HomeCalls", name := "error", desc := "(I)I" } : Jvm.MethodName)), (Jvm.Cond.code ({ cls := "HomeCalls", name := "error", desc := "(I)I" } : Jvm.MethodName) prog_1_method_43_code (2 : Nat) (Option.some Jvm.ClassFile.FieldType.int)), (Jvm.Cond.constant "HomeCalls" (244 : Nat) (-1000000000 : Int32)), (Jvm.Cond.methodLink "HomeCalls" (59 : Nat) ({ cls := "HomeCalls$Street", name := "addThing", desc := "(II)I" } : Jvm.MethodName)), (Jvm.Cond.instanceMethod ({ cls := "HomeCalls$Street", name := "addThing", desc := "(II)I" } : Jvm.MethodName)), (Jvm.Cond.selects "HomeCalls$Street" ({ cls := "HomeCalls$Street", name := "addThing", desc := "(II)I" } : Jvm.MethodName) ({ cls := "HomeCalls$Street", name := "addThing", desc := "(II)I" } : Jvm.MethodName)), (Jvm.Cond.code ({ cls := "HomeCalls$Street", name := "addThing", desc := "(II)I" } : Jvm.MethodName) prog_6_method_4_code (3 : Nat) (Option.some Jvm.ClassFile.FieldType.int)), (Jvm.Cond.methodLink "HomeCallsLaw" (18 : Nat) ({ cls := "HomeCalls", name := "ofThing", desc := "(II)I" } : Jvm.MethodName)), (Jvm.Cond.instanceMethod ({ cls := "HomeCalls", name := "ofThing", desc := "(II)I" } : Jvm.MethodName)), (Jvm.Cond.selects "HomeCalls" ({ cls := "HomeCalls", name := "ofThing", desc := "(II)I" } : Jvm.MethodName) ({ cls := "HomeCalls", name := "ofThing", desc := "(II)I" } : Jvm.MethodName)), (Jvm.Cond.code ({ cls := "HomeCalls", name := "ofThing", desc := "(II)I" } : Jvm.MethodName) prog_1_method_3_code (3 : Nat) (Option.some Jvm.ClassFile.FieldType.int)), (Jvm.Cond.methodLink "HomeCalls" (63 : Nat) ({ cls := "HomeCalls$Street", name := "rowOfThings", desc := "(I)[I" } : Jvm.MethodName)), (Jvm.Cond.instanceMethod ({ cls := "HomeCalls$Street", name := "rowOfThings", desc := "(I)[I" } : Jvm.MethodName)), (Jvm.Cond.selects "HomeCalls$Street" ({ cls := "HomeCalls$Street", name := "rowOfThings", desc := "(I)[I" } : Jvm.MethodName) ({ cls := "HomeCalls$Street", name := "rowOfThings", desc := "(I)[I" } : Jvm.MethodName)), (Jvm.Cond.code ({ cls := "HomeCalls$Street", name := "rowOfThings", desc := "(I)[I" } : Jvm.MethodName) prog_6_method_5_code (2 : Nat) (Option.some (Jvm.ClassFile.FieldType.array Jvm.ClassFile.FieldType.int))), (Jvm.Cond.methodLink "HomeCallsLaw" (22 : Nat) ({ cls := "HomeCalls", name := "shift", desc := "(III)I" } : Jvm.MethodName)), (Jvm.Cond.instanceMethod ({ cls := "HomeCalls", name := "shift", desc := "(III)I" } : Jvm.MethodName)), (Jvm.Cond.selects "HomeCalls" ({ cls := "HomeCalls", name := "shift", desc := "(III)I" } : Jvm.MethodName) ({ cls := "HomeCalls", name := "shift", desc := "(III)I" } : Jvm.MethodName)), (Jvm.Cond.code ({ cls := "HomeCalls", name := "shift", desc := "(III)I" } : Jvm.MethodName) prog_1_method_4_code (4 : Nat) (Option.some Jvm.ClassFile.FieldType.int)), (Jvm.Cond.methodLink "HomeCalls" (67 : Nat) ({ cls := "HomeCalls", name := "replace", desc := "([III)I" } : Jvm.MethodName)), (Jvm.Cond.static ({ cls := "HomeCalls", name := "replace", desc := "([III)I" } : Jvm.MethodName)), (Jvm.Cond.code ({ cls := "HomeCalls", name := "replace", desc := "([III)I" } : Jvm.MethodName) prog_1_method_48_code (4 : Nat) (Option.some Jvm.ClassFile.FieldType.int)), (Jvm.Cond.methodLink "HomeCallsLaw" (27 : Nat) ({ cls := "HomeCalls", name := "child", desc := "(II)I" } : Jvm.MethodName)), (Jvm.Cond.instanceMethod ({ cls := "HomeCalls", name := "child", desc := "(II)I" } : Jvm.MethodName)), (Jvm.Cond.selects "HomeCalls" ({ cls := "HomeCalls", name := "child", desc := "(II)I" } : Jvm.MethodName) ({ cls := "HomeCalls", name := "child", desc := "(II)I" } : Jvm.MethodName)), (Jvm.Cond.code ({ cls := "HomeCalls", name := "child", desc := "(II)I" } : Jvm.MethodName) prog_1_method_5_code (3 : Nat) (Option.some Jvm.ClassFile.FieldType.int)), (Jvm.Cond.methodLink "HomeCalls" (74 : Nat) ({ cls := "HomeCalls$Street", name := "addChild", desc := "(II)I" } : Jvm.MethodName)), (Jvm.Cond.instanceMethod ({ cls := "HomeCalls$Street", name := "addChild", desc := "(II)I" } : Jvm.MethodName)), (Jvm.Cond.selects "HomeCalls$Street" ({ cls := "HomeCalls$Street", name := "addChild", desc := "(II)I" } : Jvm.MethodName) ({ cls := "HomeCalls$Street", name := "addChild", desc := "(II)I" } : Jvm.MethodName)), (Jvm.Cond.code ({ cls := "HomeCalls$Street", name := "addChild", desc := "(II)I" } : Jvm.MethodName) prog_6_method_6_code (3 : Nat) (Option.some Jvm.ClassFile.FieldType.int)), (Jvm.Cond.methodLink "HomeCallsLaw" (31 : Nat) ({ cls := "HomeCalls", name := "ofChild", desc := "(II)I" } : Jvm.MethodName)), (Jvm.Cond.instanceMethod ({ cls := "HomeCalls", name := "ofChild", desc := "(II)I" } : Jvm.MethodName)), (Jvm.Cond.selects "HomeCalls" ({ cls := "HomeCalls", name := "ofChild", desc := "(II)I" } : Jvm.MethodName) ({ cls := "HomeCalls", name := "ofChild", desc := "(II)I" } : Jvm.MethodName)), (Jvm.Cond.code ({ cls := "HomeCalls", name := "ofChild", desc := "(II)I" } : Jvm.MethodName) prog_1_method_6_code (3 : Nat) (Option.some Jvm.ClassFile.FieldType.int)), (Jvm.Cond.methodLink "HomeCalls" (77 : Nat) ({ cls := "HomeCalls", name := "isChild", desc := "(I)Z" } : Jvm.MethodName)), (Jvm.Cond.privateMethod ({ cls := "HomeCalls", name := "isChild", desc := "(I)Z" } : Jvm.MethodName)), (Jvm.Cond.instanceMethod ({ cls := "HomeCalls", name := "isChild", desc := "(I)Z" } : Jvm.MethodName)), (Jvm.Cond.code ({ cls := "HomeCalls", name := "isChild", desc := "(I)Z" } : Jvm.MethodName) prog_1_method_47_code (2 : Nat) (Option.some Jvm.ClassFile.FieldType.boolean)), (Jvm.Cond.methodLink "HomeCalls" (96 : Nat) ({ cls := "HomeCalls$Street", name := "pace", desc := "(I)I" } : Jvm.MethodName)), (Jvm.Cond.instanceMethod ({ cls := "HomeCalls$Street", name := "pace", desc := "(I)I" } : Jvm.MethodName)), (Jvm.Cond.selects "HomeCalls$Street" ({ cls := "HomeCalls$Street", name := "pace", desc := "(I)I" } : Jvm.MethodName) ({ cls := "HomeCalls$Street", name := "pace", desc := "(I)I" } : Jvm.MethodName)), (Jvm.Cond.code ({ cls := "HomeCalls$Street", name := "pace", desc := "(I)I" } : Jvm.MethodName) prog_6_method_9_code (4 : Nat) (Option.some Jvm.ClassFile.FieldType.int)), (Jvm.Cond.methodLink "HomeCalls" (99 : Nat) ({ cls := "HomeCalls$Street", name := "far", desc := "(I)I" } : Jvm.MethodName)), (Jvm.Cond.instanceMethod ({ cls := "HomeCalls$Street", name := "far", desc := "(I)I" } : Jvm.MethodName)), (Jvm.Cond.selects "HomeCalls$Street" ({ cls := "HomeCalls$Street", name := "far", desc := "(I)I" } : Jvm.MethodName) ({ cls := "HomeCalls$Street", name := "far", desc := "(I)I" } : Jvm.MethodName)), (Jvm.Cond.code ({ cls := "HomeCalls$Street", name := "far", desc := "(I)I" } : Jvm.MethodName) prog_6_method_10_code (3 : Nat) (Option.some Jvm.ClassFile.FieldType.int)), (Jvm.Cond.methodLink "HomeCallsLaw" (35 : Nat) ({ cls := "HomeCalls", name := "change", desc := "(III)I" } : Jvm.MethodName)), (Jvm.Cond.instanceMethod ({ cls := "HomeCalls", name := "change", desc := "(III)I" } : Jvm.MethodName))]
set_option maxRecDepth 40000 in
theorem tks_6 : ∀ w ∈ tk_6, w ∈ lw_tbl := fun w h => List.mem_of_mem_drop (List.mem_of_mem_take (show w ∈ (lw_tbl.drop 288).take 48 from h))
def tk_7 : List Cond := [(Jvm.Cond.selects "HomeCalls" ({ cls := "HomeCalls", name := "change", desc := "(III)I" } : Jvm.MethodName) ({ cls := "HomeCalls", name := "change", desc := "(III)I" } : Jvm.MethodName)), (Jvm.Cond.code ({ cls := "HomeCalls", name := "change", desc := "(III)I" } : Jvm.MethodName) prog_1_method_7_code (4 : Nat) (Option.some Jvm.ClassFile.FieldType.int)), (Jvm.Cond.methodLink "HomeCallsLaw" (39 : Nat) ({ cls := "HomeCalls", name := "it", desc := "(I)I" } : Jvm.MethodName)), (Jvm.Cond.instanceMethod ({ cls := "HomeCalls", name := "it", desc := "(I)I" } : Jvm.MethodName)), (Jvm.Cond.selects "HomeCalls" ({ cls := "HomeCalls", name := "it", desc := "(I)I" } : Jvm.MethodName) ({ cls := "HomeCalls", name := "it", desc := "(I)I" } : Jvm.MethodName)), (Jvm.Cond.code ({ cls := "HomeCalls", name := "it", desc := "(I)I" } : Jvm.MethodName) prog_1_method_8_code (3 : Nat) (Option.some Jvm.ClassFile.FieldType.int)), (Jvm.Cond.methodLink "HomeCallsLaw" (44 : Nat) ({ cls := "HomeCalls", name := "become", desc := "(II)I" } : Jvm.MethodName)), (Jvm.Cond.instanceMethod ({ cls := "HomeCalls", name := "become", desc := "(II)I" } : Jvm.MethodName)), (Jvm.Cond.selects "HomeCalls" ({ cls := "HomeCalls", name := "become", desc := "(II)I" } : Jvm.MethodName) ({ cls := "HomeCalls", name := "become", desc := "(II)I" } : Jvm.MethodName)), (Jvm.Cond.code ({ cls := "HomeCalls", name := "become", desc := "(II)I" } : Jvm.MethodName) prog_1_method_9_code (3 : Nat) (Option.some Jvm.ClassFile.FieldType.int)), (Jvm.Cond.methodLink "HomeCallsLaw" (48 : Nat) ({ cls := "HomeCalls", name := "as", desc := "(II)I" } : Jvm.MethodName)), (Jvm.Cond.instanceMethod ({ cls := "HomeCalls", name := "as", desc := "(II)I" } : Jvm.MethodName)), (Jvm.Cond.selects "HomeCalls" ({ cls := "HomeCalls", name := "as", desc := "(II)I" } : Jvm.MethodName) ({ cls := "HomeCalls", name := "as", desc := "(II)I" } : Jvm.MethodName)), (Jvm.Cond.code ({ cls := "HomeCalls", name := "as", desc := "(II)I" } : Jvm.MethodName) prog_1_method_10_code (3 : Nat) (Option.some Jvm.ClassFile.FieldType.int)), (Jvm.Cond.fieldLink "HomeCalls" (105 : Nat) "HomeCalls" "IS" "[I"), (Jvm.Cond.laysStatic "HomeCalls" "IS" "[I"), (Jvm.Cond.methodLink "HomeCalls" (108 : Nat) ({ cls := "HomeCalls", name := "isIn", desc := "(II)Z" } : Jvm.MethodName)), (Jvm.Cond.static ({ cls := "HomeCalls", name := "isIn", desc := "(II)Z" } : Jvm.MethodName)), (Jvm.Cond.code ({ cls := "HomeCalls", name := "isIn", desc := "(II)Z" } : Jvm.MethodName) prog_1_method_45_code (2 : Nat) (Option.some Jvm.ClassFile.FieldType.boolean)), (Jvm.Cond.methodLink "HomeCallsLaw" (54 : Nat) ({ cls := "HomeCalls", name := "feed", desc := "(JI)I" } : Jvm.MethodName)), (Jvm.Cond.instanceMethod ({ cls := "HomeCalls", name := "feed", desc := "(JI)I" } : Jvm.MethodName)), (Jvm.Cond.selects "HomeCalls" ({ cls := "HomeCalls", name := "feed", desc := "(JI)I" } : Jvm.MethodName) ({ cls := "HomeCalls", name := "feed", desc := "(JI)I" } : Jvm.MethodName)), (Jvm.Cond.code ({ cls := "HomeCalls", name := "feed", desc := "(JI)I" } : Jvm.MethodName) prog_1_method_11_code (4 : Nat) (Option.some Jvm.ClassFile.FieldType.int)), (Jvm.Cond.methodLink "HomeCalls" (114 : Nat) ({ cls := "HomeCalls$Street", name := "addBytes", desc := "(JI)I" } : Jvm.MethodName)), (Jvm.Cond.instanceMethod ({ cls := "HomeCalls$Street", name := "addBytes", desc := "(JI)I" } : Jvm.MethodName)), (Jvm.Cond.selects "HomeCalls$Street" ({ cls := "HomeCalls$Street", name := "addBytes", desc := "(JI)I" } : Jvm.MethodName) ({ cls := "HomeCalls$Street", name := "addBytes", desc := "(JI)I" } : Jvm.MethodName)), (Jvm.Cond.code ({ cls := "HomeCalls$Street", name := "addBytes", desc := "(JI)I" } : Jvm.MethodName) prog_6_method_7_code (5 : Nat) (Option.some Jvm.ClassFile.FieldType.int)), (Jvm.Cond.constantLong "HomeCalls$Street" (97 : Nat) (255 : Int64)), (Jvm.Cond.methodLink "HomeCallsLaw" (59 : Nat) ({ cls := "HomeCalls", name := "text", desc := "(I)I" } : Jvm.MethodName)), (Jvm.Cond.instanceMethod ({ cls := "HomeCalls", name := "text", desc := "(I)I" } : Jvm.MethodName)), (Jvm.Cond.selects "HomeCalls" ({ cls := "HomeCalls", name := "text", desc := "(I)I" } : Jvm.MethodName) ({ cls := "HomeCalls", name := "text", desc := "(I)I" } : Jvm.MethodName)), (Jvm.Cond.code ({ cls := "HomeCalls", name := "text", desc := "(I)I" } : Jvm.MethodName) prog_1_method_12_code (3 : Nat) (Option.some Jvm.ClassFile.FieldType.int)), (Jvm.Cond.methodLink "HomeCalls" (121 : Nat) ({ cls := "HomeCalls$Reader", name := "faultOf", desc := "([III)I" } : Jvm.MethodName)), (Jvm.Cond.instanceMethod ({ cls := "HomeCalls$Reader", name := "faultOf", desc := "([III)I" } : Jvm.MethodName)), (Jvm.Cond.selects "HomeCalls$Reader" ({ cls := "HomeCalls$Reader", name := "faultOf", desc := "([III)I" } : Jvm.MethodName) ({ cls := "HomeCalls$Reader", name := "faultOf", desc := "([III)I" } : Jvm.MethodName)), (Jvm.Cond.code ({ cls := "HomeCalls$Reader", name := "faultOf", desc := "([III)I" } : Jvm.MethodName) prog_3_method_2_code (6 : Nat) (Option.some Jvm.ClassFile.FieldType.int)), (Jvm.Cond.methodLink "HomeCalls$Reader" (35 : Nat) ({ cls := "java/lang/Math", name := "min", desc := "(II)I" } : Jvm.MethodName)), (Jvm.Cond.static ({ cls := "java/lang/Math", name := "min", desc := "(II)I" } : Jvm.MethodName)), (Jvm.Cond.code ({ cls := "java/lang/Math", name := "min", desc := "(II)I" } : Jvm.MethodName) prog_10_method_69_code (2 : Nat) (Option.some Jvm.ClassFile.FieldType.int)), (Jvm.Cond.methodLink "HomeCalls$Reader" (41 : Nat) ({ cls := "HomeCalls$Reader", name := "goesOn", desc := "(II)Z" } : Jvm.MethodName)), (Jvm.Cond.privateMethod ({ cls := "HomeCalls$Reader", name := "goesOn", desc := "(II)Z" } : Jvm.MethodName)), (Jvm.Cond.instanceMethod ({ cls := "HomeCalls$Reader", name := "goesOn", desc := "(II)Z" } : Jvm.MethodName)), (Jvm.Cond.code ({ cls := "HomeCalls$Reader", name := "goesOn", desc := "(II)Z" } : Jvm.MethodName) prog_3_method_3_code (3 : Nat) (Option.some Jvm.ClassFile.FieldType.boolean)), (Jvm.Cond.methodLink "HomeCalls$Reader" (49 : Nat) ({ cls := "HomeCalls$Reader", name := "readDigit", desc := "(I)Z" } : Jvm.MethodName)), (Jvm.Cond.privateMethod ({ cls := "HomeCalls$Reader", name := "readDigit", desc := "(I)Z" } : Jvm.MethodName)), (Jvm.Cond.instanceMethod ({ cls := "HomeCalls$Reader", name := "readDigit", desc := "(I)Z" } : Jvm.MethodName)), (Jvm.Cond.code ({ cls := "HomeCalls$Reader", name := "readDigit", desc := "(I)Z" } : Jvm.MethodName) prog_3_method_4_code (2 : Nat) (Option.some Jvm.ClassFile.FieldType.boolean)), (Jvm.Cond.methodLink "HomeCalls$Reader" (59 : Nat) ({ cls := "HomeCalls$Reader", name := "emit", desc := "(I)V" } : Jvm.MethodName))]
set_option maxRecDepth 40000 in
theorem tks_7 : ∀ w ∈ tk_7, w ∈ lw_tbl := fun w h => List.mem_of_mem_drop (List.mem_of_mem_take (show w ∈ (lw_tbl.drop 336).take 48 from h))
def tk_8 : List Cond := [(Jvm.Cond.privateMethod ({ cls := "HomeCalls$Reader", name := "emit", desc := "(I)V" } : Jvm.MethodName)), (Jvm.Cond.instanceMethod ({ cls := "HomeCalls$Reader", name := "emit", desc := "(I)V" } : Jvm.MethodName)), (Jvm.Cond.code ({ cls := "HomeCalls$Reader", name := "emit", desc := "(I)V" } : Jvm.MethodName) prog_3_method_12_code (2 : Nat) (Option.none : Option Jvm.ClassFile.FieldType)), (Jvm.Cond.methodLink "HomeCalls$Reader" (53 : Nat) ({ cls := "HomeCalls$Reader", name := "readStart", desc := "(II)Z" } : Jvm.MethodName)), (Jvm.Cond.privateMethod ({ cls := "HomeCalls$Reader", name := "readStart", desc := "(II)Z" } : Jvm.MethodName)), (Jvm.Cond.instanceMethod ({ cls := "HomeCalls$Reader", name := "readStart", desc := "(II)Z" } : Jvm.MethodName)), (Jvm.Cond.code ({ cls := "HomeCalls$Reader", name := "readStart", desc := "(II)Z" } : Jvm.MethodName) prog_3_method_5_code (4 : Nat) (Option.some Jvm.ClassFile.FieldType.boolean)), (Jvm.Cond.fieldLink "HomeCalls$Reader" (63 : Nat) "HomeCalls$Reader" "NAMES_OF_USES" "[C"), (Jvm.Cond.laysStatic "HomeCalls$Reader" "NAMES_OF_USES" "[C"), (Jvm.Cond.methodLink "HomeCalls$Reader" (69 : Nat) ({ cls := "HomeCalls$Reader", name := "hold", desc := "(I)V" } : Jvm.MethodName)), (Jvm.Cond.privateMethod ({ cls := "HomeCalls$Reader", name := "hold", desc := "(I)V" } : Jvm.MethodName)), (Jvm.Cond.instanceMethod ({ cls := "HomeCalls$Reader", name := "hold", desc := "(I)V" } : Jvm.MethodName)), (Jvm.Cond.code ({ cls := "HomeCalls$Reader", name := "hold", desc := "(I)V" } : Jvm.MethodName) prog_3_method_11_code (2 : Nat) (Option.none : Option Jvm.ClassFile.FieldType)), (Jvm.Cond.methodLink "HomeCalls$Reader" (56 : Nat) ({ cls := "HomeCalls$Reader", name := "readNext", desc := "(I)Z" } : Jvm.MethodName)), (Jvm.Cond.privateMethod ({ cls := "HomeCalls$Reader", name := "readNext", desc := "(I)Z" } : Jvm.MethodName)), (Jvm.Cond.instanceMethod ({ cls := "HomeCalls$Reader", name := "readNext", desc := "(I)Z" } : Jvm.MethodName)), (Jvm.Cond.code ({ cls := "HomeCalls$Reader", name := "readNext", desc := "(I)Z" } : Jvm.MethodName) prog_3_method_6_code (3 : Nat) (Option.some Jvm.ClassFile.FieldType.boolean)), (Jvm.Cond.methodLink "HomeCalls$Reader" (72 : Nat) ({ cls := "HomeCalls$Reader", name := "closeNots", desc := "()V" } : Jvm.MethodName)), (Jvm.Cond.privateMethod ({ cls := "HomeCalls$Reader", name := "closeNots", desc := "()V" } : Jvm.MethodName)), (Jvm.Cond.instanceMethod ({ cls := "HomeCalls$Reader", name := "closeNots", desc := "()V" } : Jvm.MethodName)), (Jvm.Cond.code ({ cls := "HomeCalls$Reader", name := "closeNots", desc := "()V" } : Jvm.MethodName) prog_3_method_9_code (1 : Nat) (Option.none : Option Jvm.ClassFile.FieldType)), (Jvm.Cond.methodLink "HomeCalls$Reader" (75 : Nat) ({ cls := "HomeCalls$Reader", name := "closeRound", desc := "()Z" } : Jvm.MethodName)), (Jvm.Cond.privateMethod ({ cls := "HomeCalls$Reader", name := "closeRound", desc := "()Z" } : Jvm.MethodName)), (Jvm.Cond.instanceMethod ({ cls := "HomeCalls$Reader", name := "closeRound", desc := "()Z" } : Jvm.MethodName)), (Jvm.Cond.code ({ cls := "HomeCalls$Reader", name := "closeRound", desc := "()Z" } : Jvm.MethodName) prog_3_method_7_code (1 : Nat) (Option.some Jvm.ClassFile.FieldType.boolean)), (Jvm.Cond.methodLink "HomeCalls$Reader" (82 : Nat) ({ cls := "HomeCalls$Reader", name := "release", desc := "(I)V" } : Jvm.MethodName)), (Jvm.Cond.privateMethod ({ cls := "HomeCalls$Reader", name := "release", desc := "(I)V" } : Jvm.MethodName)), (Jvm.Cond.instanceMethod ({ cls := "HomeCalls$Reader", name := "release", desc := "(I)V" } : Jvm.MethodName)), (Jvm.Cond.code ({ cls := "HomeCalls$Reader", name := "release", desc := "(I)V" } : Jvm.MethodName) prog_3_method_10_code (2 : Nat) (Option.none : Option Jvm.ClassFile.FieldType)), (Jvm.Cond.methodLink "HomeCalls$Reader" (78 : Nat) ({ cls := "HomeCalls$Reader", name := "rankOf", desc := "(I)I" } : Jvm.MethodName)), (Jvm.Cond.static ({ cls := "HomeCalls$Reader", name := "rankOf", desc := "(I)I" } : Jvm.MethodName)), (Jvm.Cond.code ({ cls := "HomeCalls$Reader", name := "rankOf", desc := "(I)I" } : Jvm.MethodName) prog_3_method_13_code (1 : Nat) (Option.some Jvm.ClassFile.FieldType.int)), (Jvm.Cond.methodLink "HomeCalls$Reader" (45 : Nat) ({ cls := "HomeCalls$Reader", name := "isWhole", desc := "()Z" } : Jvm.MethodName)), (Jvm.Cond.privateMethod ({ cls := "HomeCalls$Reader", name := "isWhole", desc := "()Z" } : Jvm.MethodName)), (Jvm.Cond.instanceMethod ({ cls := "HomeCalls$Reader", name := "isWhole", desc := "()Z" } : Jvm.MethodName)), (Jvm.Cond.code ({ cls := "HomeCalls$Reader", name := "isWhole", desc := "()Z" } : Jvm.MethodName) prog_3_method_8_code (1 : Nat) (Option.some Jvm.ClassFile.FieldType.boolean)), (Jvm.Cond.methodLink "HomeCalls" (134 : Nat) ({ cls := "HomeCalls$Law", name := "adopt", desc := "([II)V" } : Jvm.MethodName)), (Jvm.Cond.instanceMethod ({ cls := "HomeCalls$Law", name := "adopt", desc := "([II)V" } : Jvm.MethodName)), (Jvm.Cond.selects "HomeCalls$Law" ({ cls := "HomeCalls$Law", name := "adopt", desc := "([II)V" } : Jvm.MethodName) ({ cls := "HomeCalls$Law", name := "adopt", desc := "([II)V" } : Jvm.MethodName)), (Jvm.Cond.code ({ cls := "HomeCalls$Law", name := "adopt", desc := "([II)V" } : Jvm.MethodName) prog_2_method_2_code (3 : Nat) (Option.none : Option Jvm.ClassFile.FieldType)), (Jvm.Cond.methodLink "HomeCalls$Law" (18 : Nat) ({ cls := "java/lang/Math", name := "min", desc := "(II)I" } : Jvm.MethodName)), (Jvm.Cond.methodLink "HomeCalls$Law" (28 : Nat) ({ cls := "java/lang/System", name := "arraycopy", desc := "(Ljava/lang/Object;ILjava/lang/Object;II)V" } : Jvm.MethodName)), (Jvm.Cond.static ({ cls := "java/lang/System", name := "arraycopy", desc := "(Ljava/lang/Object;ILjava/lang/Object;II)V" } : Jvm.MethodName)), (Jvm.Cond.native ({ cls := "java/lang/System", name := "arraycopy", desc := "(Ljava/lang/Object;ILjava/lang/Object;II)V" } : Jvm.MethodName)), (Jvm.Cond.methodLink "HomeCallsLaw" (63 : Nat) ({ cls := "HomeCalls", name := "law", desc := "(IIII)I" } : Jvm.MethodName)), (Jvm.Cond.instanceMethod ({ cls := "HomeCalls", name := "law", desc := "(IIII)I" } : Jvm.MethodName)), (Jvm.Cond.selects "HomeCalls" ({ cls := "HomeCalls", name := "law", desc := "(IIII)I" } : Jvm.MethodName) ({ cls := "HomeCalls", name := "law", desc := "(IIII)I" } : Jvm.MethodName)), (Jvm.Cond.code ({ cls := "HomeCalls", name := "law", desc := "(IIII)I" } : Jvm.MethodName) prog_1_method_13_code (5 : Nat) (Option.some Jvm.ClassFile.FieldType.int))]
set_option maxRecDepth 40000 in
theorem tks_8 : ∀ w ∈ tk_8, w ∈ lw_tbl := fun w h => List.mem_of_mem_drop (List.mem_of_mem_take (show w ∈ (lw_tbl.drop 384).take 48 from h))
def tk_9 : List Cond := [(Jvm.Cond.methodLink "HomeCalls" (140 : Nat) ({ cls := "HomeCalls$Law", name := "gives", desc := "(III)I" } : Jvm.MethodName)), (Jvm.Cond.instanceMethod ({ cls := "HomeCalls$Law", name := "gives", desc := "(III)I" } : Jvm.MethodName)), (Jvm.Cond.selects "HomeCalls$Law" ({ cls := "HomeCalls$Law", name := "gives", desc := "(III)I" } : Jvm.MethodName) ({ cls := "HomeCalls$Law", name := "gives", desc := "(III)I" } : Jvm.MethodName)), (Jvm.Cond.code ({ cls := "HomeCalls$Law", name := "gives", desc := "(III)I" } : Jvm.MethodName) prog_2_method_3_code (7 : Nat) (Option.some Jvm.ClassFile.FieldType.int)), (Jvm.Cond.methodLink "HomeCalls$Law" (37 : Nat) ({ cls := "HomeCalls$Law", name := "push", desc := "(I)V" } : Jvm.MethodName)), (Jvm.Cond.privateMethod ({ cls := "HomeCalls$Law", name := "push", desc := "(I)V" } : Jvm.MethodName)), (Jvm.Cond.instanceMethod ({ cls := "HomeCalls$Law", name := "push", desc := "(I)V" } : Jvm.MethodName)), (Jvm.Cond.code ({ cls := "HomeCalls$Law", name := "push", desc := "(I)V" } : Jvm.MethodName) prog_2_method_4_code (2 : Nat) (Option.none : Option Jvm.ClassFile.FieldType)), (Jvm.Cond.methodLink "HomeCalls$Law" (41 : Nat) ({ cls := "HomeCalls$Law", name := "pop", desc := "()I" } : Jvm.MethodName)), (Jvm.Cond.privateMethod ({ cls := "HomeCalls$Law", name := "pop", desc := "()I" } : Jvm.MethodName)), (Jvm.Cond.instanceMethod ({ cls := "HomeCalls$Law", name := "pop", desc := "()I" } : Jvm.MethodName)), (Jvm.Cond.code ({ cls := "HomeCalls$Law", name := "pop", desc := "()I" } : Jvm.MethodName) prog_2_method_5_code (1 : Nat) (Option.some Jvm.ClassFile.FieldType.int)), (Jvm.Cond.methodLink "HomeCalls$Law" (45 : Nat) ({ cls := "HomeCalls$Law", name := "worked", desc := "(III)I" } : Jvm.MethodName)), (Jvm.Cond.static ({ cls := "HomeCalls$Law", name := "worked", desc := "(III)I" } : Jvm.MethodName)), (Jvm.Cond.code ({ cls := "HomeCalls$Law", name := "worked", desc := "(III)I" } : Jvm.MethodName) prog_2_method_6_code (3 : Nat) (Option.some Jvm.ClassFile.FieldType.int)), (Jvm.Cond.methodLink "HomeCalls$Law" (49 : Nat) ({ cls := "java/lang/Math", name := "max", desc := "(II)I" } : Jvm.MethodName)), (Jvm.Cond.static ({ cls := "java/lang/Math", name := "max", desc := "(II)I" } : Jvm.MethodName)), (Jvm.Cond.code ({ cls := "java/lang/Math", name := "max", desc := "(II)I" } : Jvm.MethodName) prog_10_method_65_code (2 : Nat) (Option.some Jvm.ClassFile.FieldType.int)), (Jvm.Cond.methodLink "HomeCallsLaw" (68 : Nat) ({ cls := "HomeCalls", name := "call", desc := "(II)I" } : Jvm.MethodName)), (Jvm.Cond.instanceMethod ({ cls := "HomeCalls", name := "call", desc := "(II)I" } : Jvm.MethodName)), (Jvm.Cond.selects "HomeCalls" ({ cls := "HomeCalls", name := "call", desc := "(II)I" } : Jvm.MethodName) ({ cls := "HomeCalls", name := "call", desc := "(II)I" } : Jvm.MethodName)), (Jvm.Cond.code ({ cls := "HomeCalls", name := "call", desc := "(II)I" } : Jvm.MethodName) prog_1_method_14_code (3 : Nat) (Option.some Jvm.ClassFile.FieldType.int)), (Jvm.Cond.methodLink "HomeCalls" (144 : Nat) ({ cls := "HomeCalls", name := "isSteps", desc := "(I)Z" } : Jvm.MethodName)), (Jvm.Cond.static ({ cls := "HomeCalls", name := "isSteps", desc := "(I)Z" } : Jvm.MethodName)), (Jvm.Cond.code ({ cls := "HomeCalls", name := "isSteps", desc := "(I)Z" } : Jvm.MethodName) prog_1_method_46_code (1 : Nat) (Option.some Jvm.ClassFile.FieldType.boolean)), (Jvm.Cond.methodLink "HomeCalls" (150 : Nat) ({ cls := "HomeCalls$Street", name := "play", desc := "(II)I" } : Jvm.MethodName)), (Jvm.Cond.instanceMethod ({ cls := "HomeCalls$Street", name := "play", desc := "(II)I" } : Jvm.MethodName)), (Jvm.Cond.selects "HomeCalls$Street" ({ cls := "HomeCalls$Street", name := "play", desc := "(II)I" } : Jvm.MethodName) ({ cls := "HomeCalls$Street", name := "play", desc := "(II)I" } : Jvm.MethodName)), (Jvm.Cond.code ({ cls := "HomeCalls$Street", name := "play", desc := "(II)I" } : Jvm.MethodName) prog_6_method_13_code (6 : Nat) (Option.some Jvm.ClassFile.FieldType.int)), (Jvm.Cond.methodLink "HomeCalls$Street" (100 : Nat) ({ cls := "HomeCalls$Street", name := "wouldBeHad", desc := "(II)I" } : Jvm.MethodName)), (Jvm.Cond.instanceMethod ({ cls := "HomeCalls$Street", name := "wouldBeHad", desc := "(II)I" } : Jvm.MethodName)), (Jvm.Cond.selects "HomeCalls$Street" ({ cls := "HomeCalls$Street", name := "wouldBeHad", desc := "(II)I" } : Jvm.MethodName) ({ cls := "HomeCalls$Street", name := "wouldBeHad", desc := "(II)I" } : Jvm.MethodName)), (Jvm.Cond.code ({ cls := "HomeCalls$Street", name := "wouldBeHad", desc := "(II)I" } : Jvm.MethodName) prog_6_method_12_code (5 : Nat) (Option.some Jvm.ClassFile.FieldType.int)), (Jvm.Cond.methodLink "HomeCalls$Street" (107 : Nat) ({ cls := "HomeCalls$Street", name := "endOf", desc := "(III)I" } : Jvm.MethodName)), (Jvm.Cond.instanceMethod ({ cls := "HomeCalls$Street", name := "endOf", desc := "(III)I" } : Jvm.MethodName)), (Jvm.Cond.selects "HomeCalls$Street" ({ cls := "HomeCalls$Street", name := "endOf", desc := "(III)I" } : Jvm.MethodName) ({ cls := "HomeCalls$Street", name := "endOf", desc := "(III)I" } : Jvm.MethodName)), (Jvm.Cond.code ({ cls := "HomeCalls$Street", name := "endOf", desc := "(III)I" } : Jvm.MethodName) prog_6_method_14_code (8 : Nat) (Option.some Jvm.ClassFile.FieldType.int)), (Jvm.Cond.methodLink "HomeCalls$Street" (114 : Nat) ({ cls := "HomeCalls$Street", name := "goalOf", desc := "(II)I" } : Jvm.MethodName)), (Jvm.Cond.privateMethod ({ cls := "HomeCalls$Street", name := "goalOf", desc := "(II)I" } : Jvm.MethodName)), (Jvm.Cond.instanceMethod ({ cls := "HomeCalls$Street", name := "goalOf", desc := "(II)I" } : Jvm.MethodName)), (Jvm.Cond.code ({ cls := "HomeCalls$Street", name := "goalOf", desc := "(II)I" } : Jvm.MethodName) prog_6_method_15_code (7 : Nat) (Option.some Jvm.ClassFile.FieldType.int)), (Jvm.Cond.methodLink "HomeCalls$Street" (124 : Nat) ({ cls := "HomeCalls$Street", name := "far", desc := "(I)I" } : Jvm.MethodName)), (Jvm.Cond.methodLink "HomeCalls$Street" (127 : Nat) ({ cls := "HomeCalls$Street", name := "cellsOff", desc := "(II)I" } : Jvm.MethodName)), (Jvm.Cond.static ({ cls := "HomeCalls$Street", name := "cellsOff", desc := "(II)I" } : Jvm.MethodName)), (Jvm.Cond.code ({ cls := "HomeCalls$Street", name := "cellsOff", desc := "(II)I" } : Jvm.MethodName) prog_6_method_16_code (3 : Nat) (Option.some Jvm.ClassFile.FieldType.int)), (Jvm.Cond.methodLink "HomeCalls$Street" (133 : Nat) ({ cls := "java/lang/Math", name := "abs", desc := "(I)I" } : Jvm.MethodName)), (Jvm.Cond.static ({ cls := "java/lang/Math", name := "abs", desc := "(I)I" } : Jvm.MethodName)), (Jvm.Cond.code ({ cls := "java/lang/Math", name := "abs", desc := "(I)I" } : Jvm.MethodName) prog_10_method_59_code (1 : Nat) (Option.some Jvm.ClassFile.FieldType.int))]
set_option maxRecDepth 40000 in
theorem tks_9 : ∀ w ∈ tk_9, w ∈ lw_tbl := fun w h => List.mem_of_mem_drop (List.mem_of_mem_take (show w ∈ (lw_tbl.drop 432).take 48 from h))
def tk_10 : List Cond := [(Jvm.Cond.methodLink "HomeCalls$Street" (85 : Nat) ({ cls := "java/lang/Math", name := "min", desc := "(II)I" } : Jvm.MethodName)), (Jvm.Cond.methodLinkNest "HomeCalls$Street" (103 : Nat) ({ cls := "HomeCalls", name := "isIn", desc := "(II)Z" } : Jvm.MethodName) "HomeCalls"), (Jvm.Cond.methodLink "HomeCalls$Street" (130 : Nat) ({ cls := "HomeCalls$Law", name := "gives", desc := "(III)I" } : Jvm.MethodName)), (Jvm.Cond.methodLink "HomeCalls$Street" (117 : Nat) ({ cls := "java/lang/Math", name := "floorMod", desc := "(II)I" } : Jvm.MethodName)), (Jvm.Cond.static ({ cls := "java/lang/Math", name := "floorMod", desc := "(II)I" } : Jvm.MethodName)), (Jvm.Cond.code ({ cls := "java/lang/Math", name := "floorMod", desc := "(II)I" } : Jvm.MethodName) prog_10_method_50_code (3 : Nat) (Option.some Jvm.ClassFile.FieldType.int)), (Jvm.Cond.methodLink "HomeCalls$Street" (120 : Nat) ({ cls := "HomeCalls$Street", name := "pace", desc := "(I)I" } : Jvm.MethodName)), (Jvm.Cond.methodLink "HomeCalls$Street" (111 : Nat) ({ cls := "HomeCalls$Street", name := "isHeld", desc := "(II)Z" } : Jvm.MethodName)), (Jvm.Cond.privateMethod ({ cls := "HomeCalls$Street", name := "isHeld", desc := "(II)Z" } : Jvm.MethodName)), (Jvm.Cond.instanceMethod ({ cls := "HomeCalls$Street", name := "isHeld", desc := "(II)Z" } : Jvm.MethodName)), (Jvm.Cond.code ({ cls := "HomeCalls$Street", name := "isHeld", desc := "(II)Z" } : Jvm.MethodName) prog_6_method_17_code (4 : Nat) (Option.some Jvm.ClassFile.FieldType.boolean)), (Jvm.Cond.methodLink "HomeCalls$Street" (136 : Nat) ({ cls := "HomeCalls$Street", name := "crowdIn", desc := "(I)I" } : Jvm.MethodName)), (Jvm.Cond.privateMethod ({ cls := "HomeCalls$Street", name := "crowdIn", desc := "(I)I" } : Jvm.MethodName)), (Jvm.Cond.instanceMethod ({ cls := "HomeCalls$Street", name := "crowdIn", desc := "(I)I" } : Jvm.MethodName)), (Jvm.Cond.code ({ cls := "HomeCalls$Street", name := "crowdIn", desc := "(I)I" } : Jvm.MethodName) prog_6_method_18_code (4 : Nat) (Option.some Jvm.ClassFile.FieldType.int)), (Jvm.Cond.methodLink "HomeCallsLaw" (72 : Nat) ({ cls := "HomeCalls", name := "loose", desc := "(I)I" } : Jvm.MethodName)), (Jvm.Cond.instanceMethod ({ cls := "HomeCalls", name := "loose", desc := "(I)I" } : Jvm.MethodName)), (Jvm.Cond.selects "HomeCalls" ({ cls := "HomeCalls", name := "loose", desc := "(I)I" } : Jvm.MethodName) ({ cls := "HomeCalls", name := "loose", desc := "(I)I" } : Jvm.MethodName)), (Jvm.Cond.code ({ cls := "HomeCalls", name := "loose", desc := "(I)I" } : Jvm.MethodName) prog_1_method_15_code (6 : Nat) (Option.some Jvm.ClassFile.FieldType.int)), (Jvm.Cond.methodLink "HomeCalls" (153 : Nat) ({ cls := "HomeCalls$Street", name := "draw", desc := "()I" } : Jvm.MethodName)), (Jvm.Cond.instanceMethod ({ cls := "HomeCalls$Street", name := "draw", desc := "()I" } : Jvm.MethodName)), (Jvm.Cond.selects "HomeCalls$Street" ({ cls := "HomeCalls$Street", name := "draw", desc := "()I" } : Jvm.MethodName) ({ cls := "HomeCalls$Street", name := "draw", desc := "()I" } : Jvm.MethodName)), (Jvm.Cond.code ({ cls := "HomeCalls$Street", name := "draw", desc := "()I" } : Jvm.MethodName) prog_6_method_8_code (1 : Nat) (Option.some Jvm.ClassFile.FieldType.int)), (Jvm.Cond.constant "HomeCalls$Street" (99 : Nat) (1103515245 : Int32)), (Jvm.Cond.methodLink "HomeCalls" (157 : Nat) ({ cls := "java/lang/Integer", name := "bitCount", desc := "(I)I" } : Jvm.MethodName)), (Jvm.Cond.static ({ cls := "java/lang/Integer", name := "bitCount", desc := "(I)I" } : Jvm.MethodName)), (Jvm.Cond.code ({ cls := "java/lang/Integer", name := "bitCount", desc := "(I)I" } : Jvm.MethodName) prog_9_method_49_code (1 : Nat) (Option.some Jvm.ClassFile.FieldType.int)), (Jvm.Cond.constant "java/lang/Integer" (265 : Nat) (1431655765 : Int32)), (Jvm.Cond.constant "java/lang/Integer" (266 : Nat) (858993459 : Int32)), (Jvm.Cond.constant "java/lang/Integer" (267 : Nat) (252645135 : Int32)), (Jvm.Cond.methodLink "HomeCallsLaw" (76 : Nat) ({ cls := "HomeCalls", name := "hadBy", desc := "(II)I" } : Jvm.MethodName)), (Jvm.Cond.instanceMethod ({ cls := "HomeCalls", name := "hadBy", desc := "(II)I" } : Jvm.MethodName)), (Jvm.Cond.selects "HomeCalls" ({ cls := "HomeCalls", name := "hadBy", desc := "(II)I" } : Jvm.MethodName) ({ cls := "HomeCalls", name := "hadBy", desc := "(II)I" } : Jvm.MethodName)), (Jvm.Cond.code ({ cls := "HomeCalls", name := "hadBy", desc := "(II)I" } : Jvm.MethodName) prog_1_method_16_code (3 : Nat) (Option.some Jvm.ClassFile.FieldType.int)), (Jvm.Cond.methodLink "HomeCalls" (162 : Nat) ({ cls := "HomeCalls$Street", name := "wouldBeHad", desc := "(II)I" } : Jvm.MethodName)), (Jvm.Cond.methodLink "HomeCallsLaw" (80 : Nat) ({ cls := "HomeCalls", name := "runsTo", desc := "(III)I" } : Jvm.MethodName)), (Jvm.Cond.instanceMethod ({ cls := "HomeCalls", name := "runsTo", desc := "(III)I" } : Jvm.MethodName)), (Jvm.Cond.selects "HomeCalls" ({ cls := "HomeCalls", name := "runsTo", desc := "(III)I" } : Jvm.MethodName) ({ cls := "HomeCalls", name := "runsTo", desc := "(III)I" } : Jvm.MethodName)), (Jvm.Cond.code ({ cls := "HomeCalls", name := "runsTo", desc := "(III)I" } : Jvm.MethodName) prog_1_method_17_code (4 : Nat) (Option.some Jvm.ClassFile.FieldType.int)), (Jvm.Cond.methodLink "HomeCalls" (165 : Nat) ({ cls := "HomeCalls$Street", name := "endOf", desc := "(III)I" } : Jvm.MethodName)), (Jvm.Cond.methodLink "HomeCallsLaw" (84 : Nat) ({ cls := "HomeCalls", name := "worst", desc := "(II)I" } : Jvm.MethodName)), (Jvm.Cond.instanceMethod ({ cls := "HomeCalls", name := "worst", desc := "(II)I" } : Jvm.MethodName)), (Jvm.Cond.selects "HomeCalls" ({ cls := "HomeCalls", name := "worst", desc := "(II)I" } : Jvm.MethodName) ({ cls := "HomeCalls", name := "worst", desc := "(II)I" } : Jvm.MethodName)), (Jvm.Cond.code ({ cls := "HomeCalls", name := "worst", desc := "(II)I" } : Jvm.MethodName) prog_1_method_18_code (3 : Nat) (Option.some Jvm.ClassFile.FieldType.int)), (Jvm.Cond.methodLink "HomeCalls" (168 : Nat) ({ cls := "HomeCalls", name := "markFor", desc := "(III)I" } : Jvm.MethodName)), (Jvm.Cond.privateMethod ({ cls := "HomeCalls", name := "markFor", desc := "(III)I" } : Jvm.MethodName)), (Jvm.Cond.instanceMethod ({ cls := "HomeCalls", name := "markFor", desc := "(III)I" } : Jvm.MethodName)), (Jvm.Cond.code ({ cls := "HomeCalls", name := "markFor", desc := "(III)I" } : Jvm.MethodName) prog_1_method_49_code (8 : Nat) (Option.some Jvm.ClassFile.FieldType.int))]
set_option maxRecDepth 40000 in
theorem tks_10 : ∀ w ∈ tk_10, w ∈ lw_tbl := fun w h => List.mem_of_mem_drop (List.mem_of_mem_take (show w ∈ (lw_tbl.drop 480).take 48 from h))
def tk_11 : List Cond := [(Jvm.Cond.methodLink "HomeCalls" (245 : Nat) ({ cls := "HomeCalls", name := "scoreFor", desc := "(II)I" } : Jvm.MethodName)), (Jvm.Cond.privateMethod ({ cls := "HomeCalls", name := "scoreFor", desc := "(II)I" } : Jvm.MethodName)), (Jvm.Cond.instanceMethod ({ cls := "HomeCalls", name := "scoreFor", desc := "(II)I" } : Jvm.MethodName)), (Jvm.Cond.code ({ cls := "HomeCalls", name := "scoreFor", desc := "(II)I" } : Jvm.MethodName) prog_1_method_50_code (3 : Nat) (Option.some Jvm.ClassFile.FieldType.int)), (Jvm.Cond.methodLink "HomeCalls" (251 : Nat) ({ cls := "HomeCalls$Street", name := "runners", desc := "()I" } : Jvm.MethodName)), (Jvm.Cond.instanceMethod ({ cls := "HomeCalls$Street", name := "runners", desc := "()I" } : Jvm.MethodName)), (Jvm.Cond.selects "HomeCalls$Street" ({ cls := "HomeCalls$Street", name := "runners", desc := "()I" } : Jvm.MethodName) ({ cls := "HomeCalls$Street", name := "runners", desc := "()I" } : Jvm.MethodName)), (Jvm.Cond.code ({ cls := "HomeCalls$Street", name := "runners", desc := "()I" } : Jvm.MethodName) prog_6_method_19_code (1 : Nat) (Option.some Jvm.ClassFile.FieldType.int)), (Jvm.Cond.methodLink "HomeCalls" (248 : Nat) ({ cls := "java/lang/Math", name := "abs", desc := "(I)I" } : Jvm.MethodName)), (Jvm.Cond.methodLink "HomeCallsLaw" (88 : Nat) ({ cls := "HomeCalls", name := "best", desc := "(II)I" } : Jvm.MethodName)), (Jvm.Cond.instanceMethod ({ cls := "HomeCalls", name := "best", desc := "(II)I" } : Jvm.MethodName)), (Jvm.Cond.selects "HomeCalls" ({ cls := "HomeCalls", name := "best", desc := "(II)I" } : Jvm.MethodName) ({ cls := "HomeCalls", name := "best", desc := "(II)I" } : Jvm.MethodName)), (Jvm.Cond.code ({ cls := "HomeCalls", name := "best", desc := "(II)I" } : Jvm.MethodName) prog_1_method_19_code (3 : Nat) (Option.some Jvm.ClassFile.FieldType.int)), (Jvm.Cond.methodLink "HomeCallsLaw" (92 : Nat) ({ cls := "HomeCalls", name := "stand", desc := "(III)I" } : Jvm.MethodName)), (Jvm.Cond.instanceMethod ({ cls := "HomeCalls", name := "stand", desc := "(III)I" } : Jvm.MethodName)), (Jvm.Cond.selects "HomeCalls" ({ cls := "HomeCalls", name := "stand", desc := "(III)I" } : Jvm.MethodName) ({ cls := "HomeCalls", name := "stand", desc := "(III)I" } : Jvm.MethodName)), (Jvm.Cond.code ({ cls := "HomeCalls", name := "stand", desc := "(III)I" } : Jvm.MethodName) prog_1_method_20_code (8 : Nat) (Option.some Jvm.ClassFile.FieldType.int)), (Jvm.Cond.methodLink "HomeCalls" (171 : Nat) ({ cls := "HomeCalls$Street", name := "copy", desc := "(LHomeCalls$Street;)V" } : Jvm.MethodName)), (Jvm.Cond.instanceMethod ({ cls := "HomeCalls$Street", name := "copy", desc := "(LHomeCalls$Street;)V" } : Jvm.MethodName)), (Jvm.Cond.selects "HomeCalls$Street" ({ cls := "HomeCalls$Street", name := "copy", desc := "(LHomeCalls$Street;)V" } : Jvm.MethodName) ({ cls := "HomeCalls$Street", name := "copy", desc := "(LHomeCalls$Street;)V" } : Jvm.MethodName)), (Jvm.Cond.code ({ cls := "HomeCalls$Street", name := "copy", desc := "(LHomeCalls$Street;)V" } : Jvm.MethodName) prog_6_method_2_code (3 : Nat) (Option.none : Option Jvm.ClassFile.FieldType)), (Jvm.Cond.methodLink "HomeCalls$Street" (56 : Nat) ({ cls := "HomeCalls$Street", name := "copyRow", desc := "([I[I)V" } : Jvm.MethodName)), (Jvm.Cond.static ({ cls := "HomeCalls$Street", name := "copyRow", desc := "([I[I)V" } : Jvm.MethodName)), (Jvm.Cond.code ({ cls := "HomeCalls$Street", name := "copyRow", desc := "([I[I)V" } : Jvm.MethodName) prog_6_method_3_code (2 : Nat) (Option.none : Option Jvm.ClassFile.FieldType)), (Jvm.Cond.methodLink "HomeCalls$Street" (91 : Nat) ({ cls := "java/lang/System", name := "arraycopy", desc := "(Ljava/lang/Object;ILjava/lang/Object;II)V" } : Jvm.MethodName)), (Jvm.Cond.methodLink "HomeCalls$Street" (75 : Nat) ({ cls := "HomeCalls$Law", name := "adopt", desc := "([II)V" } : Jvm.MethodName)), (Jvm.Cond.methodLink "HomeCalls" (175 : Nat) ({ cls := "HomeCalls$Street", name := "marksThatHave", desc := "(II)I" } : Jvm.MethodName)), (Jvm.Cond.instanceMethod ({ cls := "HomeCalls$Street", name := "marksThatHave", desc := "(II)I" } : Jvm.MethodName)), (Jvm.Cond.selects "HomeCalls$Street" ({ cls := "HomeCalls$Street", name := "marksThatHave", desc := "(II)I" } : Jvm.MethodName) ({ cls := "HomeCalls$Street", name := "marksThatHave", desc := "(II)I" } : Jvm.MethodName)), (Jvm.Cond.code ({ cls := "HomeCalls$Street", name := "marksThatHave", desc := "(II)I" } : Jvm.MethodName) prog_6_method_11_code (5 : Nat) (Option.some Jvm.ClassFile.FieldType.int)), (Jvm.Cond.methodLink "HomeCallsLaw" (96 : Nat) ({ cls := "HomeCalls", name := "steps", desc := "(I)I" } : Jvm.MethodName)), (Jvm.Cond.instanceMethod ({ cls := "HomeCalls", name := "steps", desc := "(I)I" } : Jvm.MethodName)), (Jvm.Cond.selects "HomeCalls" ({ cls := "HomeCalls", name := "steps", desc := "(I)I" } : Jvm.MethodName) ({ cls := "HomeCalls", name := "steps", desc := "(I)I" } : Jvm.MethodName)), (Jvm.Cond.code ({ cls := "HomeCalls", name := "steps", desc := "(I)I" } : Jvm.MethodName) prog_1_method_21_code (3 : Nat) (Option.some Jvm.ClassFile.FieldType.int)), (Jvm.Cond.methodLink "HomeCallsLaw" (100 : Nat) ({ cls := "HomeCalls", name := "take", desc := "(III)I" } : Jvm.MethodName)), (Jvm.Cond.instanceMethod ({ cls := "HomeCalls", name := "take", desc := "(III)I" } : Jvm.MethodName)), (Jvm.Cond.selects "HomeCalls" ({ cls := "HomeCalls", name := "take", desc := "(III)I" } : Jvm.MethodName) ({ cls := "HomeCalls", name := "take", desc := "(III)I" } : Jvm.MethodName)), (Jvm.Cond.code ({ cls := "HomeCalls", name := "take", desc := "(III)I" } : Jvm.MethodName) prog_1_method_22_code (8 : Nat) (Option.some Jvm.ClassFile.FieldType.int)), (Jvm.Cond.methodLink "HomeCalls" (178 : Nat) ({ cls := "HomeCalls$Street", name := "allHave", desc := "(II)Z" } : Jvm.MethodName)), (Jvm.Cond.instanceMethod ({ cls := "HomeCalls$Street", name := "allHave", desc := "(II)Z" } : Jvm.MethodName)), (Jvm.Cond.selects "HomeCalls$Street" ({ cls := "HomeCalls$Street", name := "allHave", desc := "(II)Z" } : Jvm.MethodName) ({ cls := "HomeCalls$Street", name := "allHave", desc := "(II)Z" } : Jvm.MethodName)), (Jvm.Cond.code ({ cls := "HomeCalls$Street", name := "allHave", desc := "(II)Z" } : Jvm.MethodName) prog_6_method_20_code (4 : Nat) (Option.some Jvm.ClassFile.FieldType.boolean)), (Jvm.Cond.methodLink "HomeCalls" (181 : Nat) ({ cls := "HomeCalls", name := "hadWithout", desc := "(IIII)Z" } : Jvm.MethodName)), (Jvm.Cond.privateMethod ({ cls := "HomeCalls", name := "hadWithout", desc := "(IIII)Z" } : Jvm.MethodName)), (Jvm.Cond.instanceMethod ({ cls := "HomeCalls", name := "hadWithout", desc := "(IIII)Z" } : Jvm.MethodName)), (Jvm.Cond.code ({ cls := "HomeCalls", name := "hadWithout", desc := "(IIII)Z" } : Jvm.MethodName) prog_1_method_51_code (6 : Nat) (Option.some Jvm.ClassFile.FieldType.boolean)), (Jvm.Cond.methodLink "HomeCallsLaw" (104 : Nat) ({ cls := "HomeCalls", name := "lay", desc := "(III)I" } : Jvm.MethodName)), (Jvm.Cond.instanceMethod ({ cls := "HomeCalls", name := "lay", desc := "(III)I" } : Jvm.MethodName))]
set_option maxRecDepth 40000 in
theorem tks_11 : ∀ w ∈ tk_11, w ∈ lw_tbl := fun w h => List.mem_of_mem_drop (List.mem_of_mem_take (show w ∈ (lw_tbl.drop 528).take 48 from h))
def tk_12 : List Cond := [(Jvm.Cond.selects "HomeCalls" ({ cls := "HomeCalls", name := "lay", desc := "(III)I" } : Jvm.MethodName) ({ cls := "HomeCalls", name := "lay", desc := "(III)I" } : Jvm.MethodName)), (Jvm.Cond.code ({ cls := "HomeCalls", name := "lay", desc := "(III)I" } : Jvm.MethodName) prog_1_method_23_code (9 : Nat) (Option.some Jvm.ClassFile.FieldType.int)), (Jvm.Cond.methodLink "HomeCallsLaw" (108 : Nat) ({ cls := "HomeCalls", name := "called", desc := "(II)I" } : Jvm.MethodName)), (Jvm.Cond.instanceMethod ({ cls := "HomeCalls", name := "called", desc := "(II)I" } : Jvm.MethodName)), (Jvm.Cond.selects "HomeCalls" ({ cls := "HomeCalls", name := "called", desc := "(II)I" } : Jvm.MethodName) ({ cls := "HomeCalls", name := "called", desc := "(II)I" } : Jvm.MethodName)), (Jvm.Cond.code ({ cls := "HomeCalls", name := "called", desc := "(II)I" } : Jvm.MethodName) prog_1_method_24_code (5 : Nat) (Option.some Jvm.ClassFile.FieldType.int)), (Jvm.Cond.methodLink "HomeCallsLaw" (112 : Nat) ({ cls := "HomeCalls", name := "parts", desc := "(II)I" } : Jvm.MethodName)), (Jvm.Cond.instanceMethod ({ cls := "HomeCalls", name := "parts", desc := "(II)I" } : Jvm.MethodName)), (Jvm.Cond.selects "HomeCalls" ({ cls := "HomeCalls", name := "parts", desc := "(II)I" } : Jvm.MethodName) ({ cls := "HomeCalls", name := "parts", desc := "(II)I" } : Jvm.MethodName)), (Jvm.Cond.code ({ cls := "HomeCalls", name := "parts", desc := "(II)I" } : Jvm.MethodName) prog_1_method_25_code (3 : Nat) (Option.some Jvm.ClassFile.FieldType.int)), (Jvm.Cond.methodLink "HomeCallsLaw" (116 : Nat) ({ cls := "HomeCalls", name := "never", desc := "(I)I" } : Jvm.MethodName)), (Jvm.Cond.instanceMethod ({ cls := "HomeCalls", name := "never", desc := "(I)I" } : Jvm.MethodName)), (Jvm.Cond.selects "HomeCalls" ({ cls := "HomeCalls", name := "never", desc := "(I)I" } : Jvm.MethodName) ({ cls := "HomeCalls", name := "never", desc := "(I)I" } : Jvm.MethodName)), (Jvm.Cond.code ({ cls := "HomeCalls", name := "never", desc := "(I)I" } : Jvm.MethodName) prog_1_method_26_code (4 : Nat) (Option.some Jvm.ClassFile.FieldType.int)), (Jvm.Cond.methodLink "HomeCallsLaw" (120 : Nat) ({ cls := "HomeCalls", name := "series", desc := "(III)I" } : Jvm.MethodName)), (Jvm.Cond.instanceMethod ({ cls := "HomeCalls", name := "series", desc := "(III)I" } : Jvm.MethodName)), (Jvm.Cond.selects "HomeCalls" ({ cls := "HomeCalls", name := "series", desc := "(III)I" } : Jvm.MethodName) ({ cls := "HomeCalls", name := "series", desc := "(III)I" } : Jvm.MethodName)), (Jvm.Cond.code ({ cls := "HomeCalls", name := "series", desc := "(III)I" } : Jvm.MethodName) prog_1_method_27_code (9 : Nat) (Option.some Jvm.ClassFile.FieldType.int)), (Jvm.Cond.methodLink "HomeCalls" (188 : Nat) ({ cls := "HomeCalls$Sheet", name := "isMissing", desc := "()Z" } : Jvm.MethodName)), (Jvm.Cond.instanceMethod ({ cls := "HomeCalls$Sheet", name := "isMissing", desc := "()Z" } : Jvm.MethodName)), (Jvm.Cond.selects "HomeCalls$Sheet" ({ cls := "HomeCalls$Sheet", name := "isMissing", desc := "()Z" } : Jvm.MethodName) ({ cls := "HomeCalls$Sheet", name := "isMissing", desc := "()Z" } : Jvm.MethodName)), (Jvm.Cond.code ({ cls := "HomeCalls$Sheet", name := "isMissing", desc := "()Z" } : Jvm.MethodName) prog_4_method_2_code (1 : Nat) (Option.some Jvm.ClassFile.FieldType.boolean)), (Jvm.Cond.methodLink "HomeCallsLaw" (124 : Nat) ({ cls := "HomeCalls", name := "odds", desc := "(III)I" } : Jvm.MethodName)), (Jvm.Cond.instanceMethod ({ cls := "HomeCalls", name := "odds", desc := "(III)I" } : Jvm.MethodName)), (Jvm.Cond.selects "HomeCalls" ({ cls := "HomeCalls", name := "odds", desc := "(III)I" } : Jvm.MethodName) ({ cls := "HomeCalls", name := "odds", desc := "(III)I" } : Jvm.MethodName)), (Jvm.Cond.code ({ cls := "HomeCalls", name := "odds", desc := "(III)I" } : Jvm.MethodName) prog_1_method_28_code (7 : Nat) (Option.some Jvm.ClassFile.FieldType.int)), (Jvm.Cond.methodLink "HomeCallsLaw" (128 : Nat) ({ cls := "HomeCalls", name := "seed", desc := "(I)I" } : Jvm.MethodName)), (Jvm.Cond.instanceMethod ({ cls := "HomeCalls", name := "seed", desc := "(I)I" } : Jvm.MethodName)), (Jvm.Cond.selects "HomeCalls" ({ cls := "HomeCalls", name := "seed", desc := "(I)I" } : Jvm.MethodName) ({ cls := "HomeCalls", name := "seed", desc := "(I)I" } : Jvm.MethodName)), (Jvm.Cond.code ({ cls := "HomeCalls", name := "seed", desc := "(I)I" } : Jvm.MethodName) prog_1_method_29_code (3 : Nat) (Option.some Jvm.ClassFile.FieldType.int)), (Jvm.Cond.methodLink "HomeCallsLaw" (132 : Nat) ({ cls := "HomeCalls", name := "voice", desc := "(III)I" } : Jvm.MethodName)), (Jvm.Cond.instanceMethod ({ cls := "HomeCalls", name := "voice", desc := "(III)I" } : Jvm.MethodName)), (Jvm.Cond.selects "HomeCalls" ({ cls := "HomeCalls", name := "voice", desc := "(III)I" } : Jvm.MethodName) ({ cls := "HomeCalls", name := "voice", desc := "(III)I" } : Jvm.MethodName)), (Jvm.Cond.code ({ cls := "HomeCalls", name := "voice", desc := "(III)I" } : Jvm.MethodName) prog_1_method_30_code (4 : Nat) (Option.some Jvm.ClassFile.FieldType.int)), (Jvm.Cond.methodLink "HomeCalls" (197 : Nat) ({ cls := "HomeCalls$Speaker", name := "answer", desc := "(IIIII)I" } : Jvm.MethodName)), (Jvm.Cond.instanceMethod ({ cls := "HomeCalls$Speaker", name := "answer", desc := "(IIIII)I" } : Jvm.MethodName)), (Jvm.Cond.selects "HomeCalls$Speaker" ({ cls := "HomeCalls$Speaker", name := "answer", desc := "(IIIII)I" } : Jvm.MethodName) ({ cls := "HomeCalls$Speaker", name := "answer", desc := "(IIIII)I" } : Jvm.MethodName)), (Jvm.Cond.code ({ cls := "HomeCalls$Speaker", name := "answer", desc := "(IIIII)I" } : Jvm.MethodName) prog_5_method_2_code (6 : Nat) (Option.some Jvm.ClassFile.FieldType.int)), (Jvm.Cond.methodLink "HomeCalls$Speaker" (28 : Nat) ({ cls := "HomeCalls$Speaker", name := "speak", desc := "(IIII)I" } : Jvm.MethodName)), (Jvm.Cond.privateMethod ({ cls := "HomeCalls$Speaker", name := "speak", desc := "(IIII)I" } : Jvm.MethodName)), (Jvm.Cond.instanceMethod ({ cls := "HomeCalls$Speaker", name := "speak", desc := "(IIII)I" } : Jvm.MethodName)), (Jvm.Cond.code ({ cls := "HomeCalls$Speaker", name := "speak", desc := "(IIII)I" } : Jvm.MethodName) prog_5_method_3_code (7 : Nat) (Option.some Jvm.ClassFile.FieldType.int)), (Jvm.Cond.fieldLink "HomeCalls$Speaker" (32 : Nat) "HomeCalls$Speaker" "BODIES" "[I"), (Jvm.Cond.laysStatic "HomeCalls$Speaker" "BODIES" "[I"), (Jvm.Cond.methodLink "HomeCalls$Speaker" (35 : Nat) ({ cls := "HomeCalls$Speaker", name := "note", desc := "(I)V" } : Jvm.MethodName)), (Jvm.Cond.privateMethod ({ cls := "HomeCalls$Speaker", name := "note", desc := "(I)V" } : Jvm.MethodName)), (Jvm.Cond.instanceMethod ({ cls := "HomeCalls$Speaker", name := "note", desc := "(I)V" } : Jvm.MethodName)), (Jvm.Cond.code ({ cls := "HomeCalls$Speaker", name := "note", desc := "(I)V" } : Jvm.MethodName) prog_5_method_4_code (2 : Nat) (Option.none : Option Jvm.ClassFile.FieldType))]
set_option maxRecDepth 40000 in
theorem tks_12 : ∀ w ∈ tk_12, w ∈ lw_tbl := fun w h => List.mem_of_mem_drop (List.mem_of_mem_take (show w ∈ (lw_tbl.drop 576).take 48 from h))
def tk_13 : List Cond := [(Jvm.Cond.methodLink "HomeCallsLaw" (136 : Nat) ({ cls := "HomeCalls", name := "trace", desc := "(I)I" } : Jvm.MethodName)), (Jvm.Cond.instanceMethod ({ cls := "HomeCalls", name := "trace", desc := "(I)I" } : Jvm.MethodName)), (Jvm.Cond.selects "HomeCalls" ({ cls := "HomeCalls", name := "trace", desc := "(I)I" } : Jvm.MethodName) ({ cls := "HomeCalls", name := "trace", desc := "(I)I" } : Jvm.MethodName)), (Jvm.Cond.code ({ cls := "HomeCalls", name := "trace", desc := "(I)I" } : Jvm.MethodName) prog_1_method_31_code (2 : Nat) (Option.some Jvm.ClassFile.FieldType.int)), (Jvm.Cond.methodLink "HomeCallsLaw" (140 : Nat) ({ cls := "HomeCalls", name := "sheet", desc := "(III)I" } : Jvm.MethodName)), (Jvm.Cond.instanceMethod ({ cls := "HomeCalls", name := "sheet", desc := "(III)I" } : Jvm.MethodName)), (Jvm.Cond.selects "HomeCalls" ({ cls := "HomeCalls", name := "sheet", desc := "(III)I" } : Jvm.MethodName) ({ cls := "HomeCalls", name := "sheet", desc := "(III)I" } : Jvm.MethodName)), (Jvm.Cond.code ({ cls := "HomeCalls", name := "sheet", desc := "(III)I" } : Jvm.MethodName) prog_1_method_32_code (4 : Nat) (Option.some Jvm.ClassFile.FieldType.int)), (Jvm.Cond.methodLink "HomeCalls" (207 : Nat) ({ cls := "HomeCalls$Sheet", name := "begin", desc := "(II)V" } : Jvm.MethodName)), (Jvm.Cond.instanceMethod ({ cls := "HomeCalls$Sheet", name := "begin", desc := "(II)V" } : Jvm.MethodName)), (Jvm.Cond.selects "HomeCalls$Sheet" ({ cls := "HomeCalls$Sheet", name := "begin", desc := "(II)V" } : Jvm.MethodName) ({ cls := "HomeCalls$Sheet", name := "begin", desc := "(II)V" } : Jvm.MethodName)), (Jvm.Cond.code ({ cls := "HomeCalls$Sheet", name := "begin", desc := "(II)V" } : Jvm.MethodName) prog_4_method_3_code (3 : Nat) (Option.none : Option Jvm.ClassFile.FieldType)), (Jvm.Cond.methodLink "HomeCalls$Sheet" (19 : Nat) ({ cls := "java/util/Arrays", name := "fill", desc := "([II)V" } : Jvm.MethodName)), (Jvm.Cond.static ({ cls := "java/util/Arrays", name := "fill", desc := "([II)V" } : Jvm.MethodName)), (Jvm.Cond.code ({ cls := "java/util/Arrays", name := "fill", desc := "([II)V" } : Jvm.MethodName) prog_12_method_103_code (4 : Nat) (Option.none : Option Jvm.ClassFile.FieldType)), (Jvm.Cond.methodLink "HomeCallsLaw" (144 : Nat) ({ cls := "HomeCalls", name := "put", desc := "(III)I" } : Jvm.MethodName)), (Jvm.Cond.instanceMethod ({ cls := "HomeCalls", name := "put", desc := "(III)I" } : Jvm.MethodName)), (Jvm.Cond.selects "HomeCalls" ({ cls := "HomeCalls", name := "put", desc := "(III)I" } : Jvm.MethodName) ({ cls := "HomeCalls", name := "put", desc := "(III)I" } : Jvm.MethodName)), (Jvm.Cond.code ({ cls := "HomeCalls", name := "put", desc := "(III)I" } : Jvm.MethodName) prog_1_method_33_code (5 : Nat) (Option.some Jvm.ClassFile.FieldType.int)), (Jvm.Cond.methodLink "HomeCalls" (211 : Nat) ({ cls := "HomeCalls$Sheet", name := "write", desc := "(II)V" } : Jvm.MethodName)), (Jvm.Cond.instanceMethod ({ cls := "HomeCalls$Sheet", name := "write", desc := "(II)V" } : Jvm.MethodName)), (Jvm.Cond.selects "HomeCalls$Sheet" ({ cls := "HomeCalls$Sheet", name := "write", desc := "(II)V" } : Jvm.MethodName) ({ cls := "HomeCalls$Sheet", name := "write", desc := "(II)V" } : Jvm.MethodName)), (Jvm.Cond.code ({ cls := "HomeCalls$Sheet", name := "write", desc := "(II)V" } : Jvm.MethodName) prog_4_method_4_code (3 : Nat) (Option.none : Option Jvm.ClassFile.FieldType)), (Jvm.Cond.constant "HomeCalls$Sheet" (28 : Nat) (65535 : Int32)), (Jvm.Cond.methodLink "HomeCallsLaw" (148 : Nat) ({ cls := "HomeCalls", name := "move", desc := "(IIIII)I" } : Jvm.MethodName)), (Jvm.Cond.instanceMethod ({ cls := "HomeCalls", name := "move", desc := "(IIIII)I" } : Jvm.MethodName)), (Jvm.Cond.selects "HomeCalls" ({ cls := "HomeCalls", name := "move", desc := "(IIIII)I" } : Jvm.MethodName) ({ cls := "HomeCalls", name := "move", desc := "(IIIII)I" } : Jvm.MethodName)), (Jvm.Cond.code ({ cls := "HomeCalls", name := "move", desc := "(IIIII)I" } : Jvm.MethodName) prog_1_method_34_code (8 : Nat) (Option.some Jvm.ClassFile.FieldType.int)), (Jvm.Cond.methodLink "HomeCalls" (217 : Nat) ({ cls := "HomeCalls$Sheet", name := "hasRun", desc := "(II)Z" } : Jvm.MethodName)), (Jvm.Cond.instanceMethod ({ cls := "HomeCalls$Sheet", name := "hasRun", desc := "(II)Z" } : Jvm.MethodName)), (Jvm.Cond.selects "HomeCalls$Sheet" ({ cls := "HomeCalls$Sheet", name := "hasRun", desc := "(II)Z" } : Jvm.MethodName) ({ cls := "HomeCalls$Sheet", name := "hasRun", desc := "(II)Z" } : Jvm.MethodName)), (Jvm.Cond.code ({ cls := "HomeCalls$Sheet", name := "hasRun", desc := "(II)Z" } : Jvm.MethodName) prog_4_method_5_code (3 : Nat) (Option.some Jvm.ClassFile.FieldType.boolean)), (Jvm.Cond.methodLink "HomeCalls" (220 : Nat) ({ cls := "java/lang/System", name := "arraycopy", desc := "(Ljava/lang/Object;ILjava/lang/Object;II)V" } : Jvm.MethodName)), (Jvm.Cond.methodLink "HomeCallsLaw" (153 : Nat) ({ cls := "HomeCalls", name := "places", desc := "(I)I" } : Jvm.MethodName)), (Jvm.Cond.instanceMethod ({ cls := "HomeCalls", name := "places", desc := "(I)I" } : Jvm.MethodName)), (Jvm.Cond.selects "HomeCalls" ({ cls := "HomeCalls", name := "places", desc := "(I)I" } : Jvm.MethodName) ({ cls := "HomeCalls", name := "places", desc := "(I)I" } : Jvm.MethodName)), (Jvm.Cond.code ({ cls := "HomeCalls", name := "places", desc := "(I)I" } : Jvm.MethodName) prog_1_method_35_code (5 : Nat) (Option.some Jvm.ClassFile.FieldType.int)), (Jvm.Cond.methodLink "HomeCalls" (226 : Nat) ({ cls := "java/lang/Math", name := "min", desc := "(II)I" } : Jvm.MethodName)), (Jvm.Cond.methodLink "HomeCallsLaw" (157 : Nat) ({ cls := "HomeCalls", name := "judge", desc := "(I)I" } : Jvm.MethodName)), (Jvm.Cond.instanceMethod ({ cls := "HomeCalls", name := "judge", desc := "(I)I" } : Jvm.MethodName)), (Jvm.Cond.selects "HomeCalls" ({ cls := "HomeCalls", name := "judge", desc := "(I)I" } : Jvm.MethodName) ({ cls := "HomeCalls", name := "judge", desc := "(I)I" } : Jvm.MethodName)), (Jvm.Cond.code ({ cls := "HomeCalls", name := "judge", desc := "(I)I" } : Jvm.MethodName) prog_1_method_36_code (5 : Nat) (Option.some Jvm.ClassFile.FieldType.int)), (Jvm.Cond.methodLink "HomeCallsLaw" (161 : Nat) ({ cls := "HomeCalls", name := "image", desc := "()I" } : Jvm.MethodName)), (Jvm.Cond.instanceMethod ({ cls := "HomeCalls", name := "image", desc := "()I" } : Jvm.MethodName)), (Jvm.Cond.selects "HomeCalls" ({ cls := "HomeCalls", name := "image", desc := "()I" } : Jvm.MethodName) ({ cls := "HomeCalls", name := "image", desc := "()I" } : Jvm.MethodName)), (Jvm.Cond.code ({ cls := "HomeCalls", name := "image", desc := "()I" } : Jvm.MethodName) prog_1_method_37_code (1 : Nat) (Option.some Jvm.ClassFile.FieldType.int)), (Jvm.Cond.methodLink "HomeCallsLaw" (166 : Nat) ({ cls := "HomeCalls", name := "restore", desc := "()I" } : Jvm.MethodName)), (Jvm.Cond.instanceMethod ({ cls := "HomeCalls", name := "restore", desc := "()I" } : Jvm.MethodName))]
set_option maxRecDepth 40000 in
theorem tks_13 : ∀ w ∈ tk_13, w ∈ lw_tbl := fun w h => List.mem_of_mem_drop (List.mem_of_mem_take (show w ∈ (lw_tbl.drop 624).take 48 from h))
def tk_14 : List Cond := [(Jvm.Cond.selects "HomeCalls" ({ cls := "HomeCalls", name := "restore", desc := "()I" } : Jvm.MethodName) ({ cls := "HomeCalls", name := "restore", desc := "()I" } : Jvm.MethodName)), (Jvm.Cond.code ({ cls := "HomeCalls", name := "restore", desc := "()I" } : Jvm.MethodName) prog_1_method_38_code (1 : Nat) (Option.some Jvm.ClassFile.FieldType.int)), (Jvm.Cond.methodLink "HomeCallsLaw" (170 : Nat) ({ cls := "HomeCalls", name := "tell", desc := "(I)I" } : Jvm.MethodName)), (Jvm.Cond.instanceMethod ({ cls := "HomeCalls", name := "tell", desc := "(I)I" } : Jvm.MethodName)), (Jvm.Cond.selects "HomeCalls" ({ cls := "HomeCalls", name := "tell", desc := "(I)I" } : Jvm.MethodName) ({ cls := "HomeCalls", name := "tell", desc := "(I)I" } : Jvm.MethodName)), (Jvm.Cond.code ({ cls := "HomeCalls", name := "tell", desc := "(I)I" } : Jvm.MethodName) prog_1_method_39_code (2 : Nat) (Option.some Jvm.ClassFile.FieldType.int)), (Jvm.Cond.methodLink "HomeCallsLaw" (174 : Nat) ({ cls := "HomeCalls", name := "check", desc := "()I" } : Jvm.MethodName)), (Jvm.Cond.instanceMethod ({ cls := "HomeCalls", name := "check", desc := "()I" } : Jvm.MethodName)), (Jvm.Cond.selects "HomeCalls" ({ cls := "HomeCalls", name := "check", desc := "()I" } : Jvm.MethodName) ({ cls := "HomeCalls", name := "check", desc := "()I" } : Jvm.MethodName)), (Jvm.Cond.code ({ cls := "HomeCalls", name := "check", desc := "()I" } : Jvm.MethodName) prog_1_method_40_code (3 : Nat) (Option.some Jvm.ClassFile.FieldType.int)), (Jvm.Cond.methodLink "HomeCallsLaw" (178 : Nat) ({ cls := "HomeCalls", name := "count", desc := "(I)I" } : Jvm.MethodName)), (Jvm.Cond.instanceMethod ({ cls := "HomeCalls", name := "count", desc := "(I)I" } : Jvm.MethodName)), (Jvm.Cond.selects "HomeCalls" ({ cls := "HomeCalls", name := "count", desc := "(I)I" } : Jvm.MethodName) ({ cls := "HomeCalls", name := "count", desc := "(I)I" } : Jvm.MethodName)), (Jvm.Cond.code ({ cls := "HomeCalls", name := "count", desc := "(I)I" } : Jvm.MethodName) prog_1_method_41_code (2 : Nat) (Option.some Jvm.ClassFile.FieldType.int)), (Jvm.Cond.methodLink "HomeCalls" (240 : Nat) ({ cls := "HomeCalls$Street", name := "sum", desc := "([I)I" } : Jvm.MethodName)), (Jvm.Cond.instanceMethod ({ cls := "HomeCalls$Street", name := "sum", desc := "([I)I" } : Jvm.MethodName)), (Jvm.Cond.selects "HomeCalls$Street" ({ cls := "HomeCalls$Street", name := "sum", desc := "([I)I" } : Jvm.MethodName) ({ cls := "HomeCalls$Street", name := "sum", desc := "([I)I" } : Jvm.MethodName)), (Jvm.Cond.code ({ cls := "HomeCalls$Street", name := "sum", desc := "([I)I" } : Jvm.MethodName) prog_6_method_21_code (4 : Nat) (Option.some Jvm.ClassFile.FieldType.int)), (Jvm.Cond.methodLink "HomeCallsLaw" (182 : Nat) ({ cls := "HomeCalls", name := "told", desc := "(I)I" } : Jvm.MethodName)), (Jvm.Cond.instanceMethod ({ cls := "HomeCalls", name := "told", desc := "(I)I" } : Jvm.MethodName)), (Jvm.Cond.selects "HomeCalls" ({ cls := "HomeCalls", name := "told", desc := "(I)I" } : Jvm.MethodName) ({ cls := "HomeCalls", name := "told", desc := "(I)I" } : Jvm.MethodName)), (Jvm.Cond.code ({ cls := "HomeCalls", name := "told", desc := "(I)I" } : Jvm.MethodName) prog_1_method_42_code (2 : Nat) (Option.some Jvm.ClassFile.FieldType.int)), (Jvm.Cond.classLink "HomeCallsLaw" (10 : Nat) "HomeCallsModel"), (Jvm.Cond.instantiable "HomeCallsModel" (25 : Nat)), (Jvm.Cond.methodLink "HomeCallsLaw" (12 : Nat) ({ cls := "HomeCallsModel", name := "<init>", desc := "()V" } : Jvm.MethodName)), (Jvm.Cond.instanceMethod ({ cls := "HomeCallsModel", name := "<init>", desc := "()V" } : Jvm.MethodName)), (Jvm.Cond.code ({ cls := "HomeCallsModel", name := "<init>", desc := "()V" } : Jvm.MethodName) prog_8_method_1_code (1 : Nat) (Option.none : Option Jvm.ClassFile.FieldType)), (Jvm.Cond.methodLink "HomeCallsModel" (1 : Nat) ({ cls := "java/lang/Object", name := "<init>", desc := "()V" } : Jvm.MethodName)), (Jvm.Cond.fieldLink "HomeCallsModel" (7 : Nat) "HomeCallsModel" "row" "[I"), (Jvm.Cond.fieldLink "HomeCallsModel" (13 : Nat) "HomeCallsModel" "kept" "[I"), (Jvm.Cond.fieldLink "HomeCallsModel" (16 : Nat) "HomeCallsModel" "tried" "[I"), (Jvm.Cond.fieldLink "HomeCallsModel" (19 : Nat) "HomeCallsModel" "before" "[I"), (Jvm.Cond.fieldLink "HomeCallsModel" (246 : Nat) "HomeCallsModel" "isKept" "Z"), (Jvm.Cond.fieldLink "HomeCallsModel" (249 : Nat) "HomeCallsModel" "images" "I"), (Jvm.Cond.fieldLink "HomeCallsModel" (22 : Nat) "HomeCallsModel" "found" "[I"), (Jvm.Cond.fieldLink "HomeCallsModel" (90 : Nat) "HomeCallsModel" "use" "I"), (Jvm.Cond.fieldLink "HomeCallsModel" (97 : Nat) "HomeCallsModel" "at" "I"), (Jvm.Cond.fieldLink "HomeCallsModel" (86 : Nat) "HomeCallsModel" "end" "I"), (Jvm.Cond.fieldLink "HomeCallsModel" (125 : Nat) "HomeCallsModel" "open" "I"), (Jvm.Cond.fieldLink "HomeCallsModel" (110 : Nat) "HomeCallsModel" "namedA" "I"), (Jvm.Cond.fieldLink "HomeCallsModel" (113 : Nat) "HomeCallsModel" "namedB" "I"), (Jvm.Cond.fieldLink "HomeCallsModel" (116 : Nat) "HomeCallsModel" "namedC" "I"), (Jvm.Cond.fieldLink "HomeCallsModel" (93 : Nat) "HomeCallsModel" "good" "Z"), (Jvm.Cond.fieldLink "HomeCallsModel" (163 : Nat) "HomeCallsModel" "taken" "I"), (Jvm.Cond.fieldLink "HomeCallsModel" (25 : Nat) "HomeCallsModel" "bitsOf" "[I"), (Jvm.Cond.fieldLink "HomeCallsModel" (28 : Nat) "HomeCallsModel" "sizeOf" "[I"), (Jvm.Cond.fieldLink "HomeCallsModel" (31 : Nat) "HomeCallsModel" "sheets" "[I"), (Jvm.Cond.fieldLink "HomeCallsModel" (34 : Nat) "HomeCallsModel" "moved" "[I")]
set_option maxRecDepth 40000 in
theorem tks_14 : ∀ w ∈ tk_14, w ∈ lw_tbl := fun w h => List.mem_of_mem_drop (List.mem_of_mem_take (show w ∈ (lw_tbl.drop 672).take 48 from h))
def tk_15 : List Cond := [(Jvm.Cond.fieldLink "HomeCallsModel" (37 : Nat) "HomeCallsModel" "traced" "[I"), (Jvm.Cond.fieldLink "HomeCallsModel" (215 : Nat) "HomeCallsModel" "tracedMany" "I"), (Jvm.Cond.fieldLink "HomeCallsModel" (234 : Nat) "HomeCallsModel" "voiceKind" "I"), (Jvm.Cond.fieldLink "HomeCallsModel" (222 : Nat) "HomeCallsModel" "voiceN" "I"), (Jvm.Cond.fieldLink "HomeCallsModel" (228 : Nat) "HomeCallsModel" "voiceM" "I"), (Jvm.Cond.laysFinal "HomeCallsModel" "HomeCallsModel" "row" "[I"), (Jvm.Cond.soleField "HomeCallsModel" "row"), (Jvm.Cond.laysFinal "HomeCallsModel" "HomeCallsModel" "kept" "[I"), (Jvm.Cond.soleField "HomeCallsModel" "kept"), (Jvm.Cond.laysFinal "HomeCallsModel" "HomeCallsModel" "tried" "[I"), (Jvm.Cond.soleField "HomeCallsModel" "tried"), (Jvm.Cond.laysFinal "HomeCallsModel" "HomeCallsModel" "before" "[I"), (Jvm.Cond.soleField "HomeCallsModel" "before"), (Jvm.Cond.lays "HomeCallsModel" "HomeCallsModel" "isKept" "Z"), (Jvm.Cond.soleField "HomeCallsModel" "isKept"), (Jvm.Cond.lays "HomeCallsModel" "HomeCallsModel" "images" "I"), (Jvm.Cond.soleField "HomeCallsModel" "images"), (Jvm.Cond.laysFinal "HomeCallsModel" "HomeCallsModel" "found" "[I"), (Jvm.Cond.soleField "HomeCallsModel" "found"), (Jvm.Cond.lays "HomeCallsModel" "HomeCallsModel" "use" "I"), (Jvm.Cond.soleField "HomeCallsModel" "use"), (Jvm.Cond.lays "HomeCallsModel" "HomeCallsModel" "at" "I"), (Jvm.Cond.soleField "HomeCallsModel" "at"), (Jvm.Cond.lays "HomeCallsModel" "HomeCallsModel" "end" "I"), (Jvm.Cond.soleField "HomeCallsModel" "end"), (Jvm.Cond.lays "HomeCallsModel" "HomeCallsModel" "open" "I"), (Jvm.Cond.soleField "HomeCallsModel" "open"), (Jvm.Cond.lays "HomeCallsModel" "HomeCallsModel" "namedA" "I"), (Jvm.Cond.soleField "HomeCallsModel" "namedA"), (Jvm.Cond.lays "HomeCallsModel" "HomeCallsModel" "namedB" "I"), (Jvm.Cond.soleField "HomeCallsModel" "namedB"), (Jvm.Cond.lays "HomeCallsModel" "HomeCallsModel" "namedC" "I"), (Jvm.Cond.soleField "HomeCallsModel" "namedC"), (Jvm.Cond.lays "HomeCallsModel" "HomeCallsModel" "good" "Z"), (Jvm.Cond.soleField "HomeCallsModel" "good"), (Jvm.Cond.lays "HomeCallsModel" "HomeCallsModel" "taken" "I"), (Jvm.Cond.soleField "HomeCallsModel" "taken"), (Jvm.Cond.laysFinal "HomeCallsModel" "HomeCallsModel" "bitsOf" "[I"), (Jvm.Cond.soleField "HomeCallsModel" "bitsOf"), (Jvm.Cond.laysFinal "HomeCallsModel" "HomeCallsModel" "sizeOf" "[I"), (Jvm.Cond.soleField "HomeCallsModel" "sizeOf"), (Jvm.Cond.laysFinal "HomeCallsModel" "HomeCallsModel" "sheets" "[I"), (Jvm.Cond.soleField "HomeCallsModel" "sheets"), (Jvm.Cond.laysFinal "HomeCallsModel" "HomeCallsModel" "moved" "[I"), (Jvm.Cond.soleField "HomeCallsModel" "moved"), (Jvm.Cond.laysFinal "HomeCallsModel" "HomeCallsModel" "traced" "[I"), (Jvm.Cond.soleField "HomeCallsModel" "traced"), (Jvm.Cond.lays "HomeCallsModel" "HomeCallsModel" "tracedMany" "I")]
set_option maxRecDepth 40000 in
theorem tks_15 : ∀ w ∈ tk_15, w ∈ lw_tbl := fun w h => List.mem_of_mem_drop (List.mem_of_mem_take (show w ∈ (lw_tbl.drop 720).take 48 from h))
def tk_16 : List Cond := [(Jvm.Cond.soleField "HomeCallsModel" "tracedMany"), (Jvm.Cond.lays "HomeCallsModel" "HomeCallsModel" "voiceKind" "I"), (Jvm.Cond.soleField "HomeCallsModel" "voiceKind"), (Jvm.Cond.lays "HomeCallsModel" "HomeCallsModel" "voiceN" "I"), (Jvm.Cond.soleField "HomeCallsModel" "voiceN"), (Jvm.Cond.lays "HomeCallsModel" "HomeCallsModel" "voiceM" "I"), (Jvm.Cond.soleField "HomeCallsModel" "voiceM"), (Jvm.Cond.superclass "HomeCallsModel" "java/lang/Object"), (Jvm.Cond.methodLink "HomeCallsLaw" (17 : Nat) ({ cls := "HomeCallsModel", name := "thing", desc := "(II)I" } : Jvm.MethodName)), (Jvm.Cond.instanceMethod ({ cls := "HomeCallsModel", name := "thing", desc := "(II)I" } : Jvm.MethodName)), (Jvm.Cond.selects "HomeCallsModel" ({ cls := "HomeCallsModel", name := "thing", desc := "(II)I" } : Jvm.MethodName) ({ cls := "HomeCallsModel", name := "thing", desc := "(II)I" } : Jvm.MethodName)), (Jvm.Cond.code ({ cls := "HomeCallsModel", name := "thing", desc := "(II)I" } : Jvm.MethodName) prog_8_method_16_code (3 : Nat) (Option.some Jvm.ClassFile.FieldType.int)), (Jvm.Cond.methodLink "HomeCallsModel" (45 : Nat) ({ cls := "HomeCallsModel", name := "isCell", desc := "(I)Z" } : Jvm.MethodName)), (Jvm.Cond.static ({ cls := "HomeCallsModel", name := "isCell", desc := "(I)Z" } : Jvm.MethodName)), (Jvm.Cond.code ({ cls := "HomeCallsModel", name := "isCell", desc := "(I)Z" } : Jvm.MethodName) prog_8_method_9_code (1 : Nat) (Option.some Jvm.ClassFile.FieldType.boolean)), (Jvm.Cond.methodLink "HomeCallsModel" (41 : Nat) ({ cls := "HomeCallsModel", name := "in", desc := "(III)Z" } : Jvm.MethodName)), (Jvm.Cond.static ({ cls := "HomeCallsModel", name := "in", desc := "(III)Z" } : Jvm.MethodName)), (Jvm.Cond.code ({ cls := "HomeCallsModel", name := "in", desc := "(III)Z" } : Jvm.MethodName) prog_8_method_2_code (3 : Nat) (Option.some Jvm.ClassFile.FieldType.boolean)), (Jvm.Cond.constant "HomeCallsModel" (49 : Nat) (-1000000001 : Int32)), (Jvm.Cond.methodLink "HomeCallsModel" (50 : Nat) ({ cls := "HomeCallsModel", name := "errs", desc := "(I)I" } : Jvm.MethodName)), (Jvm.Cond.privateMethod ({ cls := "HomeCallsModel", name := "errs", desc := "(I)I" } : Jvm.MethodName)), (Jvm.Cond.instanceMethod ({ cls := "HomeCallsModel", name := "errs", desc := "(I)I" } : Jvm.MethodName)), (Jvm.Cond.code ({ cls := "HomeCallsModel", name := "errs", desc := "(I)I" } : Jvm.MethodName) prog_8_method_3_code (2 : Nat) (Option.some Jvm.ClassFile.FieldType.int)), (Jvm.Cond.constant "HomeCallsModel" (40 : Nat) (-1000000000 : Int32)), (Jvm.Cond.constant "HomeCallsModel" (54 : Nat) (-1000000004 : Int32)), (Jvm.Cond.methodLink "HomeCallsModel" (55 : Nat) ({ cls := "HomeCallsModel", name := "adds", desc := "(II)V" } : Jvm.MethodName)), (Jvm.Cond.privateMethod ({ cls := "HomeCallsModel", name := "adds", desc := "(II)V" } : Jvm.MethodName)), (Jvm.Cond.instanceMethod ({ cls := "HomeCallsModel", name := "adds", desc := "(II)V" } : Jvm.MethodName)), (Jvm.Cond.code ({ cls := "HomeCallsModel", name := "adds", desc := "(II)V" } : Jvm.MethodName) prog_8_method_15_code (3 : Nat) (Option.none : Option Jvm.ClassFile.FieldType)), (Jvm.Cond.methodLink "HomeCallsLaw" (21 : Nat) ({ cls := "HomeCallsModel", name := "ofThing", desc := "(II)I" } : Jvm.MethodName)), (Jvm.Cond.instanceMethod ({ cls := "HomeCallsModel", name := "ofThing", desc := "(II)I" } : Jvm.MethodName)), (Jvm.Cond.selects "HomeCallsModel" ({ cls := "HomeCallsModel", name := "ofThing", desc := "(II)I" } : Jvm.MethodName) ({ cls := "HomeCallsModel", name := "ofThing", desc := "(II)I" } : Jvm.MethodName)), (Jvm.Cond.code ({ cls := "HomeCallsModel", name := "ofThing", desc := "(II)I" } : Jvm.MethodName) prog_8_method_17_code (3 : Nat) (Option.some Jvm.ClassFile.FieldType.int)), (Jvm.Cond.methodLink "HomeCallsModel" (59 : Nat) ({ cls := "HomeCallsModel", name := "isThing", desc := "(I)Z" } : Jvm.MethodName)), (Jvm.Cond.privateMethod ({ cls := "HomeCallsModel", name := "isThing", desc := "(I)Z" } : Jvm.MethodName)), (Jvm.Cond.instanceMethod ({ cls := "HomeCallsModel", name := "isThing", desc := "(I)Z" } : Jvm.MethodName)), (Jvm.Cond.code ({ cls := "HomeCallsModel", name := "isThing", desc := "(I)Z" } : Jvm.MethodName) prog_8_method_12_code (2 : Nat) (Option.some Jvm.ClassFile.FieldType.boolean)), (Jvm.Cond.methodLink "HomeCallsLaw" (26 : Nat) ({ cls := "HomeCallsModel", name := "shift", desc := "(III)I" } : Jvm.MethodName)), (Jvm.Cond.instanceMethod ({ cls := "HomeCallsModel", name := "shift", desc := "(III)I" } : Jvm.MethodName)), (Jvm.Cond.selects "HomeCallsModel" ({ cls := "HomeCallsModel", name := "shift", desc := "(III)I" } : Jvm.MethodName) ({ cls := "HomeCallsModel", name := "shift", desc := "(III)I" } : Jvm.MethodName)), (Jvm.Cond.code ({ cls := "HomeCallsModel", name := "shift", desc := "(III)I" } : Jvm.MethodName) prog_8_method_18_code (5 : Nat) (Option.some Jvm.ClassFile.FieldType.int)), (Jvm.Cond.methodLink "HomeCallsModel" (62 : Nat) ({ cls := "HomeCallsModel", name := "becomes", desc := "(II)I" } : Jvm.MethodName)), (Jvm.Cond.privateMethod ({ cls := "HomeCallsModel", name := "becomes", desc := "(II)I" } : Jvm.MethodName)), (Jvm.Cond.instanceMethod ({ cls := "HomeCallsModel", name := "becomes", desc := "(II)I" } : Jvm.MethodName)), (Jvm.Cond.code ({ cls := "HomeCallsModel", name := "becomes", desc := "(II)I" } : Jvm.MethodName) prog_8_method_14_code (4 : Nat) (Option.some Jvm.ClassFile.FieldType.int)), (Jvm.Cond.methodLink "HomeCallsLaw" (30 : Nat) ({ cls := "HomeCallsModel", name := "child", desc := "(II)I" } : Jvm.MethodName)), (Jvm.Cond.instanceMethod ({ cls := "HomeCallsModel", name := "child", desc := "(II)I" } : Jvm.MethodName)), (Jvm.Cond.selects "HomeCallsModel" ({ cls := "HomeCallsModel", name := "child", desc := "(II)I" } : Jvm.MethodName) ({ cls := "HomeCallsModel", name := "child", desc := "(II)I" } : Jvm.MethodName))]
set_option maxRecDepth 40000 in
theorem tks_16 : ∀ w ∈ tk_16, w ∈ lw_tbl := fun w h => List.mem_of_mem_drop (List.mem_of_mem_take (show w ∈ (lw_tbl.drop 768).take 48 from h))
def tk_17 : List Cond := [(Jvm.Cond.code ({ cls := "HomeCallsModel", name := "child", desc := "(II)I" } : Jvm.MethodName) prog_8_method_19_code (4 : Nat) (Option.some Jvm.ClassFile.FieldType.int)), (Jvm.Cond.methodLink "HomeCallsModel" (66 : Nat) ({ cls := "HomeCallsModel", name := "gets", desc := "(III)V" } : Jvm.MethodName)), (Jvm.Cond.privateMethod ({ cls := "HomeCallsModel", name := "gets", desc := "(III)V" } : Jvm.MethodName)), (Jvm.Cond.instanceMethod ({ cls := "HomeCallsModel", name := "gets", desc := "(III)V" } : Jvm.MethodName)), (Jvm.Cond.code ({ cls := "HomeCallsModel", name := "gets", desc := "(III)V" } : Jvm.MethodName) prog_8_method_8_code (4 : Nat) (Option.none : Option Jvm.ClassFile.FieldType)), (Jvm.Cond.methodLink "HomeCallsLaw" (34 : Nat) ({ cls := "HomeCallsModel", name := "ofChild", desc := "(II)I" } : Jvm.MethodName)), (Jvm.Cond.instanceMethod ({ cls := "HomeCallsModel", name := "ofChild", desc := "(II)I" } : Jvm.MethodName)), (Jvm.Cond.selects "HomeCallsModel" ({ cls := "HomeCallsModel", name := "ofChild", desc := "(II)I" } : Jvm.MethodName) ({ cls := "HomeCallsModel", name := "ofChild", desc := "(II)I" } : Jvm.MethodName)), (Jvm.Cond.code ({ cls := "HomeCallsModel", name := "ofChild", desc := "(II)I" } : Jvm.MethodName) prog_8_method_20_code (3 : Nat) (Option.some Jvm.ClassFile.FieldType.int)), (Jvm.Cond.methodLink "HomeCallsModel" (70 : Nat) ({ cls := "HomeCallsModel", name := "isChild", desc := "(I)Z" } : Jvm.MethodName)), (Jvm.Cond.privateMethod ({ cls := "HomeCallsModel", name := "isChild", desc := "(I)Z" } : Jvm.MethodName)), (Jvm.Cond.instanceMethod ({ cls := "HomeCallsModel", name := "isChild", desc := "(I)Z" } : Jvm.MethodName)), (Jvm.Cond.code ({ cls := "HomeCallsModel", name := "isChild", desc := "(I)Z" } : Jvm.MethodName) prog_8_method_13_code (2 : Nat) (Option.some Jvm.ClassFile.FieldType.boolean)), (Jvm.Cond.methodLink "HomeCallsModel" (73 : Nat) ({ cls := "HomeCallsModel", name := "its", desc := "(II)I" } : Jvm.MethodName)), (Jvm.Cond.privateMethod ({ cls := "HomeCallsModel", name := "its", desc := "(II)I" } : Jvm.MethodName)), (Jvm.Cond.instanceMethod ({ cls := "HomeCallsModel", name := "its", desc := "(II)I" } : Jvm.MethodName)), (Jvm.Cond.code ({ cls := "HomeCallsModel", name := "its", desc := "(II)I" } : Jvm.MethodName) prog_8_method_7_code (3 : Nat) (Option.some Jvm.ClassFile.FieldType.int)), (Jvm.Cond.methodLink "HomeCallsModel" (76 : Nat) ({ cls := "HomeCallsModel", name := "pace", desc := "(I)I" } : Jvm.MethodName)), (Jvm.Cond.privateMethod ({ cls := "HomeCallsModel", name := "pace", desc := "(I)I" } : Jvm.MethodName)), (Jvm.Cond.instanceMethod ({ cls := "HomeCallsModel", name := "pace", desc := "(I)I" } : Jvm.MethodName)), (Jvm.Cond.code ({ cls := "HomeCallsModel", name := "pace", desc := "(I)I" } : Jvm.MethodName) prog_8_method_42_code (4 : Nat) (Option.some Jvm.ClassFile.FieldType.int)), (Jvm.Cond.methodLink "HomeCallsModel" (79 : Nat) ({ cls := "HomeCallsModel", name := "far", desc := "(I)I" } : Jvm.MethodName)), (Jvm.Cond.privateMethod ({ cls := "HomeCallsModel", name := "far", desc := "(I)I" } : Jvm.MethodName)), (Jvm.Cond.instanceMethod ({ cls := "HomeCallsModel", name := "far", desc := "(I)I" } : Jvm.MethodName)), (Jvm.Cond.code ({ cls := "HomeCallsModel", name := "far", desc := "(I)I" } : Jvm.MethodName) prog_8_method_43_code (3 : Nat) (Option.some Jvm.ClassFile.FieldType.int)), (Jvm.Cond.methodLink "HomeCallsLaw" (38 : Nat) ({ cls := "HomeCallsModel", name := "change", desc := "(III)I" } : Jvm.MethodName)), (Jvm.Cond.instanceMethod ({ cls := "HomeCallsModel", name := "change", desc := "(III)I" } : Jvm.MethodName)), (Jvm.Cond.selects "HomeCallsModel" ({ cls := "HomeCallsModel", name := "change", desc := "(III)I" } : Jvm.MethodName) ({ cls := "HomeCallsModel", name := "change", desc := "(III)I" } : Jvm.MethodName)), (Jvm.Cond.code ({ cls := "HomeCallsModel", name := "change", desc := "(III)I" } : Jvm.MethodName) prog_8_method_21_code (5 : Nat) (Option.some Jvm.ClassFile.FieldType.int)), (Jvm.Cond.methodLink "HomeCallsLaw" (43 : Nat) ({ cls := "HomeCallsModel", name := "it", desc := "(I)I" } : Jvm.MethodName)), (Jvm.Cond.instanceMethod ({ cls := "HomeCallsModel", name := "it", desc := "(I)I" } : Jvm.MethodName)), (Jvm.Cond.selects "HomeCallsModel" ({ cls := "HomeCallsModel", name := "it", desc := "(I)I" } : Jvm.MethodName) ({ cls := "HomeCallsModel", name := "it", desc := "(I)I" } : Jvm.MethodName)), (Jvm.Cond.code ({ cls := "HomeCallsModel", name := "it", desc := "(I)I" } : Jvm.MethodName) prog_8_method_22_code (2 : Nat) (Option.some Jvm.ClassFile.FieldType.int)), (Jvm.Cond.methodLink "HomeCallsLaw" (47 : Nat) ({ cls := "HomeCallsModel", name := "become", desc := "(II)I" } : Jvm.MethodName)), (Jvm.Cond.instanceMethod ({ cls := "HomeCallsModel", name := "become", desc := "(II)I" } : Jvm.MethodName)), (Jvm.Cond.selects "HomeCallsModel" ({ cls := "HomeCallsModel", name := "become", desc := "(II)I" } : Jvm.MethodName) ({ cls := "HomeCallsModel", name := "become", desc := "(II)I" } : Jvm.MethodName)), (Jvm.Cond.code ({ cls := "HomeCallsModel", name := "become", desc := "(II)I" } : Jvm.MethodName) prog_8_method_23_code (3 : Nat) (Option.some Jvm.ClassFile.FieldType.int)), (Jvm.Cond.methodLink "HomeCallsLaw" (51 : Nat) ({ cls := "HomeCallsModel", name := "as", desc := "(II)I" } : Jvm.MethodName)), (Jvm.Cond.instanceMethod ({ cls := "HomeCallsModel", name := "as", desc := "(II)I" } : Jvm.MethodName)), (Jvm.Cond.selects "HomeCallsModel" ({ cls := "HomeCallsModel", name := "as", desc := "(II)I" } : Jvm.MethodName) ({ cls := "HomeCallsModel", name := "as", desc := "(II)I" } : Jvm.MethodName)), (Jvm.Cond.code ({ cls := "HomeCallsModel", name := "as", desc := "(II)I" } : Jvm.MethodName) prog_8_method_25_code (4 : Nat) (Option.some Jvm.ClassFile.FieldType.int)), (Jvm.Cond.methodLink "HomeCallsModel" (82 : Nat) ({ cls := "HomeCallsModel", name := "above", desc := "(I)I" } : Jvm.MethodName)), (Jvm.Cond.static ({ cls := "HomeCallsModel", name := "above", desc := "(I)I" } : Jvm.MethodName)), (Jvm.Cond.code ({ cls := "HomeCallsModel", name := "above", desc := "(I)I" } : Jvm.MethodName) prog_8_method_24_code (1 : Nat) (Option.some Jvm.ClassFile.FieldType.int)), (Jvm.Cond.constant "HomeCallsModel" (85 : Nat) (-1000000005 : Int32)), (Jvm.Cond.methodLink "HomeCallsLaw" (67 : Nat) ({ cls := "HomeCallsModel", name := "law", desc := "(IIII)I" } : Jvm.MethodName)), (Jvm.Cond.instanceMethod ({ cls := "HomeCallsModel", name := "law", desc := "(IIII)I" } : Jvm.MethodName)), (Jvm.Cond.selects "HomeCallsModel" ({ cls := "HomeCallsModel", name := "law", desc := "(IIII)I" } : Jvm.MethodName) ({ cls := "HomeCallsModel", name := "law", desc := "(IIII)I" } : Jvm.MethodName))]
set_option maxRecDepth 40000 in
theorem tks_17 : ∀ w ∈ tk_17, w ∈ lw_tbl := fun w h => List.mem_of_mem_drop (List.mem_of_mem_take (show w ∈ (lw_tbl.drop 816).take 48 from h))
def tk_18 : List Cond := [(Jvm.Cond.code ({ cls := "HomeCallsModel", name := "law", desc := "(IIII)I" } : Jvm.MethodName) prog_8_method_39_code (5 : Nat) (Option.some Jvm.ClassFile.FieldType.int)), (Jvm.Cond.methodLink "HomeCallsModel" (154 : Nat) ({ cls := "HomeCallsModel", name := "lawOf", desc := "(IIII)I" } : Jvm.MethodName)), (Jvm.Cond.privateMethod ({ cls := "HomeCallsModel", name := "lawOf", desc := "(IIII)I" } : Jvm.MethodName)), (Jvm.Cond.instanceMethod ({ cls := "HomeCallsModel", name := "lawOf", desc := "(IIII)I" } : Jvm.MethodName)), (Jvm.Cond.code ({ cls := "HomeCallsModel", name := "lawOf", desc := "(IIII)I" } : Jvm.MethodName) prog_8_method_38_code (5 : Nat) (Option.some Jvm.ClassFile.FieldType.int)), (Jvm.Cond.methodLink "HomeCallsModel" (146 : Nat) ({ cls := "HomeCallsModel", name := "walks", desc := "(IIII)I" } : Jvm.MethodName)), (Jvm.Cond.privateMethod ({ cls := "HomeCallsModel", name := "walks", desc := "(IIII)I" } : Jvm.MethodName)), (Jvm.Cond.instanceMethod ({ cls := "HomeCallsModel", name := "walks", desc := "(IIII)I" } : Jvm.MethodName)), (Jvm.Cond.code ({ cls := "HomeCallsModel", name := "walks", desc := "(IIII)I" } : Jvm.MethodName) prog_8_method_37_code (6 : Nat) (Option.some Jvm.ClassFile.FieldType.int)), (Jvm.Cond.methodLink "HomeCallsModel" (131 : Nat) ({ cls := "HomeCallsModel", name := "whole", desc := "()I" } : Jvm.MethodName)), (Jvm.Cond.privateMethod ({ cls := "HomeCallsModel", name := "whole", desc := "()I" } : Jvm.MethodName)), (Jvm.Cond.instanceMethod ({ cls := "HomeCallsModel", name := "whole", desc := "()I" } : Jvm.MethodName)), (Jvm.Cond.code ({ cls := "HomeCallsModel", name := "whole", desc := "()I" } : Jvm.MethodName) prog_8_method_36_code (3 : Nat) (Option.some Jvm.ClassFile.FieldType.int)), (Jvm.Cond.methodLink "HomeCallsModel" (143 : Nat) ({ cls := "HomeCallsModel", name := "both", desc := "()I" } : Jvm.MethodName)), (Jvm.Cond.privateMethod ({ cls := "HomeCallsModel", name := "both", desc := "()I" } : Jvm.MethodName)), (Jvm.Cond.instanceMethod ({ cls := "HomeCallsModel", name := "both", desc := "()I" } : Jvm.MethodName)), (Jvm.Cond.code ({ cls := "HomeCallsModel", name := "both", desc := "()I" } : Jvm.MethodName) prog_8_method_35_code (3 : Nat) (Option.some Jvm.ClassFile.FieldType.int)), (Jvm.Cond.methodLink "HomeCallsModel" (140 : Nat) ({ cls := "HomeCallsModel", name := "compared", desc := "()I" } : Jvm.MethodName)), (Jvm.Cond.privateMethod ({ cls := "HomeCallsModel", name := "compared", desc := "()I" } : Jvm.MethodName)), (Jvm.Cond.instanceMethod ({ cls := "HomeCallsModel", name := "compared", desc := "()I" } : Jvm.MethodName)), (Jvm.Cond.code ({ cls := "HomeCallsModel", name := "compared", desc := "()I" } : Jvm.MethodName) prog_8_method_34_code (5 : Nat) (Option.some Jvm.ClassFile.FieldType.int)), (Jvm.Cond.methodLink "HomeCallsModel" (137 : Nat) ({ cls := "HomeCallsModel", name := "sum", desc := "()I" } : Jvm.MethodName)), (Jvm.Cond.privateMethod ({ cls := "HomeCallsModel", name := "sum", desc := "()I" } : Jvm.MethodName)), (Jvm.Cond.instanceMethod ({ cls := "HomeCallsModel", name := "sum", desc := "()I" } : Jvm.MethodName)), (Jvm.Cond.code ({ cls := "HomeCallsModel", name := "sum", desc := "()I" } : Jvm.MethodName) prog_8_method_33_code (4 : Nat) (Option.some Jvm.ClassFile.FieldType.int)), (Jvm.Cond.methodLink "HomeCallsModel" (134 : Nat) ({ cls := "HomeCallsModel", name := "product", desc := "()I" } : Jvm.MethodName)), (Jvm.Cond.privateMethod ({ cls := "HomeCallsModel", name := "product", desc := "()I" } : Jvm.MethodName)), (Jvm.Cond.instanceMethod ({ cls := "HomeCallsModel", name := "product", desc := "()I" } : Jvm.MethodName)), (Jvm.Cond.code ({ cls := "HomeCallsModel", name := "product", desc := "()I" } : Jvm.MethodName) prog_8_method_32_code (4 : Nat) (Option.some Jvm.ClassFile.FieldType.int)), (Jvm.Cond.methodLink "HomeCallsModel" (128 : Nat) ({ cls := "HomeCallsModel", name := "factor", desc := "()I" } : Jvm.MethodName)), (Jvm.Cond.privateMethod ({ cls := "HomeCallsModel", name := "factor", desc := "()I" } : Jvm.MethodName)), (Jvm.Cond.instanceMethod ({ cls := "HomeCallsModel", name := "factor", desc := "()I" } : Jvm.MethodName)), (Jvm.Cond.code ({ cls := "HomeCallsModel", name := "factor", desc := "()I" } : Jvm.MethodName) prog_8_method_31_code (3 : Nat) (Option.some Jvm.ClassFile.FieldType.int)), (Jvm.Cond.methodLink "HomeCallsModel" (100 : Nat) ({ cls := "HomeCallsModel", name := "byteAt", desc := "(I)I" } : Jvm.MethodName)), (Jvm.Cond.privateMethod ({ cls := "HomeCallsModel", name := "byteAt", desc := "(I)I" } : Jvm.MethodName)), (Jvm.Cond.instanceMethod ({ cls := "HomeCallsModel", name := "byteAt", desc := "(I)I" } : Jvm.MethodName)), (Jvm.Cond.code ({ cls := "HomeCallsModel", name := "byteAt", desc := "(I)I" } : Jvm.MethodName) prog_8_method_26_code (2 : Nat) (Option.some Jvm.ClassFile.FieldType.int)), (Jvm.Cond.methodLink "HomeCallsModel" (103 : Nat) ({ cls := "HomeCallsModel", name := "isDigit", desc := "(I)Z" } : Jvm.MethodName)), (Jvm.Cond.static ({ cls := "HomeCallsModel", name := "isDigit", desc := "(I)Z" } : Jvm.MethodName)), (Jvm.Cond.code ({ cls := "HomeCallsModel", name := "isDigit", desc := "(I)Z" } : Jvm.MethodName) prog_8_method_27_code (1 : Nat) (Option.some Jvm.ClassFile.FieldType.boolean)), (Jvm.Cond.methodLink "HomeCallsModel" (119 : Nat) ({ cls := "HomeCallsModel", name := "number", desc := "()I" } : Jvm.MethodName)), (Jvm.Cond.privateMethod ({ cls := "HomeCallsModel", name := "number", desc := "()I" } : Jvm.MethodName)), (Jvm.Cond.instanceMethod ({ cls := "HomeCallsModel", name := "number", desc := "()I" } : Jvm.MethodName)), (Jvm.Cond.code ({ cls := "HomeCallsModel", name := "number", desc := "()I" } : Jvm.MethodName) prog_8_method_29_code (3 : Nat) (Option.some Jvm.ClassFile.FieldType.int)), (Jvm.Cond.methodLink "HomeCallsModel" (122 : Nat) ({ cls := "HomeCallsModel", name := "named", desc := "(I)I" } : Jvm.MethodName)), (Jvm.Cond.privateMethod ({ cls := "HomeCallsModel", name := "named", desc := "(I)I" } : Jvm.MethodName)), (Jvm.Cond.instanceMethod ({ cls := "HomeCallsModel", name := "named", desc := "(I)I" } : Jvm.MethodName)), (Jvm.Cond.code ({ cls := "HomeCallsModel", name := "named", desc := "(I)I" } : Jvm.MethodName) prog_8_method_30_code (5 : Nat) (Option.some Jvm.ClassFile.FieldType.int))]
set_option maxRecDepth 40000 in
theorem tks_18 : ∀ w ∈ tk_18, w ∈ lw_tbl := fun w h => List.mem_of_mem_drop (List.mem_of_mem_take (show w ∈ (lw_tbl.drop 864).take 48 from h))
def tk_19 : List Cond := [(Jvm.Cond.methodLink "HomeCallsModel" (106 : Nat) ({ cls := "HomeCallsModel", name := "fails", desc := "()I" } : Jvm.MethodName)), (Jvm.Cond.privateMethod ({ cls := "HomeCallsModel", name := "fails", desc := "()I" } : Jvm.MethodName)), (Jvm.Cond.instanceMethod ({ cls := "HomeCallsModel", name := "fails", desc := "()I" } : Jvm.MethodName)), (Jvm.Cond.code ({ cls := "HomeCallsModel", name := "fails", desc := "()I" } : Jvm.MethodName) prog_8_method_28_code (1 : Nat) (Option.some Jvm.ClassFile.FieldType.int)), (Jvm.Cond.methodLink "HomeCallsModel" (150 : Nat) ({ cls := "HomeCallsModel", name := "held", desc := "(III)I" } : Jvm.MethodName)), (Jvm.Cond.static ({ cls := "HomeCallsModel", name := "held", desc := "(III)I" } : Jvm.MethodName)), (Jvm.Cond.code ({ cls := "HomeCallsModel", name := "held", desc := "(III)I" } : Jvm.MethodName) prog_8_method_4_code (3 : Nat) (Option.some Jvm.ClassFile.FieldType.int)), (Jvm.Cond.methodLink "HomeCallsLaw" (58 : Nat) ({ cls := "HomeCallsModel", name := "feed", desc := "(JI)I" } : Jvm.MethodName)), (Jvm.Cond.instanceMethod ({ cls := "HomeCallsModel", name := "feed", desc := "(JI)I" } : Jvm.MethodName)), (Jvm.Cond.selects "HomeCallsModel" ({ cls := "HomeCallsModel", name := "feed", desc := "(JI)I" } : Jvm.MethodName) ({ cls := "HomeCallsModel", name := "feed", desc := "(JI)I" } : Jvm.MethodName)), (Jvm.Cond.code ({ cls := "HomeCallsModel", name := "feed", desc := "(JI)I" } : Jvm.MethodName) prog_8_method_40_code (5 : Nat) (Option.some Jvm.ClassFile.FieldType.int)), (Jvm.Cond.constantLong "HomeCallsModel" (157 : Nat) (255 : Int64)), (Jvm.Cond.methodLink "HomeCallsLaw" (62 : Nat) ({ cls := "HomeCallsModel", name := "text", desc := "(I)I" } : Jvm.MethodName)), (Jvm.Cond.instanceMethod ({ cls := "HomeCallsModel", name := "text", desc := "(I)I" } : Jvm.MethodName)), (Jvm.Cond.selects "HomeCallsModel" ({ cls := "HomeCallsModel", name := "text", desc := "(I)I" } : Jvm.MethodName) ({ cls := "HomeCallsModel", name := "text", desc := "(I)I" } : Jvm.MethodName)), (Jvm.Cond.code ({ cls := "HomeCallsModel", name := "text", desc := "(I)I" } : Jvm.MethodName) prog_8_method_41_code (5 : Nat) (Option.some Jvm.ClassFile.FieldType.int)), (Jvm.Cond.methodLink "HomeCallsModel" (159 : Nat) ({ cls := "HomeCallsModel", name := "moveAll", desc := "([I[I)V" } : Jvm.MethodName)), (Jvm.Cond.privateMethod ({ cls := "HomeCallsModel", name := "moveAll", desc := "([I[I)V" } : Jvm.MethodName)), (Jvm.Cond.instanceMethod ({ cls := "HomeCallsModel", name := "moveAll", desc := "([I[I)V" } : Jvm.MethodName)), (Jvm.Cond.code ({ cls := "HomeCallsModel", name := "moveAll", desc := "([I[I)V" } : Jvm.MethodName) prog_8_method_5_code (4 : Nat) (Option.none : Option Jvm.ClassFile.FieldType)), (Jvm.Cond.methodLink "HomeCallsLaw" (71 : Nat) ({ cls := "HomeCallsModel", name := "call", desc := "(II)I" } : Jvm.MethodName)), (Jvm.Cond.instanceMethod ({ cls := "HomeCallsModel", name := "call", desc := "(II)I" } : Jvm.MethodName)), (Jvm.Cond.selects "HomeCallsModel" ({ cls := "HomeCallsModel", name := "call", desc := "(II)I" } : Jvm.MethodName) ({ cls := "HomeCallsModel", name := "call", desc := "(II)I" } : Jvm.MethodName)), (Jvm.Cond.code ({ cls := "HomeCallsModel", name := "call", desc := "(II)I" } : Jvm.MethodName) prog_8_method_51_code (3 : Nat) (Option.some Jvm.ClassFile.FieldType.int)), (Jvm.Cond.methodLink "HomeCallsModel" (185 : Nat) ({ cls := "HomeCallsModel", name := "isMark", desc := "(I)Z" } : Jvm.MethodName)), (Jvm.Cond.static ({ cls := "HomeCallsModel", name := "isMark", desc := "(I)Z" } : Jvm.MethodName)), (Jvm.Cond.code ({ cls := "HomeCallsModel", name := "isMark", desc := "(I)Z" } : Jvm.MethodName) prog_8_method_10_code (1 : Nat) (Option.some Jvm.ClassFile.FieldType.boolean)), (Jvm.Cond.methodLink "HomeCallsModel" (188 : Nat) ({ cls := "HomeCallsModel", name := "areSteps", desc := "(I)Z" } : Jvm.MethodName)), (Jvm.Cond.static ({ cls := "HomeCallsModel", name := "areSteps", desc := "(I)Z" } : Jvm.MethodName)), (Jvm.Cond.code ({ cls := "HomeCallsModel", name := "areSteps", desc := "(I)Z" } : Jvm.MethodName) prog_8_method_11_code (1 : Nat) (Option.some Jvm.ClassFile.FieldType.boolean)), (Jvm.Cond.constant "HomeCallsModel" (191 : Nat) (-1000000003 : Int32)), (Jvm.Cond.methodLink "HomeCallsModel" (182 : Nat) ({ cls := "HomeCallsModel", name := "calls", desc := "(II)I" } : Jvm.MethodName)), (Jvm.Cond.privateMethod ({ cls := "HomeCallsModel", name := "calls", desc := "(II)I" } : Jvm.MethodName)), (Jvm.Cond.instanceMethod ({ cls := "HomeCallsModel", name := "calls", desc := "(II)I" } : Jvm.MethodName)), (Jvm.Cond.code ({ cls := "HomeCallsModel", name := "calls", desc := "(II)I" } : Jvm.MethodName) prog_8_method_49_code (7 : Nat) (Option.some Jvm.ClassFile.FieldType.int)), (Jvm.Cond.methodLink "HomeCallsModel" (176 : Nat) ({ cls := "HomeCallsModel", name := "ends", desc := "(III)I" } : Jvm.MethodName)), (Jvm.Cond.privateMethod ({ cls := "HomeCallsModel", name := "ends", desc := "(III)I" } : Jvm.MethodName)), (Jvm.Cond.instanceMethod ({ cls := "HomeCallsModel", name := "ends", desc := "(III)I" } : Jvm.MethodName)), (Jvm.Cond.code ({ cls := "HomeCallsModel", name := "ends", desc := "(III)I" } : Jvm.MethodName) prog_8_method_47_code (9 : Nat) (Option.some Jvm.ClassFile.FieldType.int)), (Jvm.Cond.methodLink "HomeCallsModel" (173 : Nat) ({ cls := "HomeCallsModel", name := "aim", desc := "(II)I" } : Jvm.MethodName)), (Jvm.Cond.privateMethod ({ cls := "HomeCallsModel", name := "aim", desc := "(II)I" } : Jvm.MethodName)), (Jvm.Cond.instanceMethod ({ cls := "HomeCallsModel", name := "aim", desc := "(II)I" } : Jvm.MethodName)), (Jvm.Cond.code ({ cls := "HomeCallsModel", name := "aim", desc := "(II)I" } : Jvm.MethodName) prog_8_method_46_code (7 : Nat) (Option.some Jvm.ClassFile.FieldType.int)), (Jvm.Cond.methodLink "HomeCallsModel" (166 : Nat) ({ cls := "HomeCallsModel", name := "round", desc := "(II)I" } : Jvm.MethodName)), (Jvm.Cond.static ({ cls := "HomeCallsModel", name := "round", desc := "(II)I" } : Jvm.MethodName)), (Jvm.Cond.code ({ cls := "HomeCallsModel", name := "round", desc := "(II)I" } : Jvm.MethodName) prog_8_method_44_code (3 : Nat) (Option.some Jvm.ClassFile.FieldType.int)), (Jvm.Cond.methodLink "HomeCallsModel" (169 : Nat) ({ cls := "HomeCallsModel", name := "isMarked", desc := "(II)Z" } : Jvm.MethodName)), (Jvm.Cond.privateMethod ({ cls := "HomeCallsModel", name := "isMarked", desc := "(II)Z" } : Jvm.MethodName))]
set_option maxRecDepth 40000 in
theorem tks_19 : ∀ w ∈ tk_19, w ∈ lw_tbl := fun w h => List.mem_of_mem_drop (List.mem_of_mem_take (show w ∈ (lw_tbl.drop 912).take 48 from h))
def tk_20 : List Cond := [(Jvm.Cond.instanceMethod ({ cls := "HomeCallsModel", name := "isMarked", desc := "(II)Z" } : Jvm.MethodName)), (Jvm.Cond.code ({ cls := "HomeCallsModel", name := "isMarked", desc := "(II)Z" } : Jvm.MethodName) prog_8_method_45_code (3 : Nat) (Option.some Jvm.ClassFile.FieldType.boolean)), (Jvm.Cond.methodLink "HomeCallsModel" (179 : Nat) ({ cls := "HomeCallsModel", name := "isSafe", desc := "(II)Z" } : Jvm.MethodName)), (Jvm.Cond.privateMethod ({ cls := "HomeCallsModel", name := "isSafe", desc := "(II)Z" } : Jvm.MethodName)), (Jvm.Cond.instanceMethod ({ cls := "HomeCallsModel", name := "isSafe", desc := "(II)Z" } : Jvm.MethodName)), (Jvm.Cond.code ({ cls := "HomeCallsModel", name := "isSafe", desc := "(II)Z" } : Jvm.MethodName) prog_8_method_48_code (6 : Nat) (Option.some Jvm.ClassFile.FieldType.boolean)), (Jvm.Cond.methodLink "HomeCallsLaw" (75 : Nat) ({ cls := "HomeCallsModel", name := "loose", desc := "(I)I" } : Jvm.MethodName)), (Jvm.Cond.instanceMethod ({ cls := "HomeCallsModel", name := "loose", desc := "(I)I" } : Jvm.MethodName)), (Jvm.Cond.selects "HomeCallsModel" ({ cls := "HomeCallsModel", name := "loose", desc := "(I)I" } : Jvm.MethodName) ({ cls := "HomeCallsModel", name := "loose", desc := "(I)I" } : Jvm.MethodName)), (Jvm.Cond.code ({ cls := "HomeCallsModel", name := "loose", desc := "(I)I" } : Jvm.MethodName) prog_8_method_53_code (5 : Nat) (Option.some Jvm.ClassFile.FieldType.int)), (Jvm.Cond.methodLink "HomeCallsModel" (193 : Nat) ({ cls := "HomeCallsModel", name := "drawn", desc := "(I)I" } : Jvm.MethodName)), (Jvm.Cond.privateMethod ({ cls := "HomeCallsModel", name := "drawn", desc := "(I)I" } : Jvm.MethodName)), (Jvm.Cond.instanceMethod ({ cls := "HomeCallsModel", name := "drawn", desc := "(I)I" } : Jvm.MethodName)), (Jvm.Cond.code ({ cls := "HomeCallsModel", name := "drawn", desc := "(I)I" } : Jvm.MethodName) prog_8_method_52_code (2 : Nat) (Option.some Jvm.ClassFile.FieldType.int)), (Jvm.Cond.constant "HomeCallsModel" (192 : Nat) (1103515245 : Int32)), (Jvm.Cond.methodLink "HomeCallsModel" (196 : Nat) ({ cls := "HomeCallsModel", name := "bits", desc := "(I)I" } : Jvm.MethodName)), (Jvm.Cond.static ({ cls := "HomeCallsModel", name := "bits", desc := "(I)I" } : Jvm.MethodName)), (Jvm.Cond.code ({ cls := "HomeCallsModel", name := "bits", desc := "(I)I" } : Jvm.MethodName) prog_8_method_6_code (3 : Nat) (Option.some Jvm.ClassFile.FieldType.int)), (Jvm.Cond.methodLink "HomeCallsLaw" (79 : Nat) ({ cls := "HomeCallsModel", name := "hadBy", desc := "(II)I" } : Jvm.MethodName)), (Jvm.Cond.instanceMethod ({ cls := "HomeCallsModel", name := "hadBy", desc := "(II)I" } : Jvm.MethodName)), (Jvm.Cond.selects "HomeCallsModel" ({ cls := "HomeCallsModel", name := "hadBy", desc := "(II)I" } : Jvm.MethodName) ({ cls := "HomeCallsModel", name := "hadBy", desc := "(II)I" } : Jvm.MethodName)), (Jvm.Cond.code ({ cls := "HomeCallsModel", name := "hadBy", desc := "(II)I" } : Jvm.MethodName) prog_8_method_54_code (3 : Nat) (Option.some Jvm.ClassFile.FieldType.int)), (Jvm.Cond.methodLink "HomeCallsModel" (199 : Nat) ({ cls := "HomeCallsModel", name := "wouldBe", desc := "(II)I" } : Jvm.MethodName)), (Jvm.Cond.privateMethod ({ cls := "HomeCallsModel", name := "wouldBe", desc := "(II)I" } : Jvm.MethodName)), (Jvm.Cond.instanceMethod ({ cls := "HomeCallsModel", name := "wouldBe", desc := "(II)I" } : Jvm.MethodName)), (Jvm.Cond.code ({ cls := "HomeCallsModel", name := "wouldBe", desc := "(II)I" } : Jvm.MethodName) prog_8_method_50_code (4 : Nat) (Option.some Jvm.ClassFile.FieldType.int)), (Jvm.Cond.methodLink "HomeCallsLaw" (83 : Nat) ({ cls := "HomeCallsModel", name := "runsTo", desc := "(III)I" } : Jvm.MethodName)), (Jvm.Cond.instanceMethod ({ cls := "HomeCallsModel", name := "runsTo", desc := "(III)I" } : Jvm.MethodName)), (Jvm.Cond.selects "HomeCallsModel" ({ cls := "HomeCallsModel", name := "runsTo", desc := "(III)I" } : Jvm.MethodName) ({ cls := "HomeCallsModel", name := "runsTo", desc := "(III)I" } : Jvm.MethodName)), (Jvm.Cond.code ({ cls := "HomeCallsModel", name := "runsTo", desc := "(III)I" } : Jvm.MethodName) prog_8_method_55_code (4 : Nat) (Option.some Jvm.ClassFile.FieldType.int)), (Jvm.Cond.methodLink "HomeCallsLaw" (87 : Nat) ({ cls := "HomeCallsModel", name := "worst", desc := "(II)I" } : Jvm.MethodName)), (Jvm.Cond.instanceMethod ({ cls := "HomeCallsModel", name := "worst", desc := "(II)I" } : Jvm.MethodName)), (Jvm.Cond.selects "HomeCallsModel" ({ cls := "HomeCallsModel", name := "worst", desc := "(II)I" } : Jvm.MethodName) ({ cls := "HomeCallsModel", name := "worst", desc := "(II)I" } : Jvm.MethodName)), (Jvm.Cond.code ({ cls := "HomeCallsModel", name := "worst", desc := "(II)I" } : Jvm.MethodName) prog_8_method_56_code (7 : Nat) (Option.some Jvm.ClassFile.FieldType.int)), (Jvm.Cond.methodLink "HomeCallsLaw" (91 : Nat) ({ cls := "HomeCallsModel", name := "best", desc := "(II)I" } : Jvm.MethodName)), (Jvm.Cond.instanceMethod ({ cls := "HomeCallsModel", name := "best", desc := "(II)I" } : Jvm.MethodName)), (Jvm.Cond.selects "HomeCallsModel" ({ cls := "HomeCallsModel", name := "best", desc := "(II)I" } : Jvm.MethodName) ({ cls := "HomeCallsModel", name := "best", desc := "(II)I" } : Jvm.MethodName)), (Jvm.Cond.code ({ cls := "HomeCallsModel", name := "best", desc := "(II)I" } : Jvm.MethodName) prog_8_method_57_code (7 : Nat) (Option.some Jvm.ClassFile.FieldType.int)), (Jvm.Cond.methodLink "HomeCallsLaw" (95 : Nat) ({ cls := "HomeCallsModel", name := "stand", desc := "(III)I" } : Jvm.MethodName)), (Jvm.Cond.instanceMethod ({ cls := "HomeCallsModel", name := "stand", desc := "(III)I" } : Jvm.MethodName)), (Jvm.Cond.selects "HomeCallsModel" ({ cls := "HomeCallsModel", name := "stand", desc := "(III)I" } : Jvm.MethodName) ({ cls := "HomeCallsModel", name := "stand", desc := "(III)I" } : Jvm.MethodName)), (Jvm.Cond.code ({ cls := "HomeCallsModel", name := "stand", desc := "(III)I" } : Jvm.MethodName) prog_8_method_59_code (9 : Nat) (Option.some Jvm.ClassFile.FieldType.int)), (Jvm.Cond.methodLink "HomeCallsModel" (202 : Nat) ({ cls := "HomeCallsModel", name := "hadOften", desc := "(II)I" } : Jvm.MethodName)), (Jvm.Cond.privateMethod ({ cls := "HomeCallsModel", name := "hadOften", desc := "(II)I" } : Jvm.MethodName)), (Jvm.Cond.instanceMethod ({ cls := "HomeCallsModel", name := "hadOften", desc := "(II)I" } : Jvm.MethodName)), (Jvm.Cond.code ({ cls := "HomeCallsModel", name := "hadOften", desc := "(II)I" } : Jvm.MethodName) prog_8_method_58_code (5 : Nat) (Option.some Jvm.ClassFile.FieldType.int)), (Jvm.Cond.methodLink "HomeCallsLaw" (99 : Nat) ({ cls := "HomeCallsModel", name := "steps", desc := "(I)I" } : Jvm.MethodName)), (Jvm.Cond.instanceMethod ({ cls := "HomeCallsModel", name := "steps", desc := "(I)I" } : Jvm.MethodName))]
set_option maxRecDepth 40000 in
theorem tks_20 : ∀ w ∈ tk_20, w ∈ lw_tbl := fun w h => List.mem_of_mem_drop (List.mem_of_mem_take (show w ∈ (lw_tbl.drop 960).take 48 from h))
def tk_21 : List Cond := [(Jvm.Cond.selects "HomeCallsModel" ({ cls := "HomeCallsModel", name := "steps", desc := "(I)I" } : Jvm.MethodName) ({ cls := "HomeCallsModel", name := "steps", desc := "(I)I" } : Jvm.MethodName)), (Jvm.Cond.code ({ cls := "HomeCallsModel", name := "steps", desc := "(I)I" } : Jvm.MethodName) prog_8_method_60_code (3 : Nat) (Option.some Jvm.ClassFile.FieldType.int)), (Jvm.Cond.constant "HomeCallsModel" (205 : Nat) (-1000000002 : Int32)), (Jvm.Cond.methodLink "HomeCallsLaw" (103 : Nat) ({ cls := "HomeCallsModel", name := "take", desc := "(III)I" } : Jvm.MethodName)), (Jvm.Cond.instanceMethod ({ cls := "HomeCallsModel", name := "take", desc := "(III)I" } : Jvm.MethodName)), (Jvm.Cond.selects "HomeCallsModel" ({ cls := "HomeCallsModel", name := "take", desc := "(III)I" } : Jvm.MethodName) ({ cls := "HomeCallsModel", name := "take", desc := "(III)I" } : Jvm.MethodName)), (Jvm.Cond.code ({ cls := "HomeCallsModel", name := "take", desc := "(III)I" } : Jvm.MethodName) prog_8_method_61_code (6 : Nat) (Option.some Jvm.ClassFile.FieldType.int)), (Jvm.Cond.methodLink "HomeCallsLaw" (107 : Nat) ({ cls := "HomeCallsModel", name := "lay", desc := "(III)I" } : Jvm.MethodName)), (Jvm.Cond.instanceMethod ({ cls := "HomeCallsModel", name := "lay", desc := "(III)I" } : Jvm.MethodName)), (Jvm.Cond.selects "HomeCallsModel" ({ cls := "HomeCallsModel", name := "lay", desc := "(III)I" } : Jvm.MethodName) ({ cls := "HomeCallsModel", name := "lay", desc := "(III)I" } : Jvm.MethodName)), (Jvm.Cond.code ({ cls := "HomeCallsModel", name := "lay", desc := "(III)I" } : Jvm.MethodName) prog_8_method_62_code (8 : Nat) (Option.some Jvm.ClassFile.FieldType.int)), (Jvm.Cond.methodLink "HomeCallsLaw" (111 : Nat) ({ cls := "HomeCallsModel", name := "called", desc := "(II)I" } : Jvm.MethodName)), (Jvm.Cond.instanceMethod ({ cls := "HomeCallsModel", name := "called", desc := "(II)I" } : Jvm.MethodName)), (Jvm.Cond.selects "HomeCallsModel" ({ cls := "HomeCallsModel", name := "called", desc := "(II)I" } : Jvm.MethodName) ({ cls := "HomeCallsModel", name := "called", desc := "(II)I" } : Jvm.MethodName)), (Jvm.Cond.code ({ cls := "HomeCallsModel", name := "called", desc := "(II)I" } : Jvm.MethodName) prog_8_method_63_code (5 : Nat) (Option.some Jvm.ClassFile.FieldType.int)), (Jvm.Cond.methodLink "HomeCallsLaw" (115 : Nat) ({ cls := "HomeCallsModel", name := "parts", desc := "(II)I" } : Jvm.MethodName)), (Jvm.Cond.instanceMethod ({ cls := "HomeCallsModel", name := "parts", desc := "(II)I" } : Jvm.MethodName)), (Jvm.Cond.selects "HomeCallsModel" ({ cls := "HomeCallsModel", name := "parts", desc := "(II)I" } : Jvm.MethodName) ({ cls := "HomeCallsModel", name := "parts", desc := "(II)I" } : Jvm.MethodName)), (Jvm.Cond.code ({ cls := "HomeCallsModel", name := "parts", desc := "(II)I" } : Jvm.MethodName) prog_8_method_65_code (7 : Nat) (Option.some Jvm.ClassFile.FieldType.int)), (Jvm.Cond.methodLink "HomeCallsModel" (206 : Nat) ({ cls := "HomeCallsModel", name := "players", desc := "()I" } : Jvm.MethodName)), (Jvm.Cond.privateMethod ({ cls := "HomeCallsModel", name := "players", desc := "()I" } : Jvm.MethodName)), (Jvm.Cond.instanceMethod ({ cls := "HomeCallsModel", name := "players", desc := "()I" } : Jvm.MethodName)), (Jvm.Cond.code ({ cls := "HomeCallsModel", name := "players", desc := "()I" } : Jvm.MethodName) prog_8_method_64_code (1 : Nat) (Option.some Jvm.ClassFile.FieldType.int)), (Jvm.Cond.methodLink "HomeCallsLaw" (119 : Nat) ({ cls := "HomeCallsModel", name := "never", desc := "(I)I" } : Jvm.MethodName)), (Jvm.Cond.instanceMethod ({ cls := "HomeCallsModel", name := "never", desc := "(I)I" } : Jvm.MethodName)), (Jvm.Cond.selects "HomeCallsModel" ({ cls := "HomeCallsModel", name := "never", desc := "(I)I" } : Jvm.MethodName) ({ cls := "HomeCallsModel", name := "never", desc := "(I)I" } : Jvm.MethodName)), (Jvm.Cond.code ({ cls := "HomeCallsModel", name := "never", desc := "(I)I" } : Jvm.MethodName) prog_8_method_66_code (4 : Nat) (Option.some Jvm.ClassFile.FieldType.int)), (Jvm.Cond.methodLink "HomeCallsLaw" (123 : Nat) ({ cls := "HomeCallsModel", name := "series", desc := "(III)I" } : Jvm.MethodName)), (Jvm.Cond.instanceMethod ({ cls := "HomeCallsModel", name := "series", desc := "(III)I" } : Jvm.MethodName)), (Jvm.Cond.selects "HomeCallsModel" ({ cls := "HomeCallsModel", name := "series", desc := "(III)I" } : Jvm.MethodName) ({ cls := "HomeCallsModel", name := "series", desc := "(III)I" } : Jvm.MethodName)), (Jvm.Cond.code ({ cls := "HomeCallsModel", name := "series", desc := "(III)I" } : Jvm.MethodName) prog_8_method_68_code (7 : Nat) (Option.some Jvm.ClassFile.FieldType.int)), (Jvm.Cond.methodLink "HomeCallsModel" (209 : Nat) ({ cls := "HomeCallsModel", name := "isSheet", desc := "(I)Z" } : Jvm.MethodName)), (Jvm.Cond.static ({ cls := "HomeCallsModel", name := "isSheet", desc := "(I)Z" } : Jvm.MethodName)), (Jvm.Cond.code ({ cls := "HomeCallsModel", name := "isSheet", desc := "(I)Z" } : Jvm.MethodName) prog_8_method_67_code (1 : Nat) (Option.some Jvm.ClassFile.FieldType.boolean)), (Jvm.Cond.methodLink "HomeCallsLaw" (127 : Nat) ({ cls := "HomeCallsModel", name := "odds", desc := "(III)I" } : Jvm.MethodName)), (Jvm.Cond.instanceMethod ({ cls := "HomeCallsModel", name := "odds", desc := "(III)I" } : Jvm.MethodName)), (Jvm.Cond.selects "HomeCallsModel" ({ cls := "HomeCallsModel", name := "odds", desc := "(III)I" } : Jvm.MethodName) ({ cls := "HomeCallsModel", name := "odds", desc := "(III)I" } : Jvm.MethodName)), (Jvm.Cond.code ({ cls := "HomeCallsModel", name := "odds", desc := "(III)I" } : Jvm.MethodName) prog_8_method_70_code (6 : Nat) (Option.some Jvm.ClassFile.FieldType.int)), (Jvm.Cond.methodLink "HomeCallsModel" (212 : Nat) ({ cls := "HomeCallsModel", name := "divisor", desc := "(II)I" } : Jvm.MethodName)), (Jvm.Cond.static ({ cls := "HomeCallsModel", name := "divisor", desc := "(II)I" } : Jvm.MethodName)), (Jvm.Cond.code ({ cls := "HomeCallsModel", name := "divisor", desc := "(II)I" } : Jvm.MethodName) prog_8_method_69_code (5 : Nat) (Option.some Jvm.ClassFile.FieldType.int)), (Jvm.Cond.methodLink "HomeCallsLaw" (131 : Nat) ({ cls := "HomeCallsModel", name := "seed", desc := "(I)I" } : Jvm.MethodName)), (Jvm.Cond.instanceMethod ({ cls := "HomeCallsModel", name := "seed", desc := "(I)I" } : Jvm.MethodName)), (Jvm.Cond.selects "HomeCallsModel" ({ cls := "HomeCallsModel", name := "seed", desc := "(I)I" } : Jvm.MethodName) ({ cls := "HomeCallsModel", name := "seed", desc := "(I)I" } : Jvm.MethodName)), (Jvm.Cond.code ({ cls := "HomeCallsModel", name := "seed", desc := "(I)I" } : Jvm.MethodName) prog_8_method_71_code (3 : Nat) (Option.some Jvm.ClassFile.FieldType.int)), (Jvm.Cond.methodLink "HomeCallsLaw" (135 : Nat) ({ cls := "HomeCallsModel", name := "voice", desc := "(III)I" } : Jvm.MethodName)), (Jvm.Cond.instanceMethod ({ cls := "HomeCallsModel", name := "voice", desc := "(III)I" } : Jvm.MethodName)), (Jvm.Cond.selects "HomeCallsModel" ({ cls := "HomeCallsModel", name := "voice", desc := "(III)I" } : Jvm.MethodName) ({ cls := "HomeCallsModel", name := "voice", desc := "(III)I" } : Jvm.MethodName))]
set_option maxRecDepth 40000 in
theorem tks_21 : ∀ w ∈ tk_21, w ∈ lw_tbl := fun w h => List.mem_of_mem_drop (List.mem_of_mem_take (show w ∈ (lw_tbl.drop 1008).take 48 from h))
def tk_22 : List Cond := [(Jvm.Cond.code ({ cls := "HomeCallsModel", name := "voice", desc := "(III)I" } : Jvm.MethodName) prog_8_method_77_code (4 : Nat) (Option.some Jvm.ClassFile.FieldType.int)), (Jvm.Cond.methodLink "HomeCallsModel" (225 : Nat) ({ cls := "HomeCallsModel", name := "shoutsIn", desc := "(II)I" } : Jvm.MethodName)), (Jvm.Cond.privateMethod ({ cls := "HomeCallsModel", name := "shoutsIn", desc := "(II)I" } : Jvm.MethodName)), (Jvm.Cond.instanceMethod ({ cls := "HomeCallsModel", name := "shoutsIn", desc := "(II)I" } : Jvm.MethodName)), (Jvm.Cond.code ({ cls := "HomeCallsModel", name := "shoutsIn", desc := "(II)I" } : Jvm.MethodName) prog_8_method_73_code (3 : Nat) (Option.some Jvm.ClassFile.FieldType.int)), (Jvm.Cond.methodLink "HomeCallsModel" (218 : Nat) ({ cls := "HomeCallsModel", name := "ran", desc := "(I)V" } : Jvm.MethodName)), (Jvm.Cond.privateMethod ({ cls := "HomeCallsModel", name := "ran", desc := "(I)V" } : Jvm.MethodName)), (Jvm.Cond.instanceMethod ({ cls := "HomeCallsModel", name := "ran", desc := "(I)V" } : Jvm.MethodName)), (Jvm.Cond.code ({ cls := "HomeCallsModel", name := "ran", desc := "(I)V" } : Jvm.MethodName) prog_8_method_72_code (2 : Nat) (Option.none : Option Jvm.ClassFile.FieldType)), (Jvm.Cond.methodLink "HomeCallsModel" (237 : Nat) ({ cls := "HomeCallsModel", name := "runsIn", desc := "(II)I" } : Jvm.MethodName)), (Jvm.Cond.privateMethod ({ cls := "HomeCallsModel", name := "runsIn", desc := "(II)I" } : Jvm.MethodName)), (Jvm.Cond.instanceMethod ({ cls := "HomeCallsModel", name := "runsIn", desc := "(II)I" } : Jvm.MethodName)), (Jvm.Cond.code ({ cls := "HomeCallsModel", name := "runsIn", desc := "(II)I" } : Jvm.MethodName) prog_8_method_75_code (4 : Nat) (Option.some Jvm.ClassFile.FieldType.int)), (Jvm.Cond.methodLink "HomeCallsModel" (231 : Nat) ({ cls := "HomeCallsModel", name := "touchesIn", desc := "(II)I" } : Jvm.MethodName)), (Jvm.Cond.privateMethod ({ cls := "HomeCallsModel", name := "touchesIn", desc := "(II)I" } : Jvm.MethodName)), (Jvm.Cond.instanceMethod ({ cls := "HomeCallsModel", name := "touchesIn", desc := "(II)I" } : Jvm.MethodName)), (Jvm.Cond.code ({ cls := "HomeCallsModel", name := "touchesIn", desc := "(II)I" } : Jvm.MethodName) prog_8_method_74_code (3 : Nat) (Option.some Jvm.ClassFile.FieldType.int)), (Jvm.Cond.methodLink "HomeCallsModel" (240 : Nat) ({ cls := "HomeCallsModel", name := "tellsIn", desc := "(II)I" } : Jvm.MethodName)), (Jvm.Cond.privateMethod ({ cls := "HomeCallsModel", name := "tellsIn", desc := "(II)I" } : Jvm.MethodName)), (Jvm.Cond.instanceMethod ({ cls := "HomeCallsModel", name := "tellsIn", desc := "(II)I" } : Jvm.MethodName)), (Jvm.Cond.code ({ cls := "HomeCallsModel", name := "tellsIn", desc := "(II)I" } : Jvm.MethodName) prog_8_method_76_code (4 : Nat) (Option.some Jvm.ClassFile.FieldType.int)), (Jvm.Cond.methodLink "HomeCallsLaw" (139 : Nat) ({ cls := "HomeCallsModel", name := "trace", desc := "(I)I" } : Jvm.MethodName)), (Jvm.Cond.instanceMethod ({ cls := "HomeCallsModel", name := "trace", desc := "(I)I" } : Jvm.MethodName)), (Jvm.Cond.selects "HomeCallsModel" ({ cls := "HomeCallsModel", name := "trace", desc := "(I)I" } : Jvm.MethodName) ({ cls := "HomeCallsModel", name := "trace", desc := "(I)I" } : Jvm.MethodName)), (Jvm.Cond.code ({ cls := "HomeCallsModel", name := "trace", desc := "(I)I" } : Jvm.MethodName) prog_8_method_78_code (2 : Nat) (Option.some Jvm.ClassFile.FieldType.int)), (Jvm.Cond.methodLink "HomeCallsLaw" (143 : Nat) ({ cls := "HomeCallsModel", name := "sheet", desc := "(III)I" } : Jvm.MethodName)), (Jvm.Cond.instanceMethod ({ cls := "HomeCallsModel", name := "sheet", desc := "(III)I" } : Jvm.MethodName)), (Jvm.Cond.selects "HomeCallsModel" ({ cls := "HomeCallsModel", name := "sheet", desc := "(III)I" } : Jvm.MethodName) ({ cls := "HomeCallsModel", name := "sheet", desc := "(III)I" } : Jvm.MethodName)), (Jvm.Cond.code ({ cls := "HomeCallsModel", name := "sheet", desc := "(III)I" } : Jvm.MethodName) prog_8_method_80_code (5 : Nat) (Option.some Jvm.ClassFile.FieldType.int)), (Jvm.Cond.methodLink "HomeCallsLaw" (147 : Nat) ({ cls := "HomeCallsModel", name := "put", desc := "(III)I" } : Jvm.MethodName)), (Jvm.Cond.instanceMethod ({ cls := "HomeCallsModel", name := "put", desc := "(III)I" } : Jvm.MethodName)), (Jvm.Cond.selects "HomeCallsModel" ({ cls := "HomeCallsModel", name := "put", desc := "(III)I" } : Jvm.MethodName) ({ cls := "HomeCallsModel", name := "put", desc := "(III)I" } : Jvm.MethodName)), (Jvm.Cond.code ({ cls := "HomeCallsModel", name := "put", desc := "(III)I" } : Jvm.MethodName) prog_8_method_81_code (4 : Nat) (Option.some Jvm.ClassFile.FieldType.int)), (Jvm.Cond.methodLink "HomeCallsModel" (243 : Nat) ({ cls := "HomeCallsModel", name := "narrow", desc := "(II)I" } : Jvm.MethodName)), (Jvm.Cond.static ({ cls := "HomeCallsModel", name := "narrow", desc := "(II)I" } : Jvm.MethodName)), (Jvm.Cond.code ({ cls := "HomeCallsModel", name := "narrow", desc := "(II)I" } : Jvm.MethodName) prog_8_method_79_code (2 : Nat) (Option.some Jvm.ClassFile.FieldType.int)), (Jvm.Cond.methodLink "HomeCallsLaw" (152 : Nat) ({ cls := "HomeCallsModel", name := "move", desc := "(IIIII)I" } : Jvm.MethodName)), (Jvm.Cond.instanceMethod ({ cls := "HomeCallsModel", name := "move", desc := "(IIIII)I" } : Jvm.MethodName)), (Jvm.Cond.selects "HomeCallsModel" ({ cls := "HomeCallsModel", name := "move", desc := "(IIIII)I" } : Jvm.MethodName) ({ cls := "HomeCallsModel", name := "move", desc := "(IIIII)I" } : Jvm.MethodName)), (Jvm.Cond.code ({ cls := "HomeCallsModel", name := "move", desc := "(IIIII)I" } : Jvm.MethodName) prog_8_method_82_code (7 : Nat) (Option.some Jvm.ClassFile.FieldType.int)), (Jvm.Cond.methodLink "HomeCallsLaw" (156 : Nat) ({ cls := "HomeCallsModel", name := "places", desc := "(I)I" } : Jvm.MethodName)), (Jvm.Cond.instanceMethod ({ cls := "HomeCallsModel", name := "places", desc := "(I)I" } : Jvm.MethodName)), (Jvm.Cond.selects "HomeCallsModel" ({ cls := "HomeCallsModel", name := "places", desc := "(I)I" } : Jvm.MethodName) ({ cls := "HomeCallsModel", name := "places", desc := "(I)I" } : Jvm.MethodName)), (Jvm.Cond.code ({ cls := "HomeCallsModel", name := "places", desc := "(I)I" } : Jvm.MethodName) prog_8_method_83_code (3 : Nat) (Option.some Jvm.ClassFile.FieldType.int)), (Jvm.Cond.methodLink "HomeCallsLaw" (160 : Nat) ({ cls := "HomeCallsModel", name := "judge", desc := "(I)I" } : Jvm.MethodName)), (Jvm.Cond.instanceMethod ({ cls := "HomeCallsModel", name := "judge", desc := "(I)I" } : Jvm.MethodName)), (Jvm.Cond.selects "HomeCallsModel" ({ cls := "HomeCallsModel", name := "judge", desc := "(I)I" } : Jvm.MethodName) ({ cls := "HomeCallsModel", name := "judge", desc := "(I)I" } : Jvm.MethodName)), (Jvm.Cond.code ({ cls := "HomeCallsModel", name := "judge", desc := "(I)I" } : Jvm.MethodName) prog_8_method_84_code (3 : Nat) (Option.some Jvm.ClassFile.FieldType.int))]
set_option maxRecDepth 40000 in
theorem tks_22 : ∀ w ∈ tk_22, w ∈ lw_tbl := fun w h => List.mem_of_mem_drop (List.mem_of_mem_take (show w ∈ (lw_tbl.drop 1056).take 48 from h))
def tk_23 : List Cond := [(Jvm.Cond.methodLink "HomeCallsLaw" (165 : Nat) ({ cls := "HomeCallsModel", name := "image", desc := "()I" } : Jvm.MethodName)), (Jvm.Cond.instanceMethod ({ cls := "HomeCallsModel", name := "image", desc := "()I" } : Jvm.MethodName)), (Jvm.Cond.selects "HomeCallsModel" ({ cls := "HomeCallsModel", name := "image", desc := "()I" } : Jvm.MethodName) ({ cls := "HomeCallsModel", name := "image", desc := "()I" } : Jvm.MethodName)), (Jvm.Cond.code ({ cls := "HomeCallsModel", name := "image", desc := "()I" } : Jvm.MethodName) prog_8_method_85_code (1 : Nat) (Option.some Jvm.ClassFile.FieldType.int)), (Jvm.Cond.methodLink "HomeCallsLaw" (169 : Nat) ({ cls := "HomeCallsModel", name := "restore", desc := "()I" } : Jvm.MethodName)), (Jvm.Cond.instanceMethod ({ cls := "HomeCallsModel", name := "restore", desc := "()I" } : Jvm.MethodName)), (Jvm.Cond.selects "HomeCallsModel" ({ cls := "HomeCallsModel", name := "restore", desc := "()I" } : Jvm.MethodName) ({ cls := "HomeCallsModel", name := "restore", desc := "()I" } : Jvm.MethodName)), (Jvm.Cond.code ({ cls := "HomeCallsModel", name := "restore", desc := "()I" } : Jvm.MethodName) prog_8_method_86_code (1 : Nat) (Option.some Jvm.ClassFile.FieldType.int)), (Jvm.Cond.methodLink "HomeCallsLaw" (173 : Nat) ({ cls := "HomeCallsModel", name := "tell", desc := "(I)I" } : Jvm.MethodName)), (Jvm.Cond.instanceMethod ({ cls := "HomeCallsModel", name := "tell", desc := "(I)I" } : Jvm.MethodName)), (Jvm.Cond.selects "HomeCallsModel" ({ cls := "HomeCallsModel", name := "tell", desc := "(I)I" } : Jvm.MethodName) ({ cls := "HomeCallsModel", name := "tell", desc := "(I)I" } : Jvm.MethodName)), (Jvm.Cond.code ({ cls := "HomeCallsModel", name := "tell", desc := "(I)I" } : Jvm.MethodName) prog_8_method_87_code (2 : Nat) (Option.some Jvm.ClassFile.FieldType.int)), (Jvm.Cond.methodLink "HomeCallsLaw" (177 : Nat) ({ cls := "HomeCallsModel", name := "check", desc := "()I" } : Jvm.MethodName)), (Jvm.Cond.instanceMethod ({ cls := "HomeCallsModel", name := "check", desc := "()I" } : Jvm.MethodName)), (Jvm.Cond.selects "HomeCallsModel" ({ cls := "HomeCallsModel", name := "check", desc := "()I" } : Jvm.MethodName) ({ cls := "HomeCallsModel", name := "check", desc := "()I" } : Jvm.MethodName)), (Jvm.Cond.code ({ cls := "HomeCallsModel", name := "check", desc := "()I" } : Jvm.MethodName) prog_8_method_88_code (3 : Nat) (Option.some Jvm.ClassFile.FieldType.int)), (Jvm.Cond.methodLink "HomeCallsLaw" (181 : Nat) ({ cls := "HomeCallsModel", name := "count", desc := "(I)I" } : Jvm.MethodName)), (Jvm.Cond.instanceMethod ({ cls := "HomeCallsModel", name := "count", desc := "(I)I" } : Jvm.MethodName)), (Jvm.Cond.selects "HomeCallsModel" ({ cls := "HomeCallsModel", name := "count", desc := "(I)I" } : Jvm.MethodName) ({ cls := "HomeCallsModel", name := "count", desc := "(I)I" } : Jvm.MethodName)), (Jvm.Cond.code ({ cls := "HomeCallsModel", name := "count", desc := "(I)I" } : Jvm.MethodName) prog_8_method_90_code (2 : Nat) (Option.some Jvm.ClassFile.FieldType.int)), (Jvm.Cond.methodLink "HomeCallsModel" (252 : Nat) ({ cls := "HomeCallsModel", name := "sumOf", desc := "(I)I" } : Jvm.MethodName)), (Jvm.Cond.privateMethod ({ cls := "HomeCallsModel", name := "sumOf", desc := "(I)I" } : Jvm.MethodName)), (Jvm.Cond.instanceMethod ({ cls := "HomeCallsModel", name := "sumOf", desc := "(I)I" } : Jvm.MethodName)), (Jvm.Cond.code ({ cls := "HomeCallsModel", name := "sumOf", desc := "(I)I" } : Jvm.MethodName) prog_8_method_89_code (4 : Nat) (Option.some Jvm.ClassFile.FieldType.int)), (Jvm.Cond.methodLink "HomeCallsLaw" (185 : Nat) ({ cls := "HomeCallsModel", name := "told", desc := "(I)I" } : Jvm.MethodName)), (Jvm.Cond.instanceMethod ({ cls := "HomeCallsModel", name := "told", desc := "(I)I" } : Jvm.MethodName)), (Jvm.Cond.selects "HomeCallsModel" ({ cls := "HomeCallsModel", name := "told", desc := "(I)I" } : Jvm.MethodName) ({ cls := "HomeCallsModel", name := "told", desc := "(I)I" } : Jvm.MethodName)), (Jvm.Cond.code ({ cls := "HomeCallsModel", name := "told", desc := "(I)I" } : Jvm.MethodName) prog_8_method_91_code (2 : Nat) (Option.some Jvm.ClassFile.FieldType.int)), (Jvm.Cond.constantLong "HomeCallsLaw" (52 : Nat) (4294967295 : Int64)), (Jvm.Cond.arrayClass Jvm.ClassFile.FieldType.char)]
set_option maxRecDepth 40000 in
theorem tks_23 : ∀ w ∈ tk_23, w ∈ lw_tbl := fun w h => List.mem_of_mem_drop (List.mem_of_mem_take (show w ∈ (lw_tbl.drop 1104).take 48 from h))
theorem wp_0 : Cond.selects "HomeCalls" (⟨"HomeCalls", "error", "(I)I"⟩ : MethodName) (⟨"HomeCalls", "error", "(I)I"⟩ : MethodName) ∈ xT := List.mem_filter.mpr ⟨tks_0 _ (List.mem_of_getElem? (i := 0) rfl), rfl⟩
theorem wp_1 : Cond.selects "HomeCalls" (⟨"HomeCalls", "isChild", "(I)Z"⟩ : MethodName) (⟨"HomeCalls", "isChild", "(I)Z"⟩ : MethodName) ∈ xT := List.mem_filter.mpr ⟨tks_0 _ (List.mem_of_getElem? (i := 1) rfl), rfl⟩
theorem wp_2 : Cond.selects "HomeCalls$Reader" (⟨"HomeCalls$Reader", "goesOn", "(II)Z"⟩ : MethodName) (⟨"HomeCalls$Reader", "goesOn", "(II)Z"⟩ : MethodName) ∈ xT := List.mem_filter.mpr ⟨tks_0 _ (List.mem_of_getElem? (i := 2) rfl), rfl⟩
theorem wp_3 : Cond.selects "HomeCalls$Reader" (⟨"HomeCalls$Reader", "readDigit", "(I)Z"⟩ : MethodName) (⟨"HomeCalls$Reader", "readDigit", "(I)Z"⟩ : MethodName) ∈ xT := List.mem_filter.mpr ⟨tks_0 _ (List.mem_of_getElem? (i := 3) rfl), rfl⟩
theorem wp_4 : Cond.selects "HomeCalls$Reader" (⟨"HomeCalls$Reader", "emit", "(I)V"⟩ : MethodName) (⟨"HomeCalls$Reader", "emit", "(I)V"⟩ : MethodName) ∈ xT := List.mem_filter.mpr ⟨tks_0 _ (List.mem_of_getElem? (i := 4) rfl), rfl⟩
theorem wp_5 : Cond.selects "HomeCalls$Reader" (⟨"HomeCalls$Reader", "readStart", "(II)Z"⟩ : MethodName) (⟨"HomeCalls$Reader", "readStart", "(II)Z"⟩ : MethodName) ∈ xT := List.mem_filter.mpr ⟨tks_0 _ (List.mem_of_getElem? (i := 5) rfl), rfl⟩
theorem wp_6 : Cond.selects "HomeCalls$Reader" (⟨"HomeCalls$Reader", "hold", "(I)V"⟩ : MethodName) (⟨"HomeCalls$Reader", "hold", "(I)V"⟩ : MethodName) ∈ xT := List.mem_filter.mpr ⟨tks_0 _ (List.mem_of_getElem? (i := 6) rfl), rfl⟩
theorem wp_7 : Cond.selects "HomeCalls$Reader" (⟨"HomeCalls$Reader", "readNext", "(I)Z"⟩ : MethodName) (⟨"HomeCalls$Reader", "readNext", "(I)Z"⟩ : MethodName) ∈ xT := List.mem_filter.mpr ⟨tks_0 _ (List.mem_of_getElem? (i := 7) rfl), rfl⟩
theorem wp_8 : Cond.selects "HomeCalls$Reader" (⟨"HomeCalls$Reader", "closeNots", "()V"⟩ : MethodName) (⟨"HomeCalls$Reader", "closeNots", "()V"⟩ : MethodName) ∈ xT := List.mem_filter.mpr ⟨tks_0 _ (List.mem_of_getElem? (i := 8) rfl), rfl⟩
theorem wp_9 : Cond.selects "HomeCalls$Reader" (⟨"HomeCalls$Reader", "closeRound", "()Z"⟩ : MethodName) (⟨"HomeCalls$Reader", "closeRound", "()Z"⟩ : MethodName) ∈ xT := List.mem_filter.mpr ⟨tks_0 _ (List.mem_of_getElem? (i := 9) rfl), rfl⟩
theorem wp_10 : Cond.selects "HomeCalls$Reader" (⟨"HomeCalls$Reader", "release", "(I)V"⟩ : MethodName) (⟨"HomeCalls$Reader", "release", "(I)V"⟩ : MethodName) ∈ xT := List.mem_filter.mpr ⟨tks_0 _ (List.mem_of_getElem? (i := 10) rfl), rfl⟩
theorem wp_11 : Cond.selects "HomeCalls$Reader" (⟨"HomeCalls$Reader", "isWhole", "()Z"⟩ : MethodName) (⟨"HomeCalls$Reader", "isWhole", "()Z"⟩ : MethodName) ∈ xT := List.mem_filter.mpr ⟨tks_0 _ (List.mem_of_getElem? (i := 11) rfl), rfl⟩
theorem wp_12 : Cond.selects "HomeCalls$Law" (⟨"HomeCalls$Law", "push", "(I)V"⟩ : MethodName) (⟨"HomeCalls$Law", "push", "(I)V"⟩ : MethodName) ∈ xT := List.mem_filter.mpr ⟨tks_0 _ (List.mem_of_getElem? (i := 12) rfl), rfl⟩
theorem wp_13 : Cond.selects "HomeCalls$Law" (⟨"HomeCalls$Law", "pop", "()I"⟩ : MethodName) (⟨"HomeCalls$Law", "pop", "()I"⟩ : MethodName) ∈ xT := List.mem_filter.mpr ⟨tks_0 _ (List.mem_of_getElem? (i := 13) rfl), rfl⟩
theorem wp_14 : Cond.selects "HomeCalls$Street" (⟨"HomeCalls$Street", "goalOf", "(II)I"⟩ : MethodName) (⟨"HomeCalls$Street", "goalOf", "(II)I"⟩ : MethodName) ∈ xT := List.mem_filter.mpr ⟨tks_0 _ (List.mem_of_getElem? (i := 14) rfl), rfl⟩
theorem wp_15 : Cond.selects "HomeCalls$Street" (⟨"HomeCalls$Street", "isHeld", "(II)Z"⟩ : MethodName) (⟨"HomeCalls$Street", "isHeld", "(II)Z"⟩ : MethodName) ∈ xT := List.mem_filter.mpr ⟨tks_0 _ (List.mem_of_getElem? (i := 15) rfl), rfl⟩
theorem wp_16 : Cond.selects "HomeCalls$Street" (⟨"HomeCalls$Street", "crowdIn", "(I)I"⟩ : MethodName) (⟨"HomeCalls$Street", "crowdIn", "(I)I"⟩ : MethodName) ∈ xT := List.mem_filter.mpr ⟨tks_0 _ (List.mem_of_getElem? (i := 16) rfl), rfl⟩
theorem wp_17 : Cond.selects "HomeCalls" (⟨"HomeCalls", "markFor", "(III)I"⟩ : MethodName) (⟨"HomeCalls", "markFor", "(III)I"⟩ : MethodName) ∈ xT := List.mem_filter.mpr ⟨tks_0 _ (List.mem_of_getElem? (i := 17) rfl), rfl⟩
theorem wp_18 : Cond.selects "HomeCalls" (⟨"HomeCalls", "scoreFor", "(II)I"⟩ : MethodName) (⟨"HomeCalls", "scoreFor", "(II)I"⟩ : MethodName) ∈ xT := List.mem_filter.mpr ⟨tks_0 _ (List.mem_of_getElem? (i := 18) rfl), rfl⟩
theorem wp_19 : Cond.selects "HomeCalls" (⟨"HomeCalls", "hadWithout", "(IIII)Z"⟩ : MethodName) (⟨"HomeCalls", "hadWithout", "(IIII)Z"⟩ : MethodName) ∈ xT := List.mem_filter.mpr ⟨tks_0 _ (List.mem_of_getElem? (i := 19) rfl), rfl⟩
theorem wp_20 : Cond.selects "HomeCalls$Speaker" (⟨"HomeCalls$Speaker", "speak", "(IIII)I"⟩ : MethodName) (⟨"HomeCalls$Speaker", "speak", "(IIII)I"⟩ : MethodName) ∈ xT := List.mem_filter.mpr ⟨tks_0 _ (List.mem_of_getElem? (i := 20) rfl), rfl⟩
theorem wp_21 : Cond.selects "HomeCalls$Speaker" (⟨"HomeCalls$Speaker", "note", "(I)V"⟩ : MethodName) (⟨"HomeCalls$Speaker", "note", "(I)V"⟩ : MethodName) ∈ xT := List.mem_filter.mpr ⟨tks_0 _ (List.mem_of_getElem? (i := 21) rfl), rfl⟩
theorem wp_22 : Cond.selects "HomeCallsModel" (⟨"HomeCallsModel", "errs", "(I)I"⟩ : MethodName) (⟨"HomeCallsModel", "errs", "(I)I"⟩ : MethodName) ∈ xT := List.mem_filter.mpr ⟨tks_0 _ (List.mem_of_getElem? (i := 22) rfl), rfl⟩
theorem wp_23 : Cond.selects "HomeCallsModel" (⟨"HomeCallsModel", "adds", "(II)V"⟩ : MethodName) (⟨"HomeCallsModel", "adds", "(II)V"⟩ : MethodName) ∈ xT := List.mem_filter.mpr ⟨tks_0 _ (List.mem_of_getElem? (i := 23) rfl), rfl⟩
theorem wp_24 : Cond.selects "HomeCallsModel" (⟨"HomeCallsModel", "isThing", "(I)Z"⟩ : MethodName) (⟨"HomeCallsModel", "isThing", "(I)Z"⟩ : MethodName) ∈ xT := List.mem_filter.mpr ⟨tks_0 _ (List.mem_of_getElem? (i := 24) rfl), rfl⟩
theorem wp_25 : Cond.selects "HomeCallsModel" (⟨"HomeCallsModel", "becomes", "(II)I"⟩ : MethodName) (⟨"HomeCallsModel", "becomes", "(II)I"⟩ : MethodName) ∈ xT := List.mem_filter.mpr ⟨tks_0 _ (List.mem_of_getElem? (i := 25) rfl), rfl⟩
theorem wp_26 : Cond.selects "HomeCallsModel" (⟨"HomeCallsModel", "gets", "(III)V"⟩ : MethodName) (⟨"HomeCallsModel", "gets", "(III)V"⟩ : MethodName) ∈ xT := List.mem_filter.mpr ⟨tks_0 _ (List.mem_of_getElem? (i := 26) rfl), rfl⟩
theorem wp_27 : Cond.selects "HomeCallsModel" (⟨"HomeCallsModel", "isChild", "(I)Z"⟩ : MethodName) (⟨"HomeCallsModel", "isChild", "(I)Z"⟩ : MethodName) ∈ xT := List.mem_filter.mpr ⟨tks_0 _ (List.mem_of_getElem? (i := 27) rfl), rfl⟩
theorem wp_28 : Cond.selects "HomeCallsModel" (⟨"HomeCallsModel", "its", "(II)I"⟩ : MethodName) (⟨"HomeCallsModel", "its", "(II)I"⟩ : MethodName) ∈ xT := List.mem_filter.mpr ⟨tks_0 _ (List.mem_of_getElem? (i := 28) rfl), rfl⟩
theorem wp_29 : Cond.selects "HomeCallsModel" (⟨"HomeCallsModel", "pace", "(I)I"⟩ : MethodName) (⟨"HomeCallsModel", "pace", "(I)I"⟩ : MethodName) ∈ xT := List.mem_filter.mpr ⟨tks_0 _ (List.mem_of_getElem? (i := 29) rfl), rfl⟩
theorem wp_30 : Cond.selects "HomeCallsModel" (⟨"HomeCallsModel", "far", "(I)I"⟩ : MethodName) (⟨"HomeCallsModel", "far", "(I)I"⟩ : MethodName) ∈ xT := List.mem_filter.mpr ⟨tks_0 _ (List.mem_of_getElem? (i := 30) rfl), rfl⟩
theorem wp_31 : Cond.selects "HomeCallsModel" (⟨"HomeCallsModel", "lawOf", "(IIII)I"⟩ : MethodName) (⟨"HomeCallsModel", "lawOf", "(IIII)I"⟩ : MethodName) ∈ xT := List.mem_filter.mpr ⟨tks_0 _ (List.mem_of_getElem? (i := 31) rfl), rfl⟩
theorem wp_32 : Cond.selects "HomeCallsModel" (⟨"HomeCallsModel", "walks", "(IIII)I"⟩ : MethodName) (⟨"HomeCallsModel", "walks", "(IIII)I"⟩ : MethodName) ∈ xT := List.mem_filter.mpr ⟨tks_0 _ (List.mem_of_getElem? (i := 32) rfl), rfl⟩
theorem wp_33 : Cond.selects "HomeCallsModel" (⟨"HomeCallsModel", "whole", "()I"⟩ : MethodName) (⟨"HomeCallsModel", "whole", "()I"⟩ : MethodName) ∈ xT := List.mem_filter.mpr ⟨tks_0 _ (List.mem_of_getElem? (i := 33) rfl), rfl⟩
theorem wp_34 : Cond.selects "HomeCallsModel" (⟨"HomeCallsModel", "both", "()I"⟩ : MethodName) (⟨"HomeCallsModel", "both", "()I"⟩ : MethodName) ∈ xT := List.mem_filter.mpr ⟨tks_0 _ (List.mem_of_getElem? (i := 34) rfl), rfl⟩
theorem wp_35 : Cond.selects "HomeCallsModel" (⟨"HomeCallsModel", "compared", "()I"⟩ : MethodName) (⟨"HomeCallsModel", "compared", "()I"⟩ : MethodName) ∈ xT := List.mem_filter.mpr ⟨tks_0 _ (List.mem_of_getElem? (i := 35) rfl), rfl⟩
theorem wp_36 : Cond.selects "HomeCallsModel" (⟨"HomeCallsModel", "sum", "()I"⟩ : MethodName) (⟨"HomeCallsModel", "sum", "()I"⟩ : MethodName) ∈ xT := List.mem_filter.mpr ⟨tks_0 _ (List.mem_of_getElem? (i := 36) rfl), rfl⟩
theorem wp_37 : Cond.selects "HomeCallsModel" (⟨"HomeCallsModel", "product", "()I"⟩ : MethodName) (⟨"HomeCallsModel", "product", "()I"⟩ : MethodName) ∈ xT := List.mem_filter.mpr ⟨tks_0 _ (List.mem_of_getElem? (i := 37) rfl), rfl⟩
theorem wp_38 : Cond.selects "HomeCallsModel" (⟨"HomeCallsModel", "factor", "()I"⟩ : MethodName) (⟨"HomeCallsModel", "factor", "()I"⟩ : MethodName) ∈ xT := List.mem_filter.mpr ⟨tks_0 _ (List.mem_of_getElem? (i := 38) rfl), rfl⟩
theorem wp_39 : Cond.selects "HomeCallsModel" (⟨"HomeCallsModel", "byteAt", "(I)I"⟩ : MethodName) (⟨"HomeCallsModel", "byteAt", "(I)I"⟩ : MethodName) ∈ xT := List.mem_filter.mpr ⟨tks_0 _ (List.mem_of_getElem? (i := 39) rfl), rfl⟩
theorem wp_40 : Cond.selects "HomeCallsModel" (⟨"HomeCallsModel", "number", "()I"⟩ : MethodName) (⟨"HomeCallsModel", "number", "()I"⟩ : MethodName) ∈ xT := List.mem_filter.mpr ⟨tks_0 _ (List.mem_of_getElem? (i := 40) rfl), rfl⟩
theorem wp_41 : Cond.selects "HomeCallsModel" (⟨"HomeCallsModel", "named", "(I)I"⟩ : MethodName) (⟨"HomeCallsModel", "named", "(I)I"⟩ : MethodName) ∈ xT := List.mem_filter.mpr ⟨tks_0 _ (List.mem_of_getElem? (i := 41) rfl), rfl⟩
theorem wp_42 : Cond.selects "HomeCallsModel" (⟨"HomeCallsModel", "fails", "()I"⟩ : MethodName) (⟨"HomeCallsModel", "fails", "()I"⟩ : MethodName) ∈ xT := List.mem_filter.mpr ⟨tks_0 _ (List.mem_of_getElem? (i := 42) rfl), rfl⟩
theorem wp_43 : Cond.selects "HomeCallsModel" (⟨"HomeCallsModel", "moveAll", "([I[I)V"⟩ : MethodName) (⟨"HomeCallsModel", "moveAll", "([I[I)V"⟩ : MethodName) ∈ xT := List.mem_filter.mpr ⟨tks_0 _ (List.mem_of_getElem? (i := 43) rfl), rfl⟩
theorem wp_44 : Cond.selects "HomeCallsModel" (⟨"HomeCallsModel", "calls", "(II)I"⟩ : MethodName) (⟨"HomeCallsModel", "calls", "(II)I"⟩ : MethodName) ∈ xT := List.mem_filter.mpr ⟨tks_0 _ (List.mem_of_getElem? (i := 44) rfl), rfl⟩
theorem wp_45 : Cond.selects "HomeCallsModel" (⟨"HomeCallsModel", "ends", "(III)I"⟩ : MethodName) (⟨"HomeCallsModel", "ends", "(III)I"⟩ : MethodName) ∈ xT := List.mem_filter.mpr ⟨tks_0 _ (List.mem_of_getElem? (i := 45) rfl), rfl⟩
theorem wp_46 : Cond.selects "HomeCallsModel" (⟨"HomeCallsModel", "aim", "(II)I"⟩ : MethodName) (⟨"HomeCallsModel", "aim", "(II)I"⟩ : MethodName) ∈ xT := List.mem_filter.mpr ⟨tks_0 _ (List.mem_of_getElem? (i := 46) rfl), rfl⟩
theorem wp_47 : Cond.selects "HomeCallsModel" (⟨"HomeCallsModel", "isMarked", "(II)Z"⟩ : MethodName) (⟨"HomeCallsModel", "isMarked", "(II)Z"⟩ : MethodName) ∈ xT := List.mem_filter.mpr ⟨tks_0 _ (List.mem_of_getElem? (i := 47) rfl), rfl⟩
theorem wp_48 : Cond.selects "HomeCallsModel" (⟨"HomeCallsModel", "isSafe", "(II)Z"⟩ : MethodName) (⟨"HomeCallsModel", "isSafe", "(II)Z"⟩ : MethodName) ∈ xT := List.mem_filter.mpr ⟨tks_1 _ (List.mem_of_getElem? (i := 0) rfl), rfl⟩
theorem wp_49 : Cond.selects "HomeCallsModel" (⟨"HomeCallsModel", "drawn", "(I)I"⟩ : MethodName) (⟨"HomeCallsModel", "drawn", "(I)I"⟩ : MethodName) ∈ xT := List.mem_filter.mpr ⟨tks_1 _ (List.mem_of_getElem? (i := 1) rfl), rfl⟩
theorem wp_50 : Cond.selects "HomeCallsModel" (⟨"HomeCallsModel", "wouldBe", "(II)I"⟩ : MethodName) (⟨"HomeCallsModel", "wouldBe", "(II)I"⟩ : MethodName) ∈ xT := List.mem_filter.mpr ⟨tks_1 _ (List.mem_of_getElem? (i := 2) rfl), rfl⟩
theorem wp_51 : Cond.selects "HomeCallsModel" (⟨"HomeCallsModel", "hadOften", "(II)I"⟩ : MethodName) (⟨"HomeCallsModel", "hadOften", "(II)I"⟩ : MethodName) ∈ xT := List.mem_filter.mpr ⟨tks_1 _ (List.mem_of_getElem? (i := 3) rfl), rfl⟩
theorem wp_52 : Cond.selects "HomeCallsModel" (⟨"HomeCallsModel", "players", "()I"⟩ : MethodName) (⟨"HomeCallsModel", "players", "()I"⟩ : MethodName) ∈ xT := List.mem_filter.mpr ⟨tks_1 _ (List.mem_of_getElem? (i := 4) rfl), rfl⟩
theorem wp_53 : Cond.selects "HomeCallsModel" (⟨"HomeCallsModel", "shoutsIn", "(II)I"⟩ : MethodName) (⟨"HomeCallsModel", "shoutsIn", "(II)I"⟩ : MethodName) ∈ xT := List.mem_filter.mpr ⟨tks_1 _ (List.mem_of_getElem? (i := 5) rfl), rfl⟩
theorem wp_54 : Cond.selects "HomeCallsModel" (⟨"HomeCallsModel", "ran", "(I)V"⟩ : MethodName) (⟨"HomeCallsModel", "ran", "(I)V"⟩ : MethodName) ∈ xT := List.mem_filter.mpr ⟨tks_1 _ (List.mem_of_getElem? (i := 6) rfl), rfl⟩
theorem wp_55 : Cond.selects "HomeCallsModel" (⟨"HomeCallsModel", "runsIn", "(II)I"⟩ : MethodName) (⟨"HomeCallsModel", "runsIn", "(II)I"⟩ : MethodName) ∈ xT := List.mem_filter.mpr ⟨tks_1 _ (List.mem_of_getElem? (i := 7) rfl), rfl⟩
theorem wp_56 : Cond.selects "HomeCallsModel" (⟨"HomeCallsModel", "touchesIn", "(II)I"⟩ : MethodName) (⟨"HomeCallsModel", "touchesIn", "(II)I"⟩ : MethodName) ∈ xT := List.mem_filter.mpr ⟨tks_1 _ (List.mem_of_getElem? (i := 8) rfl), rfl⟩
theorem wp_57 : Cond.selects "HomeCallsModel" (⟨"HomeCallsModel", "tellsIn", "(II)I"⟩ : MethodName) (⟨"HomeCallsModel", "tellsIn", "(II)I"⟩ : MethodName) ∈ xT := List.mem_filter.mpr ⟨tks_1 _ (List.mem_of_getElem? (i := 9) rfl), rfl⟩
theorem wp_58 : Cond.selects "HomeCallsModel" (⟨"HomeCallsModel", "sumOf", "(I)I"⟩ : MethodName) (⟨"HomeCallsModel", "sumOf", "(I)I"⟩ : MethodName) ∈ xT := List.mem_filter.mpr ⟨tks_1 _ (List.mem_of_getElem? (i := 10) rfl), rfl⟩
theorem wm_1 : (Jvm.Cond.initialized "HomeCalls") ∈ xT := List.mem_filter.mpr ⟨tks_1 _ (List.mem_of_getElem? (i := 12) rfl), rfl⟩
theorem wm_2 : (Jvm.Cond.initialized "HomeCalls$Street") ∈ xT := List.mem_filter.mpr ⟨tks_1 _ (List.mem_of_getElem? (i := 13) rfl), rfl⟩
theorem wm_3 : (Jvm.Cond.initialized "HomeCalls$Law") ∈ xT := List.mem_filter.mpr ⟨tks_1 _ (List.mem_of_getElem? (i := 14) rfl), rfl⟩
theorem wm_4 : (Jvm.Cond.initialized "HomeCalls$Reader") ∈ xT := List.mem_filter.mpr ⟨tks_1 _ (List.mem_of_getElem? (i := 15) rfl), rfl⟩
theorem wm_5 : (Jvm.Cond.initialized "HomeCalls$Speaker") ∈ xT := List.mem_filter.mpr ⟨tks_1 _ (List.mem_of_getElem? (i := 16) rfl), rfl⟩
theorem wm_6 : (Jvm.Cond.initialized "HomeCalls$Sheet") ∈ xT := List.mem_filter.mpr ⟨tks_1 _ (List.mem_of_getElem? (i := 17) rfl), rfl⟩
theorem wm_7 : (Jvm.Cond.initialized "HomeCallsModel") ∈ xT := List.mem_filter.mpr ⟨tks_1 _ (List.mem_of_getElem? (i := 18) rfl), rfl⟩
theorem wm_8 : (Jvm.Cond.initialized "java/lang/Math") ∈ xT := List.mem_filter.mpr ⟨tks_1 _ (List.mem_of_getElem? (i := 19) rfl), rfl⟩
theorem wm_9 : (Jvm.Cond.initialized "java/lang/System") ∈ xT := List.mem_filter.mpr ⟨tks_1 _ (List.mem_of_getElem? (i := 20) rfl), rfl⟩
theorem wm_10 : (Jvm.Cond.initialized "java/lang/Integer") ∈ xT := List.mem_filter.mpr ⟨tks_1 _ (List.mem_of_getElem? (i := 21) rfl), rfl⟩
theorem wm_11 : (Jvm.Cond.initialized "java/util/Arrays") ∈ xT := List.mem_filter.mpr ⟨tks_1 _ (List.mem_of_getElem? (i := 22) rfl), rfl⟩
theorem wm_12 : (Jvm.Cond.classLink "HomeCallsLaw" (7 : Nat) "HomeCalls") ∈ xT := List.mem_filter.mpr ⟨tks_1 _ (List.mem_of_getElem? (i := 23) rfl), rfl⟩
theorem wm_13 : (Jvm.Cond.instantiable "HomeCalls" (8 : Nat)) ∈ xT := List.mem_filter.mpr ⟨tks_1 _ (List.mem_of_getElem? (i := 24) rfl), rfl⟩
theorem wm_14 : (Jvm.Cond.methodLink "HomeCallsLaw" (9 : Nat) ({ cls := "HomeCalls", name := "<init>", desc := "()V" } : Jvm.MethodName)) ∈ xT := List.mem_filter.mpr ⟨tks_1 _ (List.mem_of_getElem? (i := 25) rfl), rfl⟩
theorem wm_15 : (Jvm.Cond.instanceMethod ({ cls := "HomeCalls", name := "<init>", desc := "()V" } : Jvm.MethodName)) ∈ xT := List.mem_filter.mpr ⟨tks_1 _ (List.mem_of_getElem? (i := 26) rfl), rfl⟩
theorem wm_16 : (Jvm.Cond.code ({ cls := "HomeCalls", name := "<init>", desc := "()V" } : Jvm.MethodName) prog_1_method_1_code (1 : Nat) (Option.none : Option Jvm.ClassFile.FieldType)) ∈ xT := List.mem_filter.mpr ⟨tks_1 _ (List.mem_of_getElem? (i := 27) rfl), rfl⟩
theorem wm_17 : (Jvm.Cond.methodLink "HomeCalls" (1 : Nat) ({ cls := "java/lang/Object", name := "<init>", desc := "()V" } : Jvm.MethodName)) ∈ xT := List.mem_filter.mpr ⟨tks_1 _ (List.mem_of_getElem? (i := 28) rfl), rfl⟩
theorem wm_18 : (Jvm.Cond.instanceMethod ({ cls := "java/lang/Object", name := "<init>", desc := "()V" } : Jvm.MethodName)) ∈ xT := List.mem_filter.mpr ⟨tks_1 _ (List.mem_of_getElem? (i := 29) rfl), rfl⟩
theorem wm_19 : (Jvm.Cond.code ({ cls := "java/lang/Object", name := "<init>", desc := "()V" } : Jvm.MethodName) object_method_1_code (1 : Nat) (Option.none : Option Jvm.ClassFile.FieldType)) ∈ xT := List.mem_filter.mpr ⟨tks_1 _ (List.mem_of_getElem? (i := 30) rfl), rfl⟩
theorem wm_20 : (Jvm.Cond.classLink "HomeCalls" (7 : Nat) "HomeCalls$Street") ∈ xT := List.mem_filter.mpr ⟨tks_1 _ (List.mem_of_getElem? (i := 31) rfl), rfl⟩
theorem wm_21 : (Jvm.Cond.instantiable "HomeCalls$Street" (18 : Nat)) ∈ xT := List.mem_filter.mpr ⟨tks_1 _ (List.mem_of_getElem? (i := 32) rfl), rfl⟩
theorem wm_23 : (Jvm.Cond.instanceMethod ({ cls := "HomeCalls$Street", name := "<init>", desc := "()V" } : Jvm.MethodName)) ∈ xT := List.mem_filter.mpr ⟨tks_1 _ (List.mem_of_getElem? (i := 34) rfl), rfl⟩
theorem wm_24 : (Jvm.Cond.code ({ cls := "HomeCalls$Street", name := "<init>", desc := "()V" } : Jvm.MethodName) prog_6_method_1_code (1 : Nat) (Option.none : Option Jvm.ClassFile.FieldType)) ∈ xT := List.mem_filter.mpr ⟨tks_1 _ (List.mem_of_getElem? (i := 35) rfl), rfl⟩
theorem wm_25 : (Jvm.Cond.methodLink "HomeCalls$Street" (3 : Nat) ({ cls := "java/lang/Object", name := "<init>", desc := "()V" } : Jvm.MethodName)) ∈ xT := List.mem_filter.mpr ⟨tks_1 _ (List.mem_of_getElem? (i := 36) rfl), rfl⟩
theorem wm_26 : (Jvm.Cond.classLink "HomeCalls$Street" (40 : Nat) "HomeCalls$Law") ∈ xT := List.mem_filter.mpr ⟨tks_1 _ (List.mem_of_getElem? (i := 37) rfl), rfl⟩
theorem wm_28 : (Jvm.Cond.instantiable "HomeCalls$Law" (4 : Nat)) ∈ xT := List.mem_filter.mpr ⟨tks_1 _ (List.mem_of_getElem? (i := 39) rfl), rfl⟩
theorem wm_30 : (Jvm.Cond.instanceMethod ({ cls := "HomeCalls$Law", name := "<init>", desc := "()V" } : Jvm.MethodName)) ∈ xT := List.mem_filter.mpr ⟨tks_1 _ (List.mem_of_getElem? (i := 41) rfl), rfl⟩
theorem wm_31 : (Jvm.Cond.code ({ cls := "HomeCalls$Law", name := "<init>", desc := "()V" } : Jvm.MethodName) prog_2_method_1_code (1 : Nat) (Option.none : Option Jvm.ClassFile.FieldType)) ∈ xT := List.mem_filter.mpr ⟨tks_1 _ (List.mem_of_getElem? (i := 42) rfl), rfl⟩
theorem wm_32 : (Jvm.Cond.methodLink "HomeCalls$Law" (3 : Nat) ({ cls := "java/lang/Object", name := "<init>", desc := "()V" } : Jvm.MethodName)) ∈ xT := List.mem_filter.mpr ⟨tks_1 _ (List.mem_of_getElem? (i := 43) rfl), rfl⟩
theorem wm_33 : (Jvm.Cond.fieldLink "HomeCalls$Law" (9 : Nat) "HomeCalls$Law" "code" "[I") ∈ xT := List.mem_filter.mpr ⟨tks_1 _ (List.mem_of_getElem? (i := 44) rfl), rfl⟩
theorem wm_34 : (Jvm.Cond.fieldLink "HomeCalls$Street" (69 : Nat) "HomeCalls$Law" "code" "[I") ∈ xT := List.mem_filter.mpr ⟨tks_1 _ (List.mem_of_getElem? (i := 45) rfl), rfl⟩
theorem wm_35 : (Jvm.Cond.fieldLink "HomeCalls$Law" (24 : Nat) "HomeCalls$Law" "size" "I") ∈ xT := List.mem_filter.mpr ⟨tks_1 _ (List.mem_of_getElem? (i := 46) rfl), rfl⟩
theorem wm_36 : (Jvm.Cond.fieldLink "HomeCalls$Street" (72 : Nat) "HomeCalls$Law" "size" "I") ∈ xT := List.mem_filter.mpr ⟨tks_1 _ (List.mem_of_getElem? (i := 47) rfl), rfl⟩
theorem wm_37 : (Jvm.Cond.fieldLink "HomeCalls$Law" (15 : Nat) "HomeCalls$Law" "stack" "[I") ∈ xT := List.mem_filter.mpr ⟨tks_2 _ (List.mem_of_getElem? (i := 0) rfl), rfl⟩
theorem wm_38 : (Jvm.Cond.fieldLink "HomeCalls$Law" (34 : Nat) "HomeCalls$Law" "top" "I") ∈ xT := List.mem_filter.mpr ⟨tks_2 _ (List.mem_of_getElem? (i := 1) rfl), rfl⟩
theorem wm_48 : (Jvm.Cond.arrayClass Jvm.ClassFile.FieldType.int) ∈ xT := List.mem_filter.mpr ⟨tks_2 _ (List.mem_of_getElem? (i := 11) rfl), rfl⟩
theorem wm_49 : (Jvm.Cond.fieldLink "HomeCalls$Street" (9 : Nat) "HomeCalls$Street" "cells" "[I") ∈ xT := List.mem_filter.mpr ⟨tks_2 _ (List.mem_of_getElem? (i := 12) rfl), rfl⟩
theorem wm_50 : (Jvm.Cond.fieldLink "HomeCalls" (185 : Nat) "HomeCalls$Street" "cells" "[I") ∈ xT := List.mem_filter.mpr ⟨tks_2 _ (List.mem_of_getElem? (i := 13) rfl), rfl⟩
theorem wm_51 : (Jvm.Cond.fieldLink "HomeCalls$Street" (15 : Nat) "HomeCalls$Street" "marks" "[I") ∈ xT := List.mem_filter.mpr ⟨tks_2 _ (List.mem_of_getElem? (i := 14) rfl), rfl⟩
theorem wm_52 : (Jvm.Cond.fieldLink "HomeCalls" (254 : Nat) "HomeCalls$Street" "marks" "[I") ∈ xT := List.mem_filter.mpr ⟨tks_2 _ (List.mem_of_getElem? (i := 15) rfl), rfl⟩
theorem wm_53 : (Jvm.Cond.fieldLink "HomeCalls$Street" (60 : Nat) "HomeCalls$Street" "things" "I") ∈ xT := List.mem_filter.mpr ⟨tks_2 _ (List.mem_of_getElem? (i := 16) rfl), rfl⟩
theorem wm_54 : (Jvm.Cond.fieldLink "HomeCalls" (55 : Nat) "HomeCalls$Street" "things" "I") ∈ xT := List.mem_filter.mpr ⟨tks_2 _ (List.mem_of_getElem? (i := 17) rfl), rfl⟩
theorem wm_55 : (Jvm.Cond.fieldLink "HomeCalls$Street" (18 : Nat) "HomeCalls$Street" "kinds" "[I") ∈ xT := List.mem_filter.mpr ⟨tks_2 _ (List.mem_of_getElem? (i := 18) rfl), rfl⟩
theorem wm_56 : (Jvm.Cond.fieldLink "HomeCalls" (81 : Nat) "HomeCalls$Street" "kinds" "[I") ∈ xT := List.mem_filter.mpr ⟨tks_2 _ (List.mem_of_getElem? (i := 19) rfl), rfl⟩
theorem wm_57 : (Jvm.Cond.fieldLink "HomeCalls$Street" (21 : Nat) "HomeCalls$Street" "numbers" "[I") ∈ xT := List.mem_filter.mpr ⟨tks_2 _ (List.mem_of_getElem? (i := 20) rfl), rfl⟩
theorem wm_58 : (Jvm.Cond.fieldLink "HomeCalls" (84 : Nat) "HomeCalls$Street" "numbers" "[I") ∈ xT := List.mem_filter.mpr ⟨tks_2 _ (List.mem_of_getElem? (i := 21) rfl), rfl⟩
theorem wm_59 : (Jvm.Cond.fieldLink "HomeCalls$Street" (24 : Nat) "HomeCalls$Street" "at" "[I") ∈ xT := List.mem_filter.mpr ⟨tks_2 _ (List.mem_of_getElem? (i := 22) rfl), rfl⟩
theorem wm_60 : (Jvm.Cond.fieldLink "HomeCalls" (87 : Nat) "HomeCalls$Street" "at" "[I") ∈ xT := List.mem_filter.mpr ⟨tks_2 _ (List.mem_of_getElem? (i := 23) rfl), rfl⟩
theorem wm_61 : (Jvm.Cond.fieldLink "HomeCalls$Street" (27 : Nat) "HomeCalls$Street" "had" "[I") ∈ xT := List.mem_filter.mpr ⟨tks_2 _ (List.mem_of_getElem? (i := 24) rfl), rfl⟩
theorem wm_62 : (Jvm.Cond.fieldLink "HomeCalls" (90 : Nat) "HomeCalls$Street" "had" "[I") ∈ xT := List.mem_filter.mpr ⟨tks_2 _ (List.mem_of_getElem? (i := 25) rfl), rfl⟩
theorem wm_63 : (Jvm.Cond.fieldLink "HomeCalls$Street" (30 : Nat) "HomeCalls$Street" "safe" "[I") ∈ xT := List.mem_filter.mpr ⟨tks_2 _ (List.mem_of_getElem? (i := 26) rfl), rfl⟩
theorem wm_64 : (Jvm.Cond.fieldLink "HomeCalls" (93 : Nat) "HomeCalls$Street" "safe" "[I") ∈ xT := List.mem_filter.mpr ⟨tks_2 _ (List.mem_of_getElem? (i := 27) rfl), rfl⟩
theorem wm_65 : (Jvm.Cond.fieldLink "HomeCalls$Street" (63 : Nat) "HomeCalls$Street" "children" "I") ∈ xT := List.mem_filter.mpr ⟨tks_2 _ (List.mem_of_getElem? (i := 28) rfl), rfl⟩
theorem wm_66 : (Jvm.Cond.fieldLink "HomeCalls" (71 : Nat) "HomeCalls$Street" "children" "I") ∈ xT := List.mem_filter.mpr ⟨tks_2 _ (List.mem_of_getElem? (i := 29) rfl), rfl⟩
theorem wm_67 : (Jvm.Cond.fieldLink "HomeCalls$Street" (33 : Nat) "HomeCalls$Street" "it" "I") ∈ xT := List.mem_filter.mpr ⟨tks_2 _ (List.mem_of_getElem? (i := 30) rfl), rfl⟩
theorem wm_68 : (Jvm.Cond.fieldLink "HomeCalls" (102 : Nat) "HomeCalls$Street" "it" "I") ∈ xT := List.mem_filter.mpr ⟨tks_2 _ (List.mem_of_getElem? (i := 31) rfl), rfl⟩
theorem wm_69 : (Jvm.Cond.fieldLink "HomeCalls$Street" (66 : Nat) "HomeCalls$Street" "calls" "I") ∈ xT := List.mem_filter.mpr ⟨tks_2 _ (List.mem_of_getElem? (i := 32) rfl), rfl⟩
theorem wm_70 : (Jvm.Cond.fieldLink "HomeCalls" (147 : Nat) "HomeCalls$Street" "calls" "I") ∈ xT := List.mem_filter.mpr ⟨tks_2 _ (List.mem_of_getElem? (i := 33) rfl), rfl⟩
theorem wm_71 : (Jvm.Cond.fieldLink "HomeCalls$Street" (37 : Nat) "HomeCalls$Street" "z" "I") ∈ xT := List.mem_filter.mpr ⟨tks_2 _ (List.mem_of_getElem? (i := 34) rfl), rfl⟩
theorem wm_72 : (Jvm.Cond.fieldLink "HomeCalls" (194 : Nat) "HomeCalls$Street" "z" "I") ∈ xT := List.mem_filter.mpr ⟨tks_2 _ (List.mem_of_getElem? (i := 35) rfl), rfl⟩
theorem wm_73 : (Jvm.Cond.fieldLink "HomeCalls$Street" (43 : Nat) "HomeCalls$Street" "laws" "[LHomeCalls$Law;") ∈ xT := List.mem_filter.mpr ⟨tks_2 _ (List.mem_of_getElem? (i := 36) rfl), rfl⟩
theorem wm_74 : (Jvm.Cond.fieldLink "HomeCalls" (124 : Nat) "HomeCalls$Street" "laws" "[LHomeCalls$Law;") ∈ xT := List.mem_filter.mpr ⟨tks_2 _ (List.mem_of_getElem? (i := 37) rfl), rfl⟩
theorem wm_75 : (Jvm.Cond.fieldLink "HomeCalls$Street" (47 : Nat) "HomeCalls$Street" "tape" "[I") ∈ xT := List.mem_filter.mpr ⟨tks_2 _ (List.mem_of_getElem? (i := 38) rfl), rfl⟩
theorem wm_76 : (Jvm.Cond.fieldLink "HomeCalls" (118 : Nat) "HomeCalls$Street" "tape" "[I") ∈ xT := List.mem_filter.mpr ⟨tks_2 _ (List.mem_of_getElem? (i := 39) rfl), rfl⟩
theorem wm_77 : (Jvm.Cond.fieldLink "HomeCalls$Street" (79 : Nat) "HomeCalls$Street" "bytes" "I") ∈ xT := List.mem_filter.mpr ⟨tks_2 _ (List.mem_of_getElem? (i := 40) rfl), rfl⟩
theorem wm_78 : (Jvm.Cond.fieldLink "HomeCalls" (111 : Nat) "HomeCalls$Street" "bytes" "I") ∈ xT := List.mem_filter.mpr ⟨tks_2 _ (List.mem_of_getElem? (i := 41) rfl), rfl⟩
theorem wm_79 : (Jvm.Cond.fieldLink "HomeCalls$Street" (50 : Nat) "HomeCalls$Street" "waiting" "[I") ∈ xT := List.mem_filter.mpr ⟨tks_2 _ (List.mem_of_getElem? (i := 42) rfl), rfl⟩
theorem wm_80 : (Jvm.Cond.fieldLink "HomeCalls" (237 : Nat) "HomeCalls$Street" "waiting" "[I") ∈ xT := List.mem_filter.mpr ⟨tks_2 _ (List.mem_of_getElem? (i := 43) rfl), rfl⟩
theorem wm_81 : (Jvm.Cond.fieldLink "HomeCalls$Street" (82 : Nat) "HomeCalls$Street" "waits" "I") ∈ xT := List.mem_filter.mpr ⟨tks_2 _ (List.mem_of_getElem? (i := 44) rfl), rfl⟩
theorem wm_82 : (Jvm.Cond.fieldLink "HomeCalls" (234 : Nat) "HomeCalls$Street" "waits" "I") ∈ xT := List.mem_filter.mpr ⟨tks_2 _ (List.mem_of_getElem? (i := 45) rfl), rfl⟩
theorem wm_83 : (Jvm.Cond.fieldLink "HomeCalls$Street" (53 : Nat) "HomeCalls$Street" "ends" "[I") ∈ xT := List.mem_filter.mpr ⟨tks_2 _ (List.mem_of_getElem? (i := 46) rfl), rfl⟩
theorem wm_121 : (Jvm.Cond.classLink "HomeCalls" (22 : Nat) "HomeCalls$Reader") ∈ xT := List.mem_filter.mpr ⟨tks_3 _ (List.mem_of_getElem? (i := 36) rfl), rfl⟩
theorem wm_122 : (Jvm.Cond.instantiable "HomeCalls$Reader" (7 : Nat)) ∈ xT := List.mem_filter.mpr ⟨tks_3 _ (List.mem_of_getElem? (i := 37) rfl), rfl⟩
theorem wm_124 : (Jvm.Cond.instanceMethod ({ cls := "HomeCalls$Reader", name := "<init>", desc := "()V" } : Jvm.MethodName)) ∈ xT := List.mem_filter.mpr ⟨tks_3 _ (List.mem_of_getElem? (i := 39) rfl), rfl⟩
theorem wm_125 : (Jvm.Cond.code ({ cls := "HomeCalls$Reader", name := "<init>", desc := "()V" } : Jvm.MethodName) prog_3_method_1_code (1 : Nat) (Option.none : Option Jvm.ClassFile.FieldType)) ∈ xT := List.mem_filter.mpr ⟨tks_3 _ (List.mem_of_getElem? (i := 40) rfl), rfl⟩
theorem wm_126 : (Jvm.Cond.methodLink "HomeCalls$Reader" (3 : Nat) ({ cls := "java/lang/Object", name := "<init>", desc := "()V" } : Jvm.MethodName)) ∈ xT := List.mem_filter.mpr ⟨tks_3 _ (List.mem_of_getElem? (i := 41) rfl), rfl⟩
theorem wm_127 : (Jvm.Cond.fieldLink "HomeCalls$Reader" (9 : Nat) "HomeCalls$Reader" "code" "[I") ∈ xT := List.mem_filter.mpr ⟨tks_3 _ (List.mem_of_getElem? (i := 42) rfl), rfl⟩
theorem wm_128 : (Jvm.Cond.fieldLink "HomeCalls" (128 : Nat) "HomeCalls$Reader" "code" "[I") ∈ xT := List.mem_filter.mpr ⟨tks_3 _ (List.mem_of_getElem? (i := 43) rfl), rfl⟩
theorem wm_129 : (Jvm.Cond.fieldLink "HomeCalls$Reader" (18 : Nat) "HomeCalls$Reader" "size" "I") ∈ xT := List.mem_filter.mpr ⟨tks_3 _ (List.mem_of_getElem? (i := 44) rfl), rfl⟩
theorem wm_130 : (Jvm.Cond.fieldLink "HomeCalls" (131 : Nat) "HomeCalls$Reader" "size" "I") ∈ xT := List.mem_filter.mpr ⟨tks_3 _ (List.mem_of_getElem? (i := 45) rfl), rfl⟩
theorem wm_131 : (Jvm.Cond.fieldLink "HomeCalls$Reader" (15 : Nat) "HomeCalls$Reader" "held" "[I") ∈ xT := List.mem_filter.mpr ⟨tks_3 _ (List.mem_of_getElem? (i := 46) rfl), rfl⟩
theorem wm_132 : (Jvm.Cond.fieldLink "HomeCalls$Reader" (22 : Nat) "HomeCalls$Reader" "top" "I") ∈ xT := List.mem_filter.mpr ⟨tks_3 _ (List.mem_of_getElem? (i := 47) rfl), rfl⟩
theorem wm_133 : (Jvm.Cond.fieldLink "HomeCalls$Reader" (25 : Nat) "HomeCalls$Reader" "open" "I") ∈ xT := List.mem_filter.mpr ⟨tks_4 _ (List.mem_of_getElem? (i := 0) rfl), rfl⟩
theorem wm_134 : (Jvm.Cond.fieldLink "HomeCalls$Reader" (28 : Nat) "HomeCalls$Reader" "digits" "I") ∈ xT := List.mem_filter.mpr ⟨tks_4 _ (List.mem_of_getElem? (i := 1) rfl), rfl⟩
theorem wm_135 : (Jvm.Cond.fieldLink "HomeCalls$Reader" (31 : Nat) "HomeCalls$Reader" "wantsValue" "Z") ∈ xT := List.mem_filter.mpr ⟨tks_4 _ (List.mem_of_getElem? (i := 2) rfl), rfl⟩
theorem wm_151 : (Jvm.Cond.classLink "HomeCalls" (29 : Nat) "HomeCalls$Speaker") ∈ xT := List.mem_filter.mpr ⟨tks_4 _ (List.mem_of_getElem? (i := 18) rfl), rfl⟩
theorem wm_152 : (Jvm.Cond.instantiable "HomeCalls$Speaker" (5 : Nat)) ∈ xT := List.mem_filter.mpr ⟨tks_4 _ (List.mem_of_getElem? (i := 19) rfl), rfl⟩
theorem wm_154 : (Jvm.Cond.instanceMethod ({ cls := "HomeCalls$Speaker", name := "<init>", desc := "()V" } : Jvm.MethodName)) ∈ xT := List.mem_filter.mpr ⟨tks_4 _ (List.mem_of_getElem? (i := 21) rfl), rfl⟩
theorem wm_155 : (Jvm.Cond.code ({ cls := "HomeCalls$Speaker", name := "<init>", desc := "()V" } : Jvm.MethodName) prog_5_method_1_code (1 : Nat) (Option.none : Option Jvm.ClassFile.FieldType)) ∈ xT := List.mem_filter.mpr ⟨tks_4 _ (List.mem_of_getElem? (i := 22) rfl), rfl⟩
theorem wm_156 : (Jvm.Cond.methodLink "HomeCalls$Speaker" (3 : Nat) ({ cls := "java/lang/Object", name := "<init>", desc := "()V" } : Jvm.MethodName)) ∈ xT := List.mem_filter.mpr ⟨tks_4 _ (List.mem_of_getElem? (i := 23) rfl), rfl⟩
theorem wm_157 : (Jvm.Cond.fieldLink "HomeCalls$Speaker" (9 : Nat) "HomeCalls$Speaker" "bodies" "[I") ∈ xT := List.mem_filter.mpr ⟨tks_4 _ (List.mem_of_getElem? (i := 24) rfl), rfl⟩
theorem wm_158 : (Jvm.Cond.fieldLink "HomeCalls" (204 : Nat) "HomeCalls$Speaker" "bodies" "[I") ∈ xT := List.mem_filter.mpr ⟨tks_4 _ (List.mem_of_getElem? (i := 25) rfl), rfl⟩
theorem wm_159 : (Jvm.Cond.fieldLink "HomeCalls$Speaker" (15 : Nat) "HomeCalls$Speaker" "began" "I") ∈ xT := List.mem_filter.mpr ⟨tks_4 _ (List.mem_of_getElem? (i := 26) rfl), rfl⟩
theorem wm_160 : (Jvm.Cond.fieldLink "HomeCalls" (201 : Nat) "HomeCalls$Speaker" "began" "I") ∈ xT := List.mem_filter.mpr ⟨tks_4 _ (List.mem_of_getElem? (i := 27) rfl), rfl⟩
theorem wm_161 : (Jvm.Cond.fieldLink "HomeCalls$Speaker" (19 : Nat) "HomeCalls$Speaker" "kind" "I") ∈ xT := List.mem_filter.mpr ⟨tks_4 _ (List.mem_of_getElem? (i := 28) rfl), rfl⟩
theorem wm_162 : (Jvm.Cond.fieldLink "HomeCalls$Speaker" (22 : Nat) "HomeCalls$Speaker" "n" "I") ∈ xT := List.mem_filter.mpr ⟨tks_4 _ (List.mem_of_getElem? (i := 29) rfl), rfl⟩
theorem wm_163 : (Jvm.Cond.fieldLink "HomeCalls$Speaker" (25 : Nat) "HomeCalls$Speaker" "m" "I") ∈ xT := List.mem_filter.mpr ⟨tks_4 _ (List.mem_of_getElem? (i := 30) rfl), rfl⟩
theorem wm_175 : (Jvm.Cond.classLink "HomeCalls" (36 : Nat) "HomeCalls$Sheet") ∈ xT := List.mem_filter.mpr ⟨tks_4 _ (List.mem_of_getElem? (i := 42) rfl), rfl⟩
theorem wm_177 : (Jvm.Cond.instantiable "HomeCalls$Sheet" (3 : Nat)) ∈ xT := List.mem_filter.mpr ⟨tks_4 _ (List.mem_of_getElem? (i := 44) rfl), rfl⟩
theorem wm_179 : (Jvm.Cond.instanceMethod ({ cls := "HomeCalls$Sheet", name := "<init>", desc := "()V" } : Jvm.MethodName)) ∈ xT := List.mem_filter.mpr ⟨tks_4 _ (List.mem_of_getElem? (i := 46) rfl), rfl⟩
theorem wm_180 : (Jvm.Cond.code ({ cls := "HomeCalls$Sheet", name := "<init>", desc := "()V" } : Jvm.MethodName) prog_4_method_1_code (1 : Nat) (Option.none : Option Jvm.ClassFile.FieldType)) ∈ xT := List.mem_filter.mpr ⟨tks_4 _ (List.mem_of_getElem? (i := 47) rfl), rfl⟩
theorem wm_181 : (Jvm.Cond.methodLink "HomeCalls$Sheet" (3 : Nat) ({ cls := "java/lang/Object", name := "<init>", desc := "()V" } : Jvm.MethodName)) ∈ xT := List.mem_filter.mpr ⟨tks_5 _ (List.mem_of_getElem? (i := 0) rfl), rfl⟩
theorem wm_182 : (Jvm.Cond.fieldLink "HomeCalls$Sheet" (9 : Nat) "HomeCalls$Sheet" "numbers" "[I") ∈ xT := List.mem_filter.mpr ⟨tks_5 _ (List.mem_of_getElem? (i := 1) rfl), rfl⟩
theorem wm_183 : (Jvm.Cond.fieldLink "HomeCalls" (193 : Nat) "HomeCalls$Sheet" "numbers" "[I") ∈ xT := List.mem_filter.mpr ⟨tks_5 _ (List.mem_of_getElem? (i := 2) rfl), rfl⟩
theorem wm_184 : (Jvm.Cond.fieldLink "HomeCalls$Sheet" (25 : Nat) "HomeCalls$Sheet" "size" "I") ∈ xT := List.mem_filter.mpr ⟨tks_5 _ (List.mem_of_getElem? (i := 3) rfl), rfl⟩
theorem wm_185 : (Jvm.Cond.fieldLink "HomeCalls" (192 : Nat) "HomeCalls$Sheet" "size" "I") ∈ xT := List.mem_filter.mpr ⟨tks_5 _ (List.mem_of_getElem? (i := 4) rfl), rfl⟩
theorem wm_186 : (Jvm.Cond.fieldLink "HomeCalls$Sheet" (15 : Nat) "HomeCalls$Sheet" "bits" "I") ∈ xT := List.mem_filter.mpr ⟨tks_5 _ (List.mem_of_getElem? (i := 5) rfl), rfl⟩
theorem wm_187 : (Jvm.Cond.fieldLink "HomeCalls" (214 : Nat) "HomeCalls$Sheet" "bits" "I") ∈ xT := List.mem_filter.mpr ⟨tks_5 _ (List.mem_of_getElem? (i := 6) rfl), rfl⟩
theorem wm_195 : (Jvm.Cond.fieldLink "HomeCalls" (10 : Nat) "HomeCalls" "now" "LHomeCalls$Street;") ∈ xT := List.mem_filter.mpr ⟨tks_5 _ (List.mem_of_getElem? (i := 14) rfl), rfl⟩
theorem wm_196 : (Jvm.Cond.fieldLink "HomeCalls" (16 : Nat) "HomeCalls" "kept" "LHomeCalls$Street;") ∈ xT := List.mem_filter.mpr ⟨tks_5 _ (List.mem_of_getElem? (i := 15) rfl), rfl⟩
theorem wm_197 : (Jvm.Cond.fieldLink "HomeCalls" (19 : Nat) "HomeCalls" "thought" "LHomeCalls$Street;") ∈ xT := List.mem_filter.mpr ⟨tks_5 _ (List.mem_of_getElem? (i := 16) rfl), rfl⟩
theorem wm_198 : (Jvm.Cond.fieldLink "HomeCalls" (25 : Nat) "HomeCalls" "reader" "LHomeCalls$Reader;") ∈ xT := List.mem_filter.mpr ⟨tks_5 _ (List.mem_of_getElem? (i := 17) rfl), rfl⟩
theorem wm_199 : (Jvm.Cond.fieldLink "HomeCalls" (32 : Nat) "HomeCalls" "speaker" "LHomeCalls$Speaker;") ∈ xT := List.mem_filter.mpr ⟨tks_5 _ (List.mem_of_getElem? (i := 18) rfl), rfl⟩
theorem wm_200 : (Jvm.Cond.fieldLink "HomeCalls" (39 : Nat) "HomeCalls" "sheets" "[LHomeCalls$Sheet;") ∈ xT := List.mem_filter.mpr ⟨tks_5 _ (List.mem_of_getElem? (i := 19) rfl), rfl⟩
theorem wm_201 : (Jvm.Cond.fieldLink "HomeCalls" (43 : Nat) "HomeCalls" "errors" "[I") ∈ xT := List.mem_filter.mpr ⟨tks_5 _ (List.mem_of_getElem? (i := 20) rfl), rfl⟩
theorem wm_202 : (Jvm.Cond.fieldLink "HomeCalls" (231 : Nat) "HomeCalls" "images" "I") ∈ xT := List.mem_filter.mpr ⟨tks_5 _ (List.mem_of_getElem? (i := 21) rfl), rfl⟩
theorem wm_220 : (Jvm.Cond.methodLink "HomeCallsLaw" (13 : Nat) ({ cls := "HomeCalls", name := "thing", desc := "(II)I" } : Jvm.MethodName)) ∈ xT := List.mem_filter.mpr ⟨tks_5 _ (List.mem_of_getElem? (i := 39) rfl), rfl⟩
theorem wm_221 : (Jvm.Cond.instanceMethod ({ cls := "HomeCalls", name := "thing", desc := "(II)I" } : Jvm.MethodName)) ∈ xT := List.mem_filter.mpr ⟨tks_5 _ (List.mem_of_getElem? (i := 40) rfl), rfl⟩
theorem wm_222 : (Jvm.Cond.selects "HomeCalls" ({ cls := "HomeCalls", name := "thing", desc := "(II)I" } : Jvm.MethodName) ({ cls := "HomeCalls", name := "thing", desc := "(II)I" } : Jvm.MethodName)) ∈ xT := List.mem_filter.mpr ⟨tks_5 _ (List.mem_of_getElem? (i := 41) rfl), rfl⟩
theorem wm_223 : (Jvm.Cond.code ({ cls := "HomeCalls", name := "thing", desc := "(II)I" } : Jvm.MethodName) prog_1_method_2_code (3 : Nat) (Option.some Jvm.ClassFile.FieldType.int)) ∈ xT := List.mem_filter.mpr ⟨tks_5 _ (List.mem_of_getElem? (i := 42) rfl), rfl⟩
theorem wm_224 : (Jvm.Cond.methodLink "HomeCalls" (47 : Nat) ({ cls := "HomeCalls", name := "isBelow", desc := "(II)Z" } : Jvm.MethodName)) ∈ xT := List.mem_filter.mpr ⟨tks_5 _ (List.mem_of_getElem? (i := 43) rfl), rfl⟩
theorem wm_225 : (Jvm.Cond.static ({ cls := "HomeCalls", name := "isBelow", desc := "(II)Z" } : Jvm.MethodName)) ∈ xT := List.mem_filter.mpr ⟨tks_5 _ (List.mem_of_getElem? (i := 44) rfl), rfl⟩
theorem wm_226 : (Jvm.Cond.code ({ cls := "HomeCalls", name := "isBelow", desc := "(II)Z" } : Jvm.MethodName) prog_1_method_44_code (2 : Nat) (Option.some Jvm.ClassFile.FieldType.boolean)) ∈ xT := List.mem_filter.mpr ⟨tks_5 _ (List.mem_of_getElem? (i := 45) rfl), rfl⟩
theorem wm_227 : (Jvm.Cond.methodLink "HomeCalls" (51 : Nat) ({ cls := "HomeCalls", name := "error", desc := "(I)I" } : Jvm.MethodName)) ∈ xT := List.mem_filter.mpr ⟨tks_5 _ (List.mem_of_getElem? (i := 46) rfl), rfl⟩
theorem wm_229 : (Jvm.Cond.instanceMethod ({ cls := "HomeCalls", name := "error", desc := "(I)I" } : Jvm.MethodName)) ∈ xT := List.mem_filter.mpr ⟨tks_6 _ (List.mem_of_getElem? (i := 0) rfl), rfl⟩
theorem wm_230 : (Jvm.Cond.code ({ cls := "HomeCalls", name := "error", desc := "(I)I" } : Jvm.MethodName) prog_1_method_43_code (2 : Nat) (Option.some Jvm.ClassFile.FieldType.int)) ∈ xT := List.mem_filter.mpr ⟨tks_6 _ (List.mem_of_getElem? (i := 1) rfl), rfl⟩
theorem wm_231 : (Jvm.Cond.constant "HomeCalls" (244 : Nat) (-1000000000 : Int32)) ∈ xT := List.mem_filter.mpr ⟨tks_6 _ (List.mem_of_getElem? (i := 2) rfl), rfl⟩
theorem wm_232 : (Jvm.Cond.methodLink "HomeCalls" (59 : Nat) ({ cls := "HomeCalls$Street", name := "addThing", desc := "(II)I" } : Jvm.MethodName)) ∈ xT := List.mem_filter.mpr ⟨tks_6 _ (List.mem_of_getElem? (i := 3) rfl), rfl⟩
theorem wm_233 : (Jvm.Cond.instanceMethod ({ cls := "HomeCalls$Street", name := "addThing", desc := "(II)I" } : Jvm.MethodName)) ∈ xT := List.mem_filter.mpr ⟨tks_6 _ (List.mem_of_getElem? (i := 4) rfl), rfl⟩
theorem wm_234 : (Jvm.Cond.selects "HomeCalls$Street" ({ cls := "HomeCalls$Street", name := "addThing", desc := "(II)I" } : Jvm.MethodName) ({ cls := "HomeCalls$Street", name := "addThing", desc := "(II)I" } : Jvm.MethodName)) ∈ xT := List.mem_filter.mpr ⟨tks_6 _ (List.mem_of_getElem? (i := 5) rfl), rfl⟩
theorem wm_235 : (Jvm.Cond.code ({ cls := "HomeCalls$Street", name := "addThing", desc := "(II)I" } : Jvm.MethodName) prog_6_method_4_code (3 : Nat) (Option.some Jvm.ClassFile.FieldType.int)) ∈ xT := List.mem_filter.mpr ⟨tks_6 _ (List.mem_of_getElem? (i := 6) rfl), rfl⟩
theorem wm_236 : (Jvm.Cond.methodLink "HomeCallsLaw" (18 : Nat) ({ cls := "HomeCalls", name := "ofThing", desc := "(II)I" } : Jvm.MethodName)) ∈ xT := List.mem_filter.mpr ⟨tks_6 _ (List.mem_of_getElem? (i := 7) rfl), rfl⟩
theorem wm_237 : (Jvm.Cond.instanceMethod ({ cls := "HomeCalls", name := "ofThing", desc := "(II)I" } : Jvm.MethodName)) ∈ xT := List.mem_filter.mpr ⟨tks_6 _ (List.mem_of_getElem? (i := 8) rfl), rfl⟩
theorem wm_238 : (Jvm.Cond.selects "HomeCalls" ({ cls := "HomeCalls", name := "ofThing", desc := "(II)I" } : Jvm.MethodName) ({ cls := "HomeCalls", name := "ofThing", desc := "(II)I" } : Jvm.MethodName)) ∈ xT := List.mem_filter.mpr ⟨tks_6 _ (List.mem_of_getElem? (i := 9) rfl), rfl⟩
theorem wm_239 : (Jvm.Cond.code ({ cls := "HomeCalls", name := "ofThing", desc := "(II)I" } : Jvm.MethodName) prog_1_method_3_code (3 : Nat) (Option.some Jvm.ClassFile.FieldType.int)) ∈ xT := List.mem_filter.mpr ⟨tks_6 _ (List.mem_of_getElem? (i := 10) rfl), rfl⟩
theorem wm_240 : (Jvm.Cond.methodLink "HomeCalls" (63 : Nat) ({ cls := "HomeCalls$Street", name := "rowOfThings", desc := "(I)[I" } : Jvm.MethodName)) ∈ xT := List.mem_filter.mpr ⟨tks_6 _ (List.mem_of_getElem? (i := 11) rfl), rfl⟩
theorem wm_241 : (Jvm.Cond.instanceMethod ({ cls := "HomeCalls$Street", name := "rowOfThings", desc := "(I)[I" } : Jvm.MethodName)) ∈ xT := List.mem_filter.mpr ⟨tks_6 _ (List.mem_of_getElem? (i := 12) rfl), rfl⟩
theorem wm_242 : (Jvm.Cond.selects "HomeCalls$Street" ({ cls := "HomeCalls$Street", name := "rowOfThings", desc := "(I)[I" } : Jvm.MethodName) ({ cls := "HomeCalls$Street", name := "rowOfThings", desc := "(I)[I" } : Jvm.MethodName)) ∈ xT := List.mem_filter.mpr ⟨tks_6 _ (List.mem_of_getElem? (i := 13) rfl), rfl⟩
theorem wm_243 : (Jvm.Cond.code ({ cls := "HomeCalls$Street", name := "rowOfThings", desc := "(I)[I" } : Jvm.MethodName) prog_6_method_5_code (2 : Nat) (Option.some (Jvm.ClassFile.FieldType.array Jvm.ClassFile.FieldType.int))) ∈ xT := List.mem_filter.mpr ⟨tks_6 _ (List.mem_of_getElem? (i := 14) rfl), rfl⟩
theorem wm_244 : (Jvm.Cond.methodLink "HomeCallsLaw" (22 : Nat) ({ cls := "HomeCalls", name := "shift", desc := "(III)I" } : Jvm.MethodName)) ∈ xT := List.mem_filter.mpr ⟨tks_6 _ (List.mem_of_getElem? (i := 15) rfl), rfl⟩
theorem wm_245 : (Jvm.Cond.instanceMethod ({ cls := "HomeCalls", name := "shift", desc := "(III)I" } : Jvm.MethodName)) ∈ xT := List.mem_filter.mpr ⟨tks_6 _ (List.mem_of_getElem? (i := 16) rfl), rfl⟩
theorem wm_246 : (Jvm.Cond.selects "HomeCalls" ({ cls := "HomeCalls", name := "shift", desc := "(III)I" } : Jvm.MethodName) ({ cls := "HomeCalls", name := "shift", desc := "(III)I" } : Jvm.MethodName)) ∈ xT := List.mem_filter.mpr ⟨tks_6 _ (List.mem_of_getElem? (i := 17) rfl), rfl⟩
theorem wm_247 : (Jvm.Cond.code ({ cls := "HomeCalls", name := "shift", desc := "(III)I" } : Jvm.MethodName) prog_1_method_4_code (4 : Nat) (Option.some Jvm.ClassFile.FieldType.int)) ∈ xT := List.mem_filter.mpr ⟨tks_6 _ (List.mem_of_getElem? (i := 18) rfl), rfl⟩
theorem wm_248 : (Jvm.Cond.methodLink "HomeCalls" (67 : Nat) ({ cls := "HomeCalls", name := "replace", desc := "([III)I" } : Jvm.MethodName)) ∈ xT := List.mem_filter.mpr ⟨tks_6 _ (List.mem_of_getElem? (i := 19) rfl), rfl⟩
theorem wm_249 : (Jvm.Cond.static ({ cls := "HomeCalls", name := "replace", desc := "([III)I" } : Jvm.MethodName)) ∈ xT := List.mem_filter.mpr ⟨tks_6 _ (List.mem_of_getElem? (i := 20) rfl), rfl⟩
theorem wm_250 : (Jvm.Cond.code ({ cls := "HomeCalls", name := "replace", desc := "([III)I" } : Jvm.MethodName) prog_1_method_48_code (4 : Nat) (Option.some Jvm.ClassFile.FieldType.int)) ∈ xT := List.mem_filter.mpr ⟨tks_6 _ (List.mem_of_getElem? (i := 21) rfl), rfl⟩
theorem wm_251 : (Jvm.Cond.methodLink "HomeCallsLaw" (27 : Nat) ({ cls := "HomeCalls", name := "child", desc := "(II)I" } : Jvm.MethodName)) ∈ xT := List.mem_filter.mpr ⟨tks_6 _ (List.mem_of_getElem? (i := 22) rfl), rfl⟩
theorem wm_252 : (Jvm.Cond.instanceMethod ({ cls := "HomeCalls", name := "child", desc := "(II)I" } : Jvm.MethodName)) ∈ xT := List.mem_filter.mpr ⟨tks_6 _ (List.mem_of_getElem? (i := 23) rfl), rfl⟩
theorem wm_253 : (Jvm.Cond.selects "HomeCalls" ({ cls := "HomeCalls", name := "child", desc := "(II)I" } : Jvm.MethodName) ({ cls := "HomeCalls", name := "child", desc := "(II)I" } : Jvm.MethodName)) ∈ xT := List.mem_filter.mpr ⟨tks_6 _ (List.mem_of_getElem? (i := 24) rfl), rfl⟩
theorem wm_254 : (Jvm.Cond.code ({ cls := "HomeCalls", name := "child", desc := "(II)I" } : Jvm.MethodName) prog_1_method_5_code (3 : Nat) (Option.some Jvm.ClassFile.FieldType.int)) ∈ xT := List.mem_filter.mpr ⟨tks_6 _ (List.mem_of_getElem? (i := 25) rfl), rfl⟩
theorem wm_255 : (Jvm.Cond.methodLink "HomeCalls" (74 : Nat) ({ cls := "HomeCalls$Street", name := "addChild", desc := "(II)I" } : Jvm.MethodName)) ∈ xT := List.mem_filter.mpr ⟨tks_6 _ (List.mem_of_getElem? (i := 26) rfl), rfl⟩
theorem wm_256 : (Jvm.Cond.instanceMethod ({ cls := "HomeCalls$Street", name := "addChild", desc := "(II)I" } : Jvm.MethodName)) ∈ xT := List.mem_filter.mpr ⟨tks_6 _ (List.mem_of_getElem? (i := 27) rfl), rfl⟩
theorem wm_257 : (Jvm.Cond.selects "HomeCalls$Street" ({ cls := "HomeCalls$Street", name := "addChild", desc := "(II)I" } : Jvm.MethodName) ({ cls := "HomeCalls$Street", name := "addChild", desc := "(II)I" } : Jvm.MethodName)) ∈ xT := List.mem_filter.mpr ⟨tks_6 _ (List.mem_of_getElem? (i := 28) rfl), rfl⟩
theorem wm_258 : (Jvm.Cond.code ({ cls := "HomeCalls$Street", name := "addChild", desc := "(II)I" } : Jvm.MethodName) prog_6_method_6_code (3 : Nat) (Option.some Jvm.ClassFile.FieldType.int)) ∈ xT := List.mem_filter.mpr ⟨tks_6 _ (List.mem_of_getElem? (i := 29) rfl), rfl⟩
theorem wm_259 : (Jvm.Cond.methodLink "HomeCallsLaw" (31 : Nat) ({ cls := "HomeCalls", name := "ofChild", desc := "(II)I" } : Jvm.MethodName)) ∈ xT := List.mem_filter.mpr ⟨tks_6 _ (List.mem_of_getElem? (i := 30) rfl), rfl⟩
theorem wm_260 : (Jvm.Cond.instanceMethod ({ cls := "HomeCalls", name := "ofChild", desc := "(II)I" } : Jvm.MethodName)) ∈ xT := List.mem_filter.mpr ⟨tks_6 _ (List.mem_of_getElem? (i := 31) rfl), rfl⟩
theorem wm_261 : (Jvm.Cond.selects "HomeCalls" ({ cls := "HomeCalls", name := "ofChild", desc := "(II)I" } : Jvm.MethodName) ({ cls := "HomeCalls", name := "ofChild", desc := "(II)I" } : Jvm.MethodName)) ∈ xT := List.mem_filter.mpr ⟨tks_6 _ (List.mem_of_getElem? (i := 32) rfl), rfl⟩
theorem wm_262 : (Jvm.Cond.code ({ cls := "HomeCalls", name := "ofChild", desc := "(II)I" } : Jvm.MethodName) prog_1_method_6_code (3 : Nat) (Option.some Jvm.ClassFile.FieldType.int)) ∈ xT := List.mem_filter.mpr ⟨tks_6 _ (List.mem_of_getElem? (i := 33) rfl), rfl⟩
theorem wm_263 : (Jvm.Cond.methodLink "HomeCalls" (77 : Nat) ({ cls := "HomeCalls", name := "isChild", desc := "(I)Z" } : Jvm.MethodName)) ∈ xT := List.mem_filter.mpr ⟨tks_6 _ (List.mem_of_getElem? (i := 34) rfl), rfl⟩
theorem wm_265 : (Jvm.Cond.instanceMethod ({ cls := "HomeCalls", name := "isChild", desc := "(I)Z" } : Jvm.MethodName)) ∈ xT := List.mem_filter.mpr ⟨tks_6 _ (List.mem_of_getElem? (i := 36) rfl), rfl⟩
theorem wm_266 : (Jvm.Cond.code ({ cls := "HomeCalls", name := "isChild", desc := "(I)Z" } : Jvm.MethodName) prog_1_method_47_code (2 : Nat) (Option.some Jvm.ClassFile.FieldType.boolean)) ∈ xT := List.mem_filter.mpr ⟨tks_6 _ (List.mem_of_getElem? (i := 37) rfl), rfl⟩
theorem wm_267 : (Jvm.Cond.methodLink "HomeCalls" (96 : Nat) ({ cls := "HomeCalls$Street", name := "pace", desc := "(I)I" } : Jvm.MethodName)) ∈ xT := List.mem_filter.mpr ⟨tks_6 _ (List.mem_of_getElem? (i := 38) rfl), rfl⟩
theorem wm_268 : (Jvm.Cond.instanceMethod ({ cls := "HomeCalls$Street", name := "pace", desc := "(I)I" } : Jvm.MethodName)) ∈ xT := List.mem_filter.mpr ⟨tks_6 _ (List.mem_of_getElem? (i := 39) rfl), rfl⟩
theorem wm_269 : (Jvm.Cond.selects "HomeCalls$Street" ({ cls := "HomeCalls$Street", name := "pace", desc := "(I)I" } : Jvm.MethodName) ({ cls := "HomeCalls$Street", name := "pace", desc := "(I)I" } : Jvm.MethodName)) ∈ xT := List.mem_filter.mpr ⟨tks_6 _ (List.mem_of_getElem? (i := 40) rfl), rfl⟩
theorem wm_270 : (Jvm.Cond.code ({ cls := "HomeCalls$Street", name := "pace", desc := "(I)I" } : Jvm.MethodName) prog_6_method_9_code (4 : Nat) (Option.some Jvm.ClassFile.FieldType.int)) ∈ xT := List.mem_filter.mpr ⟨tks_6 _ (List.mem_of_getElem? (i := 41) rfl), rfl⟩
theorem wm_271 : (Jvm.Cond.methodLink "HomeCalls" (99 : Nat) ({ cls := "HomeCalls$Street", name := "far", desc := "(I)I" } : Jvm.MethodName)) ∈ xT := List.mem_filter.mpr ⟨tks_6 _ (List.mem_of_getElem? (i := 42) rfl), rfl⟩
theorem wm_272 : (Jvm.Cond.instanceMethod ({ cls := "HomeCalls$Street", name := "far", desc := "(I)I" } : Jvm.MethodName)) ∈ xT := List.mem_filter.mpr ⟨tks_6 _ (List.mem_of_getElem? (i := 43) rfl), rfl⟩
theorem wm_273 : (Jvm.Cond.selects "HomeCalls$Street" ({ cls := "HomeCalls$Street", name := "far", desc := "(I)I" } : Jvm.MethodName) ({ cls := "HomeCalls$Street", name := "far", desc := "(I)I" } : Jvm.MethodName)) ∈ xT := List.mem_filter.mpr ⟨tks_6 _ (List.mem_of_getElem? (i := 44) rfl), rfl⟩
theorem wm_274 : (Jvm.Cond.code ({ cls := "HomeCalls$Street", name := "far", desc := "(I)I" } : Jvm.MethodName) prog_6_method_10_code (3 : Nat) (Option.some Jvm.ClassFile.FieldType.int)) ∈ xT := List.mem_filter.mpr ⟨tks_6 _ (List.mem_of_getElem? (i := 45) rfl), rfl⟩
theorem wm_275 : (Jvm.Cond.methodLink "HomeCallsLaw" (35 : Nat) ({ cls := "HomeCalls", name := "change", desc := "(III)I" } : Jvm.MethodName)) ∈ xT := List.mem_filter.mpr ⟨tks_6 _ (List.mem_of_getElem? (i := 46) rfl), rfl⟩
theorem wm_276 : (Jvm.Cond.instanceMethod ({ cls := "HomeCalls", name := "change", desc := "(III)I" } : Jvm.MethodName)) ∈ xT := List.mem_filter.mpr ⟨tks_6 _ (List.mem_of_getElem? (i := 47) rfl), rfl⟩
theorem wm_277 : (Jvm.Cond.selects "HomeCalls" ({ cls := "HomeCalls", name := "change", desc := "(III)I" } : Jvm.MethodName) ({ cls := "HomeCalls", name := "change", desc := "(III)I" } : Jvm.MethodName)) ∈ xT := List.mem_filter.mpr ⟨tks_7 _ (List.mem_of_getElem? (i := 0) rfl), rfl⟩
theorem wm_278 : (Jvm.Cond.code ({ cls := "HomeCalls", name := "change", desc := "(III)I" } : Jvm.MethodName) prog_1_method_7_code (4 : Nat) (Option.some Jvm.ClassFile.FieldType.int)) ∈ xT := List.mem_filter.mpr ⟨tks_7 _ (List.mem_of_getElem? (i := 1) rfl), rfl⟩
theorem wm_279 : (Jvm.Cond.methodLink "HomeCallsLaw" (39 : Nat) ({ cls := "HomeCalls", name := "it", desc := "(I)I" } : Jvm.MethodName)) ∈ xT := List.mem_filter.mpr ⟨tks_7 _ (List.mem_of_getElem? (i := 2) rfl), rfl⟩
theorem wm_280 : (Jvm.Cond.instanceMethod ({ cls := "HomeCalls", name := "it", desc := "(I)I" } : Jvm.MethodName)) ∈ xT := List.mem_filter.mpr ⟨tks_7 _ (List.mem_of_getElem? (i := 3) rfl), rfl⟩
theorem wm_281 : (Jvm.Cond.selects "HomeCalls" ({ cls := "HomeCalls", name := "it", desc := "(I)I" } : Jvm.MethodName) ({ cls := "HomeCalls", name := "it", desc := "(I)I" } : Jvm.MethodName)) ∈ xT := List.mem_filter.mpr ⟨tks_7 _ (List.mem_of_getElem? (i := 4) rfl), rfl⟩
theorem wm_282 : (Jvm.Cond.code ({ cls := "HomeCalls", name := "it", desc := "(I)I" } : Jvm.MethodName) prog_1_method_8_code (3 : Nat) (Option.some Jvm.ClassFile.FieldType.int)) ∈ xT := List.mem_filter.mpr ⟨tks_7 _ (List.mem_of_getElem? (i := 5) rfl), rfl⟩
theorem wm_283 : (Jvm.Cond.methodLink "HomeCallsLaw" (44 : Nat) ({ cls := "HomeCalls", name := "become", desc := "(II)I" } : Jvm.MethodName)) ∈ xT := List.mem_filter.mpr ⟨tks_7 _ (List.mem_of_getElem? (i := 6) rfl), rfl⟩
theorem wm_284 : (Jvm.Cond.instanceMethod ({ cls := "HomeCalls", name := "become", desc := "(II)I" } : Jvm.MethodName)) ∈ xT := List.mem_filter.mpr ⟨tks_7 _ (List.mem_of_getElem? (i := 7) rfl), rfl⟩
theorem wm_285 : (Jvm.Cond.selects "HomeCalls" ({ cls := "HomeCalls", name := "become", desc := "(II)I" } : Jvm.MethodName) ({ cls := "HomeCalls", name := "become", desc := "(II)I" } : Jvm.MethodName)) ∈ xT := List.mem_filter.mpr ⟨tks_7 _ (List.mem_of_getElem? (i := 8) rfl), rfl⟩
theorem wm_286 : (Jvm.Cond.code ({ cls := "HomeCalls", name := "become", desc := "(II)I" } : Jvm.MethodName) prog_1_method_9_code (3 : Nat) (Option.some Jvm.ClassFile.FieldType.int)) ∈ xT := List.mem_filter.mpr ⟨tks_7 _ (List.mem_of_getElem? (i := 9) rfl), rfl⟩
theorem wm_287 : (Jvm.Cond.methodLink "HomeCallsLaw" (48 : Nat) ({ cls := "HomeCalls", name := "as", desc := "(II)I" } : Jvm.MethodName)) ∈ xT := List.mem_filter.mpr ⟨tks_7 _ (List.mem_of_getElem? (i := 10) rfl), rfl⟩
theorem wm_288 : (Jvm.Cond.instanceMethod ({ cls := "HomeCalls", name := "as", desc := "(II)I" } : Jvm.MethodName)) ∈ xT := List.mem_filter.mpr ⟨tks_7 _ (List.mem_of_getElem? (i := 11) rfl), rfl⟩
theorem wm_289 : (Jvm.Cond.selects "HomeCalls" ({ cls := "HomeCalls", name := "as", desc := "(II)I" } : Jvm.MethodName) ({ cls := "HomeCalls", name := "as", desc := "(II)I" } : Jvm.MethodName)) ∈ xT := List.mem_filter.mpr ⟨tks_7 _ (List.mem_of_getElem? (i := 12) rfl), rfl⟩
theorem wm_290 : (Jvm.Cond.code ({ cls := "HomeCalls", name := "as", desc := "(II)I" } : Jvm.MethodName) prog_1_method_10_code (3 : Nat) (Option.some Jvm.ClassFile.FieldType.int)) ∈ xT := List.mem_filter.mpr ⟨tks_7 _ (List.mem_of_getElem? (i := 13) rfl), rfl⟩
theorem wm_291 : (Jvm.Cond.fieldLink "HomeCalls" (105 : Nat) "HomeCalls" "IS" "[I") ∈ xT := List.mem_filter.mpr ⟨tks_7 _ (List.mem_of_getElem? (i := 14) rfl), rfl⟩
theorem wm_293 : (Jvm.Cond.methodLink "HomeCalls" (108 : Nat) ({ cls := "HomeCalls", name := "isIn", desc := "(II)Z" } : Jvm.MethodName)) ∈ xT := List.mem_filter.mpr ⟨tks_7 _ (List.mem_of_getElem? (i := 16) rfl), rfl⟩
theorem wm_294 : (Jvm.Cond.static ({ cls := "HomeCalls", name := "isIn", desc := "(II)Z" } : Jvm.MethodName)) ∈ xT := List.mem_filter.mpr ⟨tks_7 _ (List.mem_of_getElem? (i := 17) rfl), rfl⟩
theorem wm_295 : (Jvm.Cond.code ({ cls := "HomeCalls", name := "isIn", desc := "(II)Z" } : Jvm.MethodName) prog_1_method_45_code (2 : Nat) (Option.some Jvm.ClassFile.FieldType.boolean)) ∈ xT := List.mem_filter.mpr ⟨tks_7 _ (List.mem_of_getElem? (i := 18) rfl), rfl⟩
theorem wm_296 : (Jvm.Cond.methodLink "HomeCallsLaw" (54 : Nat) ({ cls := "HomeCalls", name := "feed", desc := "(JI)I" } : Jvm.MethodName)) ∈ xT := List.mem_filter.mpr ⟨tks_7 _ (List.mem_of_getElem? (i := 19) rfl), rfl⟩
theorem wm_297 : (Jvm.Cond.instanceMethod ({ cls := "HomeCalls", name := "feed", desc := "(JI)I" } : Jvm.MethodName)) ∈ xT := List.mem_filter.mpr ⟨tks_7 _ (List.mem_of_getElem? (i := 20) rfl), rfl⟩
theorem wm_298 : (Jvm.Cond.selects "HomeCalls" ({ cls := "HomeCalls", name := "feed", desc := "(JI)I" } : Jvm.MethodName) ({ cls := "HomeCalls", name := "feed", desc := "(JI)I" } : Jvm.MethodName)) ∈ xT := List.mem_filter.mpr ⟨tks_7 _ (List.mem_of_getElem? (i := 21) rfl), rfl⟩
theorem wm_299 : (Jvm.Cond.code ({ cls := "HomeCalls", name := "feed", desc := "(JI)I" } : Jvm.MethodName) prog_1_method_11_code (4 : Nat) (Option.some Jvm.ClassFile.FieldType.int)) ∈ xT := List.mem_filter.mpr ⟨tks_7 _ (List.mem_of_getElem? (i := 22) rfl), rfl⟩
theorem wm_300 : (Jvm.Cond.methodLink "HomeCalls" (114 : Nat) ({ cls := "HomeCalls$Street", name := "addBytes", desc := "(JI)I" } : Jvm.MethodName)) ∈ xT := List.mem_filter.mpr ⟨tks_7 _ (List.mem_of_getElem? (i := 23) rfl), rfl⟩
theorem wm_301 : (Jvm.Cond.instanceMethod ({ cls := "HomeCalls$Street", name := "addBytes", desc := "(JI)I" } : Jvm.MethodName)) ∈ xT := List.mem_filter.mpr ⟨tks_7 _ (List.mem_of_getElem? (i := 24) rfl), rfl⟩
theorem wm_302 : (Jvm.Cond.selects "HomeCalls$Street" ({ cls := "HomeCalls$Street", name := "addBytes", desc := "(JI)I" } : Jvm.MethodName) ({ cls := "HomeCalls$Street", name := "addBytes", desc := "(JI)I" } : Jvm.MethodName)) ∈ xT := List.mem_filter.mpr ⟨tks_7 _ (List.mem_of_getElem? (i := 25) rfl), rfl⟩
theorem wm_303 : (Jvm.Cond.code ({ cls := "HomeCalls$Street", name := "addBytes", desc := "(JI)I" } : Jvm.MethodName) prog_6_method_7_code (5 : Nat) (Option.some Jvm.ClassFile.FieldType.int)) ∈ xT := List.mem_filter.mpr ⟨tks_7 _ (List.mem_of_getElem? (i := 26) rfl), rfl⟩
theorem wm_304 : (Jvm.Cond.constantLong "HomeCalls$Street" (97 : Nat) (255 : Int64)) ∈ xT := List.mem_filter.mpr ⟨tks_7 _ (List.mem_of_getElem? (i := 27) rfl), rfl⟩
theorem wm_305 : (Jvm.Cond.methodLink "HomeCallsLaw" (59 : Nat) ({ cls := "HomeCalls", name := "text", desc := "(I)I" } : Jvm.MethodName)) ∈ xT := List.mem_filter.mpr ⟨tks_7 _ (List.mem_of_getElem? (i := 28) rfl), rfl⟩
theorem wm_306 : (Jvm.Cond.instanceMethod ({ cls := "HomeCalls", name := "text", desc := "(I)I" } : Jvm.MethodName)) ∈ xT := List.mem_filter.mpr ⟨tks_7 _ (List.mem_of_getElem? (i := 29) rfl), rfl⟩
theorem wm_307 : (Jvm.Cond.selects "HomeCalls" ({ cls := "HomeCalls", name := "text", desc := "(I)I" } : Jvm.MethodName) ({ cls := "HomeCalls", name := "text", desc := "(I)I" } : Jvm.MethodName)) ∈ xT := List.mem_filter.mpr ⟨tks_7 _ (List.mem_of_getElem? (i := 30) rfl), rfl⟩
theorem wm_308 : (Jvm.Cond.code ({ cls := "HomeCalls", name := "text", desc := "(I)I" } : Jvm.MethodName) prog_1_method_12_code (3 : Nat) (Option.some Jvm.ClassFile.FieldType.int)) ∈ xT := List.mem_filter.mpr ⟨tks_7 _ (List.mem_of_getElem? (i := 31) rfl), rfl⟩
theorem wm_309 : (Jvm.Cond.methodLink "HomeCalls" (121 : Nat) ({ cls := "HomeCalls$Reader", name := "faultOf", desc := "([III)I" } : Jvm.MethodName)) ∈ xT := List.mem_filter.mpr ⟨tks_7 _ (List.mem_of_getElem? (i := 32) rfl), rfl⟩
theorem wm_310 : (Jvm.Cond.instanceMethod ({ cls := "HomeCalls$Reader", name := "faultOf", desc := "([III)I" } : Jvm.MethodName)) ∈ xT := List.mem_filter.mpr ⟨tks_7 _ (List.mem_of_getElem? (i := 33) rfl), rfl⟩
theorem wm_311 : (Jvm.Cond.selects "HomeCalls$Reader" ({ cls := "HomeCalls$Reader", name := "faultOf", desc := "([III)I" } : Jvm.MethodName) ({ cls := "HomeCalls$Reader", name := "faultOf", desc := "([III)I" } : Jvm.MethodName)) ∈ xT := List.mem_filter.mpr ⟨tks_7 _ (List.mem_of_getElem? (i := 34) rfl), rfl⟩
theorem wm_312 : (Jvm.Cond.code ({ cls := "HomeCalls$Reader", name := "faultOf", desc := "([III)I" } : Jvm.MethodName) prog_3_method_2_code (6 : Nat) (Option.some Jvm.ClassFile.FieldType.int)) ∈ xT := List.mem_filter.mpr ⟨tks_7 _ (List.mem_of_getElem? (i := 35) rfl), rfl⟩
theorem wm_313 : (Jvm.Cond.methodLink "HomeCalls$Reader" (35 : Nat) ({ cls := "java/lang/Math", name := "min", desc := "(II)I" } : Jvm.MethodName)) ∈ xT := List.mem_filter.mpr ⟨tks_7 _ (List.mem_of_getElem? (i := 36) rfl), rfl⟩
theorem wm_314 : (Jvm.Cond.static ({ cls := "java/lang/Math", name := "min", desc := "(II)I" } : Jvm.MethodName)) ∈ xT := List.mem_filter.mpr ⟨tks_7 _ (List.mem_of_getElem? (i := 37) rfl), rfl⟩
theorem wm_315 : (Jvm.Cond.code ({ cls := "java/lang/Math", name := "min", desc := "(II)I" } : Jvm.MethodName) prog_10_method_69_code (2 : Nat) (Option.some Jvm.ClassFile.FieldType.int)) ∈ xT := List.mem_filter.mpr ⟨tks_7 _ (List.mem_of_getElem? (i := 38) rfl), rfl⟩
theorem wm_316 : (Jvm.Cond.methodLink "HomeCalls$Reader" (41 : Nat) ({ cls := "HomeCalls$Reader", name := "goesOn", desc := "(II)Z" } : Jvm.MethodName)) ∈ xT := List.mem_filter.mpr ⟨tks_7 _ (List.mem_of_getElem? (i := 39) rfl), rfl⟩
theorem wm_318 : (Jvm.Cond.instanceMethod ({ cls := "HomeCalls$Reader", name := "goesOn", desc := "(II)Z" } : Jvm.MethodName)) ∈ xT := List.mem_filter.mpr ⟨tks_7 _ (List.mem_of_getElem? (i := 41) rfl), rfl⟩
theorem wm_319 : (Jvm.Cond.code ({ cls := "HomeCalls$Reader", name := "goesOn", desc := "(II)Z" } : Jvm.MethodName) prog_3_method_3_code (3 : Nat) (Option.some Jvm.ClassFile.FieldType.boolean)) ∈ xT := List.mem_filter.mpr ⟨tks_7 _ (List.mem_of_getElem? (i := 42) rfl), rfl⟩
theorem wm_320 : (Jvm.Cond.methodLink "HomeCalls$Reader" (49 : Nat) ({ cls := "HomeCalls$Reader", name := "readDigit", desc := "(I)Z" } : Jvm.MethodName)) ∈ xT := List.mem_filter.mpr ⟨tks_7 _ (List.mem_of_getElem? (i := 43) rfl), rfl⟩
theorem wm_322 : (Jvm.Cond.instanceMethod ({ cls := "HomeCalls$Reader", name := "readDigit", desc := "(I)Z" } : Jvm.MethodName)) ∈ xT := List.mem_filter.mpr ⟨tks_7 _ (List.mem_of_getElem? (i := 45) rfl), rfl⟩
theorem wm_323 : (Jvm.Cond.code ({ cls := "HomeCalls$Reader", name := "readDigit", desc := "(I)Z" } : Jvm.MethodName) prog_3_method_4_code (2 : Nat) (Option.some Jvm.ClassFile.FieldType.boolean)) ∈ xT := List.mem_filter.mpr ⟨tks_7 _ (List.mem_of_getElem? (i := 46) rfl), rfl⟩
theorem wm_324 : (Jvm.Cond.methodLink "HomeCalls$Reader" (59 : Nat) ({ cls := "HomeCalls$Reader", name := "emit", desc := "(I)V" } : Jvm.MethodName)) ∈ xT := List.mem_filter.mpr ⟨tks_7 _ (List.mem_of_getElem? (i := 47) rfl), rfl⟩
theorem wm_326 : (Jvm.Cond.instanceMethod ({ cls := "HomeCalls$Reader", name := "emit", desc := "(I)V" } : Jvm.MethodName)) ∈ xT := List.mem_filter.mpr ⟨tks_8 _ (List.mem_of_getElem? (i := 1) rfl), rfl⟩
theorem wm_327 : (Jvm.Cond.code ({ cls := "HomeCalls$Reader", name := "emit", desc := "(I)V" } : Jvm.MethodName) prog_3_method_12_code (2 : Nat) (Option.none : Option Jvm.ClassFile.FieldType)) ∈ xT := List.mem_filter.mpr ⟨tks_8 _ (List.mem_of_getElem? (i := 2) rfl), rfl⟩
theorem wm_328 : (Jvm.Cond.methodLink "HomeCalls$Reader" (53 : Nat) ({ cls := "HomeCalls$Reader", name := "readStart", desc := "(II)Z" } : Jvm.MethodName)) ∈ xT := List.mem_filter.mpr ⟨tks_8 _ (List.mem_of_getElem? (i := 3) rfl), rfl⟩
theorem wm_330 : (Jvm.Cond.instanceMethod ({ cls := "HomeCalls$Reader", name := "readStart", desc := "(II)Z" } : Jvm.MethodName)) ∈ xT := List.mem_filter.mpr ⟨tks_8 _ (List.mem_of_getElem? (i := 5) rfl), rfl⟩
theorem wm_331 : (Jvm.Cond.code ({ cls := "HomeCalls$Reader", name := "readStart", desc := "(II)Z" } : Jvm.MethodName) prog_3_method_5_code (4 : Nat) (Option.some Jvm.ClassFile.FieldType.boolean)) ∈ xT := List.mem_filter.mpr ⟨tks_8 _ (List.mem_of_getElem? (i := 6) rfl), rfl⟩
theorem wm_332 : (Jvm.Cond.fieldLink "HomeCalls$Reader" (63 : Nat) "HomeCalls$Reader" "NAMES_OF_USES" "[C") ∈ xT := List.mem_filter.mpr ⟨tks_8 _ (List.mem_of_getElem? (i := 7) rfl), rfl⟩
theorem wm_334 : (Jvm.Cond.methodLink "HomeCalls$Reader" (69 : Nat) ({ cls := "HomeCalls$Reader", name := "hold", desc := "(I)V" } : Jvm.MethodName)) ∈ xT := List.mem_filter.mpr ⟨tks_8 _ (List.mem_of_getElem? (i := 9) rfl), rfl⟩
theorem wm_336 : (Jvm.Cond.instanceMethod ({ cls := "HomeCalls$Reader", name := "hold", desc := "(I)V" } : Jvm.MethodName)) ∈ xT := List.mem_filter.mpr ⟨tks_8 _ (List.mem_of_getElem? (i := 11) rfl), rfl⟩
theorem wm_337 : (Jvm.Cond.code ({ cls := "HomeCalls$Reader", name := "hold", desc := "(I)V" } : Jvm.MethodName) prog_3_method_11_code (2 : Nat) (Option.none : Option Jvm.ClassFile.FieldType)) ∈ xT := List.mem_filter.mpr ⟨tks_8 _ (List.mem_of_getElem? (i := 12) rfl), rfl⟩
theorem wm_338 : (Jvm.Cond.methodLink "HomeCalls$Reader" (56 : Nat) ({ cls := "HomeCalls$Reader", name := "readNext", desc := "(I)Z" } : Jvm.MethodName)) ∈ xT := List.mem_filter.mpr ⟨tks_8 _ (List.mem_of_getElem? (i := 13) rfl), rfl⟩
theorem wm_340 : (Jvm.Cond.instanceMethod ({ cls := "HomeCalls$Reader", name := "readNext", desc := "(I)Z" } : Jvm.MethodName)) ∈ xT := List.mem_filter.mpr ⟨tks_8 _ (List.mem_of_getElem? (i := 15) rfl), rfl⟩
theorem wm_341 : (Jvm.Cond.code ({ cls := "HomeCalls$Reader", name := "readNext", desc := "(I)Z" } : Jvm.MethodName) prog_3_method_6_code (3 : Nat) (Option.some Jvm.ClassFile.FieldType.boolean)) ∈ xT := List.mem_filter.mpr ⟨tks_8 _ (List.mem_of_getElem? (i := 16) rfl), rfl⟩
theorem wm_342 : (Jvm.Cond.methodLink "HomeCalls$Reader" (72 : Nat) ({ cls := "HomeCalls$Reader", name := "closeNots", desc := "()V" } : Jvm.MethodName)) ∈ xT := List.mem_filter.mpr ⟨tks_8 _ (List.mem_of_getElem? (i := 17) rfl), rfl⟩
theorem wm_344 : (Jvm.Cond.instanceMethod ({ cls := "HomeCalls$Reader", name := "closeNots", desc := "()V" } : Jvm.MethodName)) ∈ xT := List.mem_filter.mpr ⟨tks_8 _ (List.mem_of_getElem? (i := 19) rfl), rfl⟩
theorem wm_345 : (Jvm.Cond.code ({ cls := "HomeCalls$Reader", name := "closeNots", desc := "()V" } : Jvm.MethodName) prog_3_method_9_code (1 : Nat) (Option.none : Option Jvm.ClassFile.FieldType)) ∈ xT := List.mem_filter.mpr ⟨tks_8 _ (List.mem_of_getElem? (i := 20) rfl), rfl⟩
theorem wm_346 : (Jvm.Cond.methodLink "HomeCalls$Reader" (75 : Nat) ({ cls := "HomeCalls$Reader", name := "closeRound", desc := "()Z" } : Jvm.MethodName)) ∈ xT := List.mem_filter.mpr ⟨tks_8 _ (List.mem_of_getElem? (i := 21) rfl), rfl⟩
theorem wm_348 : (Jvm.Cond.instanceMethod ({ cls := "HomeCalls$Reader", name := "closeRound", desc := "()Z" } : Jvm.MethodName)) ∈ xT := List.mem_filter.mpr ⟨tks_8 _ (List.mem_of_getElem? (i := 23) rfl), rfl⟩
theorem wm_349 : (Jvm.Cond.code ({ cls := "HomeCalls$Reader", name := "closeRound", desc := "()Z" } : Jvm.MethodName) prog_3_method_7_code (1 : Nat) (Option.some Jvm.ClassFile.FieldType.boolean)) ∈ xT := List.mem_filter.mpr ⟨tks_8 _ (List.mem_of_getElem? (i := 24) rfl), rfl⟩
theorem wm_350 : (Jvm.Cond.methodLink "HomeCalls$Reader" (82 : Nat) ({ cls := "HomeCalls$Reader", name := "release", desc := "(I)V" } : Jvm.MethodName)) ∈ xT := List.mem_filter.mpr ⟨tks_8 _ (List.mem_of_getElem? (i := 25) rfl), rfl⟩
theorem wm_352 : (Jvm.Cond.instanceMethod ({ cls := "HomeCalls$Reader", name := "release", desc := "(I)V" } : Jvm.MethodName)) ∈ xT := List.mem_filter.mpr ⟨tks_8 _ (List.mem_of_getElem? (i := 27) rfl), rfl⟩
theorem wm_353 : (Jvm.Cond.code ({ cls := "HomeCalls$Reader", name := "release", desc := "(I)V" } : Jvm.MethodName) prog_3_method_10_code (2 : Nat) (Option.none : Option Jvm.ClassFile.FieldType)) ∈ xT := List.mem_filter.mpr ⟨tks_8 _ (List.mem_of_getElem? (i := 28) rfl), rfl⟩
theorem wm_354 : (Jvm.Cond.methodLink "HomeCalls$Reader" (78 : Nat) ({ cls := "HomeCalls$Reader", name := "rankOf", desc := "(I)I" } : Jvm.MethodName)) ∈ xT := List.mem_filter.mpr ⟨tks_8 _ (List.mem_of_getElem? (i := 29) rfl), rfl⟩
theorem wm_355 : (Jvm.Cond.static ({ cls := "HomeCalls$Reader", name := "rankOf", desc := "(I)I" } : Jvm.MethodName)) ∈ xT := List.mem_filter.mpr ⟨tks_8 _ (List.mem_of_getElem? (i := 30) rfl), rfl⟩
theorem wm_356 : (Jvm.Cond.code ({ cls := "HomeCalls$Reader", name := "rankOf", desc := "(I)I" } : Jvm.MethodName) prog_3_method_13_code (1 : Nat) (Option.some Jvm.ClassFile.FieldType.int)) ∈ xT := List.mem_filter.mpr ⟨tks_8 _ (List.mem_of_getElem? (i := 31) rfl), rfl⟩
theorem wm_357 : (Jvm.Cond.methodLink "HomeCalls$Reader" (45 : Nat) ({ cls := "HomeCalls$Reader", name := "isWhole", desc := "()Z" } : Jvm.MethodName)) ∈ xT := List.mem_filter.mpr ⟨tks_8 _ (List.mem_of_getElem? (i := 32) rfl), rfl⟩
theorem wm_359 : (Jvm.Cond.instanceMethod ({ cls := "HomeCalls$Reader", name := "isWhole", desc := "()Z" } : Jvm.MethodName)) ∈ xT := List.mem_filter.mpr ⟨tks_8 _ (List.mem_of_getElem? (i := 34) rfl), rfl⟩
theorem wm_360 : (Jvm.Cond.code ({ cls := "HomeCalls$Reader", name := "isWhole", desc := "()Z" } : Jvm.MethodName) prog_3_method_8_code (1 : Nat) (Option.some Jvm.ClassFile.FieldType.boolean)) ∈ xT := List.mem_filter.mpr ⟨tks_8 _ (List.mem_of_getElem? (i := 35) rfl), rfl⟩
theorem wm_361 : (Jvm.Cond.methodLink "HomeCalls" (134 : Nat) ({ cls := "HomeCalls$Law", name := "adopt", desc := "([II)V" } : Jvm.MethodName)) ∈ xT := List.mem_filter.mpr ⟨tks_8 _ (List.mem_of_getElem? (i := 36) rfl), rfl⟩
theorem wm_362 : (Jvm.Cond.instanceMethod ({ cls := "HomeCalls$Law", name := "adopt", desc := "([II)V" } : Jvm.MethodName)) ∈ xT := List.mem_filter.mpr ⟨tks_8 _ (List.mem_of_getElem? (i := 37) rfl), rfl⟩
theorem wm_363 : (Jvm.Cond.selects "HomeCalls$Law" ({ cls := "HomeCalls$Law", name := "adopt", desc := "([II)V" } : Jvm.MethodName) ({ cls := "HomeCalls$Law", name := "adopt", desc := "([II)V" } : Jvm.MethodName)) ∈ xT := List.mem_filter.mpr ⟨tks_8 _ (List.mem_of_getElem? (i := 38) rfl), rfl⟩
theorem wm_364 : (Jvm.Cond.code ({ cls := "HomeCalls$Law", name := "adopt", desc := "([II)V" } : Jvm.MethodName) prog_2_method_2_code (3 : Nat) (Option.none : Option Jvm.ClassFile.FieldType)) ∈ xT := List.mem_filter.mpr ⟨tks_8 _ (List.mem_of_getElem? (i := 39) rfl), rfl⟩
theorem wm_365 : (Jvm.Cond.methodLink "HomeCalls$Law" (18 : Nat) ({ cls := "java/lang/Math", name := "min", desc := "(II)I" } : Jvm.MethodName)) ∈ xT := List.mem_filter.mpr ⟨tks_8 _ (List.mem_of_getElem? (i := 40) rfl), rfl⟩
theorem wm_366 : (Jvm.Cond.methodLink "HomeCalls$Law" (28 : Nat) ({ cls := "java/lang/System", name := "arraycopy", desc := "(Ljava/lang/Object;ILjava/lang/Object;II)V" } : Jvm.MethodName)) ∈ xT := List.mem_filter.mpr ⟨tks_8 _ (List.mem_of_getElem? (i := 41) rfl), rfl⟩
theorem wm_367 : (Jvm.Cond.static ({ cls := "java/lang/System", name := "arraycopy", desc := "(Ljava/lang/Object;ILjava/lang/Object;II)V" } : Jvm.MethodName)) ∈ xT := List.mem_filter.mpr ⟨tks_8 _ (List.mem_of_getElem? (i := 42) rfl), rfl⟩
theorem wm_368 : (Jvm.Cond.native ({ cls := "java/lang/System", name := "arraycopy", desc := "(Ljava/lang/Object;ILjava/lang/Object;II)V" } : Jvm.MethodName)) ∈ xT := List.mem_filter.mpr ⟨tks_8 _ (List.mem_of_getElem? (i := 43) rfl), rfl⟩
theorem wm_369 : (Jvm.Cond.methodLink "HomeCallsLaw" (63 : Nat) ({ cls := "HomeCalls", name := "law", desc := "(IIII)I" } : Jvm.MethodName)) ∈ xT := List.mem_filter.mpr ⟨tks_8 _ (List.mem_of_getElem? (i := 44) rfl), rfl⟩
theorem wm_370 : (Jvm.Cond.instanceMethod ({ cls := "HomeCalls", name := "law", desc := "(IIII)I" } : Jvm.MethodName)) ∈ xT := List.mem_filter.mpr ⟨tks_8 _ (List.mem_of_getElem? (i := 45) rfl), rfl⟩
theorem wm_371 : (Jvm.Cond.selects "HomeCalls" ({ cls := "HomeCalls", name := "law", desc := "(IIII)I" } : Jvm.MethodName) ({ cls := "HomeCalls", name := "law", desc := "(IIII)I" } : Jvm.MethodName)) ∈ xT := List.mem_filter.mpr ⟨tks_8 _ (List.mem_of_getElem? (i := 46) rfl), rfl⟩
theorem wm_372 : (Jvm.Cond.code ({ cls := "HomeCalls", name := "law", desc := "(IIII)I" } : Jvm.MethodName) prog_1_method_13_code (5 : Nat) (Option.some Jvm.ClassFile.FieldType.int)) ∈ xT := List.mem_filter.mpr ⟨tks_8 _ (List.mem_of_getElem? (i := 47) rfl), rfl⟩
theorem wm_373 : (Jvm.Cond.methodLink "HomeCalls" (140 : Nat) ({ cls := "HomeCalls$Law", name := "gives", desc := "(III)I" } : Jvm.MethodName)) ∈ xT := List.mem_filter.mpr ⟨tks_9 _ (List.mem_of_getElem? (i := 0) rfl), rfl⟩
theorem wm_374 : (Jvm.Cond.instanceMethod ({ cls := "HomeCalls$Law", name := "gives", desc := "(III)I" } : Jvm.MethodName)) ∈ xT := List.mem_filter.mpr ⟨tks_9 _ (List.mem_of_getElem? (i := 1) rfl), rfl⟩
theorem wm_375 : (Jvm.Cond.selects "HomeCalls$Law" ({ cls := "HomeCalls$Law", name := "gives", desc := "(III)I" } : Jvm.MethodName) ({ cls := "HomeCalls$Law", name := "gives", desc := "(III)I" } : Jvm.MethodName)) ∈ xT := List.mem_filter.mpr ⟨tks_9 _ (List.mem_of_getElem? (i := 2) rfl), rfl⟩
theorem wm_376 : (Jvm.Cond.code ({ cls := "HomeCalls$Law", name := "gives", desc := "(III)I" } : Jvm.MethodName) prog_2_method_3_code (7 : Nat) (Option.some Jvm.ClassFile.FieldType.int)) ∈ xT := List.mem_filter.mpr ⟨tks_9 _ (List.mem_of_getElem? (i := 3) rfl), rfl⟩
theorem wm_377 : (Jvm.Cond.methodLink "HomeCalls$Law" (37 : Nat) ({ cls := "HomeCalls$Law", name := "push", desc := "(I)V" } : Jvm.MethodName)) ∈ xT := List.mem_filter.mpr ⟨tks_9 _ (List.mem_of_getElem? (i := 4) rfl), rfl⟩
theorem wm_379 : (Jvm.Cond.instanceMethod ({ cls := "HomeCalls$Law", name := "push", desc := "(I)V" } : Jvm.MethodName)) ∈ xT := List.mem_filter.mpr ⟨tks_9 _ (List.mem_of_getElem? (i := 6) rfl), rfl⟩
theorem wm_380 : (Jvm.Cond.code ({ cls := "HomeCalls$Law", name := "push", desc := "(I)V" } : Jvm.MethodName) prog_2_method_4_code (2 : Nat) (Option.none : Option Jvm.ClassFile.FieldType)) ∈ xT := List.mem_filter.mpr ⟨tks_9 _ (List.mem_of_getElem? (i := 7) rfl), rfl⟩
theorem wm_381 : (Jvm.Cond.methodLink "HomeCalls$Law" (41 : Nat) ({ cls := "HomeCalls$Law", name := "pop", desc := "()I" } : Jvm.MethodName)) ∈ xT := List.mem_filter.mpr ⟨tks_9 _ (List.mem_of_getElem? (i := 8) rfl), rfl⟩
theorem wm_383 : (Jvm.Cond.instanceMethod ({ cls := "HomeCalls$Law", name := "pop", desc := "()I" } : Jvm.MethodName)) ∈ xT := List.mem_filter.mpr ⟨tks_9 _ (List.mem_of_getElem? (i := 10) rfl), rfl⟩
theorem wm_384 : (Jvm.Cond.code ({ cls := "HomeCalls$Law", name := "pop", desc := "()I" } : Jvm.MethodName) prog_2_method_5_code (1 : Nat) (Option.some Jvm.ClassFile.FieldType.int)) ∈ xT := List.mem_filter.mpr ⟨tks_9 _ (List.mem_of_getElem? (i := 11) rfl), rfl⟩
theorem wm_385 : (Jvm.Cond.methodLink "HomeCalls$Law" (45 : Nat) ({ cls := "HomeCalls$Law", name := "worked", desc := "(III)I" } : Jvm.MethodName)) ∈ xT := List.mem_filter.mpr ⟨tks_9 _ (List.mem_of_getElem? (i := 12) rfl), rfl⟩
theorem wm_386 : (Jvm.Cond.static ({ cls := "HomeCalls$Law", name := "worked", desc := "(III)I" } : Jvm.MethodName)) ∈ xT := List.mem_filter.mpr ⟨tks_9 _ (List.mem_of_getElem? (i := 13) rfl), rfl⟩
theorem wm_387 : (Jvm.Cond.code ({ cls := "HomeCalls$Law", name := "worked", desc := "(III)I" } : Jvm.MethodName) prog_2_method_6_code (3 : Nat) (Option.some Jvm.ClassFile.FieldType.int)) ∈ xT := List.mem_filter.mpr ⟨tks_9 _ (List.mem_of_getElem? (i := 14) rfl), rfl⟩
theorem wm_388 : (Jvm.Cond.methodLink "HomeCalls$Law" (49 : Nat) ({ cls := "java/lang/Math", name := "max", desc := "(II)I" } : Jvm.MethodName)) ∈ xT := List.mem_filter.mpr ⟨tks_9 _ (List.mem_of_getElem? (i := 15) rfl), rfl⟩
theorem wm_389 : (Jvm.Cond.static ({ cls := "java/lang/Math", name := "max", desc := "(II)I" } : Jvm.MethodName)) ∈ xT := List.mem_filter.mpr ⟨tks_9 _ (List.mem_of_getElem? (i := 16) rfl), rfl⟩
theorem wm_390 : (Jvm.Cond.code ({ cls := "java/lang/Math", name := "max", desc := "(II)I" } : Jvm.MethodName) prog_10_method_65_code (2 : Nat) (Option.some Jvm.ClassFile.FieldType.int)) ∈ xT := List.mem_filter.mpr ⟨tks_9 _ (List.mem_of_getElem? (i := 17) rfl), rfl⟩
theorem wm_391 : (Jvm.Cond.methodLink "HomeCallsLaw" (68 : Nat) ({ cls := "HomeCalls", name := "call", desc := "(II)I" } : Jvm.MethodName)) ∈ xT := List.mem_filter.mpr ⟨tks_9 _ (List.mem_of_getElem? (i := 18) rfl), rfl⟩
theorem wm_392 : (Jvm.Cond.instanceMethod ({ cls := "HomeCalls", name := "call", desc := "(II)I" } : Jvm.MethodName)) ∈ xT := List.mem_filter.mpr ⟨tks_9 _ (List.mem_of_getElem? (i := 19) rfl), rfl⟩
theorem wm_393 : (Jvm.Cond.selects "HomeCalls" ({ cls := "HomeCalls", name := "call", desc := "(II)I" } : Jvm.MethodName) ({ cls := "HomeCalls", name := "call", desc := "(II)I" } : Jvm.MethodName)) ∈ xT := List.mem_filter.mpr ⟨tks_9 _ (List.mem_of_getElem? (i := 20) rfl), rfl⟩
theorem wm_394 : (Jvm.Cond.code ({ cls := "HomeCalls", name := "call", desc := "(II)I" } : Jvm.MethodName) prog_1_method_14_code (3 : Nat) (Option.some Jvm.ClassFile.FieldType.int)) ∈ xT := List.mem_filter.mpr ⟨tks_9 _ (List.mem_of_getElem? (i := 21) rfl), rfl⟩
theorem wm_395 : (Jvm.Cond.methodLink "HomeCalls" (144 : Nat) ({ cls := "HomeCalls", name := "isSteps", desc := "(I)Z" } : Jvm.MethodName)) ∈ xT := List.mem_filter.mpr ⟨tks_9 _ (List.mem_of_getElem? (i := 22) rfl), rfl⟩
theorem wm_396 : (Jvm.Cond.static ({ cls := "HomeCalls", name := "isSteps", desc := "(I)Z" } : Jvm.MethodName)) ∈ xT := List.mem_filter.mpr ⟨tks_9 _ (List.mem_of_getElem? (i := 23) rfl), rfl⟩
theorem wm_397 : (Jvm.Cond.code ({ cls := "HomeCalls", name := "isSteps", desc := "(I)Z" } : Jvm.MethodName) prog_1_method_46_code (1 : Nat) (Option.some Jvm.ClassFile.FieldType.boolean)) ∈ xT := List.mem_filter.mpr ⟨tks_9 _ (List.mem_of_getElem? (i := 24) rfl), rfl⟩
theorem wm_398 : (Jvm.Cond.methodLink "HomeCalls" (150 : Nat) ({ cls := "HomeCalls$Street", name := "play", desc := "(II)I" } : Jvm.MethodName)) ∈ xT := List.mem_filter.mpr ⟨tks_9 _ (List.mem_of_getElem? (i := 25) rfl), rfl⟩
theorem wm_399 : (Jvm.Cond.instanceMethod ({ cls := "HomeCalls$Street", name := "play", desc := "(II)I" } : Jvm.MethodName)) ∈ xT := List.mem_filter.mpr ⟨tks_9 _ (List.mem_of_getElem? (i := 26) rfl), rfl⟩
theorem wm_400 : (Jvm.Cond.selects "HomeCalls$Street" ({ cls := "HomeCalls$Street", name := "play", desc := "(II)I" } : Jvm.MethodName) ({ cls := "HomeCalls$Street", name := "play", desc := "(II)I" } : Jvm.MethodName)) ∈ xT := List.mem_filter.mpr ⟨tks_9 _ (List.mem_of_getElem? (i := 27) rfl), rfl⟩
theorem wm_401 : (Jvm.Cond.code ({ cls := "HomeCalls$Street", name := "play", desc := "(II)I" } : Jvm.MethodName) prog_6_method_13_code (6 : Nat) (Option.some Jvm.ClassFile.FieldType.int)) ∈ xT := List.mem_filter.mpr ⟨tks_9 _ (List.mem_of_getElem? (i := 28) rfl), rfl⟩
theorem wm_402 : (Jvm.Cond.methodLink "HomeCalls$Street" (100 : Nat) ({ cls := "HomeCalls$Street", name := "wouldBeHad", desc := "(II)I" } : Jvm.MethodName)) ∈ xT := List.mem_filter.mpr ⟨tks_9 _ (List.mem_of_getElem? (i := 29) rfl), rfl⟩
theorem wm_403 : (Jvm.Cond.instanceMethod ({ cls := "HomeCalls$Street", name := "wouldBeHad", desc := "(II)I" } : Jvm.MethodName)) ∈ xT := List.mem_filter.mpr ⟨tks_9 _ (List.mem_of_getElem? (i := 30) rfl), rfl⟩
theorem wm_404 : (Jvm.Cond.selects "HomeCalls$Street" ({ cls := "HomeCalls$Street", name := "wouldBeHad", desc := "(II)I" } : Jvm.MethodName) ({ cls := "HomeCalls$Street", name := "wouldBeHad", desc := "(II)I" } : Jvm.MethodName)) ∈ xT := List.mem_filter.mpr ⟨tks_9 _ (List.mem_of_getElem? (i := 31) rfl), rfl⟩
theorem wm_405 : (Jvm.Cond.code ({ cls := "HomeCalls$Street", name := "wouldBeHad", desc := "(II)I" } : Jvm.MethodName) prog_6_method_12_code (5 : Nat) (Option.some Jvm.ClassFile.FieldType.int)) ∈ xT := List.mem_filter.mpr ⟨tks_9 _ (List.mem_of_getElem? (i := 32) rfl), rfl⟩
theorem wm_406 : (Jvm.Cond.methodLink "HomeCalls$Street" (107 : Nat) ({ cls := "HomeCalls$Street", name := "endOf", desc := "(III)I" } : Jvm.MethodName)) ∈ xT := List.mem_filter.mpr ⟨tks_9 _ (List.mem_of_getElem? (i := 33) rfl), rfl⟩
theorem wm_407 : (Jvm.Cond.instanceMethod ({ cls := "HomeCalls$Street", name := "endOf", desc := "(III)I" } : Jvm.MethodName)) ∈ xT := List.mem_filter.mpr ⟨tks_9 _ (List.mem_of_getElem? (i := 34) rfl), rfl⟩
theorem wm_408 : (Jvm.Cond.selects "HomeCalls$Street" ({ cls := "HomeCalls$Street", name := "endOf", desc := "(III)I" } : Jvm.MethodName) ({ cls := "HomeCalls$Street", name := "endOf", desc := "(III)I" } : Jvm.MethodName)) ∈ xT := List.mem_filter.mpr ⟨tks_9 _ (List.mem_of_getElem? (i := 35) rfl), rfl⟩
theorem wm_409 : (Jvm.Cond.code ({ cls := "HomeCalls$Street", name := "endOf", desc := "(III)I" } : Jvm.MethodName) prog_6_method_14_code (8 : Nat) (Option.some Jvm.ClassFile.FieldType.int)) ∈ xT := List.mem_filter.mpr ⟨tks_9 _ (List.mem_of_getElem? (i := 36) rfl), rfl⟩
theorem wm_410 : (Jvm.Cond.methodLink "HomeCalls$Street" (114 : Nat) ({ cls := "HomeCalls$Street", name := "goalOf", desc := "(II)I" } : Jvm.MethodName)) ∈ xT := List.mem_filter.mpr ⟨tks_9 _ (List.mem_of_getElem? (i := 37) rfl), rfl⟩
theorem wm_412 : (Jvm.Cond.instanceMethod ({ cls := "HomeCalls$Street", name := "goalOf", desc := "(II)I" } : Jvm.MethodName)) ∈ xT := List.mem_filter.mpr ⟨tks_9 _ (List.mem_of_getElem? (i := 39) rfl), rfl⟩
theorem wm_413 : (Jvm.Cond.code ({ cls := "HomeCalls$Street", name := "goalOf", desc := "(II)I" } : Jvm.MethodName) prog_6_method_15_code (7 : Nat) (Option.some Jvm.ClassFile.FieldType.int)) ∈ xT := List.mem_filter.mpr ⟨tks_9 _ (List.mem_of_getElem? (i := 40) rfl), rfl⟩
theorem wm_414 : (Jvm.Cond.methodLink "HomeCalls$Street" (124 : Nat) ({ cls := "HomeCalls$Street", name := "far", desc := "(I)I" } : Jvm.MethodName)) ∈ xT := List.mem_filter.mpr ⟨tks_9 _ (List.mem_of_getElem? (i := 41) rfl), rfl⟩
theorem wm_415 : (Jvm.Cond.methodLink "HomeCalls$Street" (127 : Nat) ({ cls := "HomeCalls$Street", name := "cellsOff", desc := "(II)I" } : Jvm.MethodName)) ∈ xT := List.mem_filter.mpr ⟨tks_9 _ (List.mem_of_getElem? (i := 42) rfl), rfl⟩
theorem wm_416 : (Jvm.Cond.static ({ cls := "HomeCalls$Street", name := "cellsOff", desc := "(II)I" } : Jvm.MethodName)) ∈ xT := List.mem_filter.mpr ⟨tks_9 _ (List.mem_of_getElem? (i := 43) rfl), rfl⟩
theorem wm_417 : (Jvm.Cond.code ({ cls := "HomeCalls$Street", name := "cellsOff", desc := "(II)I" } : Jvm.MethodName) prog_6_method_16_code (3 : Nat) (Option.some Jvm.ClassFile.FieldType.int)) ∈ xT := List.mem_filter.mpr ⟨tks_9 _ (List.mem_of_getElem? (i := 44) rfl), rfl⟩
theorem wm_418 : (Jvm.Cond.methodLink "HomeCalls$Street" (133 : Nat) ({ cls := "java/lang/Math", name := "abs", desc := "(I)I" } : Jvm.MethodName)) ∈ xT := List.mem_filter.mpr ⟨tks_9 _ (List.mem_of_getElem? (i := 45) rfl), rfl⟩
theorem wm_419 : (Jvm.Cond.static ({ cls := "java/lang/Math", name := "abs", desc := "(I)I" } : Jvm.MethodName)) ∈ xT := List.mem_filter.mpr ⟨tks_9 _ (List.mem_of_getElem? (i := 46) rfl), rfl⟩
theorem wm_420 : (Jvm.Cond.code ({ cls := "java/lang/Math", name := "abs", desc := "(I)I" } : Jvm.MethodName) prog_10_method_59_code (1 : Nat) (Option.some Jvm.ClassFile.FieldType.int)) ∈ xT := List.mem_filter.mpr ⟨tks_9 _ (List.mem_of_getElem? (i := 47) rfl), rfl⟩
theorem wm_421 : (Jvm.Cond.methodLink "HomeCalls$Street" (85 : Nat) ({ cls := "java/lang/Math", name := "min", desc := "(II)I" } : Jvm.MethodName)) ∈ xT := List.mem_filter.mpr ⟨tks_10 _ (List.mem_of_getElem? (i := 0) rfl), rfl⟩
theorem wm_423 : (Jvm.Cond.methodLink "HomeCalls$Street" (130 : Nat) ({ cls := "HomeCalls$Law", name := "gives", desc := "(III)I" } : Jvm.MethodName)) ∈ xT := List.mem_filter.mpr ⟨tks_10 _ (List.mem_of_getElem? (i := 2) rfl), rfl⟩
theorem wm_424 : (Jvm.Cond.methodLink "HomeCalls$Street" (117 : Nat) ({ cls := "java/lang/Math", name := "floorMod", desc := "(II)I" } : Jvm.MethodName)) ∈ xT := List.mem_filter.mpr ⟨tks_10 _ (List.mem_of_getElem? (i := 3) rfl), rfl⟩
theorem wm_425 : (Jvm.Cond.static ({ cls := "java/lang/Math", name := "floorMod", desc := "(II)I" } : Jvm.MethodName)) ∈ xT := List.mem_filter.mpr ⟨tks_10 _ (List.mem_of_getElem? (i := 4) rfl), rfl⟩
theorem wm_426 : (Jvm.Cond.code ({ cls := "java/lang/Math", name := "floorMod", desc := "(II)I" } : Jvm.MethodName) prog_10_method_50_code (3 : Nat) (Option.some Jvm.ClassFile.FieldType.int)) ∈ xT := List.mem_filter.mpr ⟨tks_10 _ (List.mem_of_getElem? (i := 5) rfl), rfl⟩
theorem wm_427 : (Jvm.Cond.methodLink "HomeCalls$Street" (120 : Nat) ({ cls := "HomeCalls$Street", name := "pace", desc := "(I)I" } : Jvm.MethodName)) ∈ xT := List.mem_filter.mpr ⟨tks_10 _ (List.mem_of_getElem? (i := 6) rfl), rfl⟩
theorem wm_428 : (Jvm.Cond.methodLink "HomeCalls$Street" (111 : Nat) ({ cls := "HomeCalls$Street", name := "isHeld", desc := "(II)Z" } : Jvm.MethodName)) ∈ xT := List.mem_filter.mpr ⟨tks_10 _ (List.mem_of_getElem? (i := 7) rfl), rfl⟩
theorem wm_430 : (Jvm.Cond.instanceMethod ({ cls := "HomeCalls$Street", name := "isHeld", desc := "(II)Z" } : Jvm.MethodName)) ∈ xT := List.mem_filter.mpr ⟨tks_10 _ (List.mem_of_getElem? (i := 9) rfl), rfl⟩
theorem wm_431 : (Jvm.Cond.code ({ cls := "HomeCalls$Street", name := "isHeld", desc := "(II)Z" } : Jvm.MethodName) prog_6_method_17_code (4 : Nat) (Option.some Jvm.ClassFile.FieldType.boolean)) ∈ xT := List.mem_filter.mpr ⟨tks_10 _ (List.mem_of_getElem? (i := 10) rfl), rfl⟩
theorem wm_432 : (Jvm.Cond.methodLink "HomeCalls$Street" (136 : Nat) ({ cls := "HomeCalls$Street", name := "crowdIn", desc := "(I)I" } : Jvm.MethodName)) ∈ xT := List.mem_filter.mpr ⟨tks_10 _ (List.mem_of_getElem? (i := 11) rfl), rfl⟩
theorem wm_434 : (Jvm.Cond.instanceMethod ({ cls := "HomeCalls$Street", name := "crowdIn", desc := "(I)I" } : Jvm.MethodName)) ∈ xT := List.mem_filter.mpr ⟨tks_10 _ (List.mem_of_getElem? (i := 13) rfl), rfl⟩
theorem wm_435 : (Jvm.Cond.code ({ cls := "HomeCalls$Street", name := "crowdIn", desc := "(I)I" } : Jvm.MethodName) prog_6_method_18_code (4 : Nat) (Option.some Jvm.ClassFile.FieldType.int)) ∈ xT := List.mem_filter.mpr ⟨tks_10 _ (List.mem_of_getElem? (i := 14) rfl), rfl⟩
theorem wm_436 : (Jvm.Cond.methodLink "HomeCallsLaw" (72 : Nat) ({ cls := "HomeCalls", name := "loose", desc := "(I)I" } : Jvm.MethodName)) ∈ xT := List.mem_filter.mpr ⟨tks_10 _ (List.mem_of_getElem? (i := 15) rfl), rfl⟩
theorem wm_437 : (Jvm.Cond.instanceMethod ({ cls := "HomeCalls", name := "loose", desc := "(I)I" } : Jvm.MethodName)) ∈ xT := List.mem_filter.mpr ⟨tks_10 _ (List.mem_of_getElem? (i := 16) rfl), rfl⟩
theorem wm_438 : (Jvm.Cond.selects "HomeCalls" ({ cls := "HomeCalls", name := "loose", desc := "(I)I" } : Jvm.MethodName) ({ cls := "HomeCalls", name := "loose", desc := "(I)I" } : Jvm.MethodName)) ∈ xT := List.mem_filter.mpr ⟨tks_10 _ (List.mem_of_getElem? (i := 17) rfl), rfl⟩
theorem wm_439 : (Jvm.Cond.code ({ cls := "HomeCalls", name := "loose", desc := "(I)I" } : Jvm.MethodName) prog_1_method_15_code (6 : Nat) (Option.some Jvm.ClassFile.FieldType.int)) ∈ xT := List.mem_filter.mpr ⟨tks_10 _ (List.mem_of_getElem? (i := 18) rfl), rfl⟩
theorem wm_440 : (Jvm.Cond.methodLink "HomeCalls" (153 : Nat) ({ cls := "HomeCalls$Street", name := "draw", desc := "()I" } : Jvm.MethodName)) ∈ xT := List.mem_filter.mpr ⟨tks_10 _ (List.mem_of_getElem? (i := 19) rfl), rfl⟩
theorem wm_441 : (Jvm.Cond.instanceMethod ({ cls := "HomeCalls$Street", name := "draw", desc := "()I" } : Jvm.MethodName)) ∈ xT := List.mem_filter.mpr ⟨tks_10 _ (List.mem_of_getElem? (i := 20) rfl), rfl⟩
theorem wm_442 : (Jvm.Cond.selects "HomeCalls$Street" ({ cls := "HomeCalls$Street", name := "draw", desc := "()I" } : Jvm.MethodName) ({ cls := "HomeCalls$Street", name := "draw", desc := "()I" } : Jvm.MethodName)) ∈ xT := List.mem_filter.mpr ⟨tks_10 _ (List.mem_of_getElem? (i := 21) rfl), rfl⟩
theorem wm_443 : (Jvm.Cond.code ({ cls := "HomeCalls$Street", name := "draw", desc := "()I" } : Jvm.MethodName) prog_6_method_8_code (1 : Nat) (Option.some Jvm.ClassFile.FieldType.int)) ∈ xT := List.mem_filter.mpr ⟨tks_10 _ (List.mem_of_getElem? (i := 22) rfl), rfl⟩
theorem wm_444 : (Jvm.Cond.constant "HomeCalls$Street" (99 : Nat) (1103515245 : Int32)) ∈ xT := List.mem_filter.mpr ⟨tks_10 _ (List.mem_of_getElem? (i := 23) rfl), rfl⟩
theorem wm_445 : (Jvm.Cond.methodLink "HomeCalls" (157 : Nat) ({ cls := "java/lang/Integer", name := "bitCount", desc := "(I)I" } : Jvm.MethodName)) ∈ xT := List.mem_filter.mpr ⟨tks_10 _ (List.mem_of_getElem? (i := 24) rfl), rfl⟩
theorem wm_446 : (Jvm.Cond.static ({ cls := "java/lang/Integer", name := "bitCount", desc := "(I)I" } : Jvm.MethodName)) ∈ xT := List.mem_filter.mpr ⟨tks_10 _ (List.mem_of_getElem? (i := 25) rfl), rfl⟩
theorem wm_447 : (Jvm.Cond.code ({ cls := "java/lang/Integer", name := "bitCount", desc := "(I)I" } : Jvm.MethodName) prog_9_method_49_code (1 : Nat) (Option.some Jvm.ClassFile.FieldType.int)) ∈ xT := List.mem_filter.mpr ⟨tks_10 _ (List.mem_of_getElem? (i := 26) rfl), rfl⟩
theorem wm_448 : (Jvm.Cond.constant "java/lang/Integer" (265 : Nat) (1431655765 : Int32)) ∈ xT := List.mem_filter.mpr ⟨tks_10 _ (List.mem_of_getElem? (i := 27) rfl), rfl⟩
theorem wm_449 : (Jvm.Cond.constant "java/lang/Integer" (266 : Nat) (858993459 : Int32)) ∈ xT := List.mem_filter.mpr ⟨tks_10 _ (List.mem_of_getElem? (i := 28) rfl), rfl⟩
theorem wm_450 : (Jvm.Cond.constant "java/lang/Integer" (267 : Nat) (252645135 : Int32)) ∈ xT := List.mem_filter.mpr ⟨tks_10 _ (List.mem_of_getElem? (i := 29) rfl), rfl⟩
theorem wm_451 : (Jvm.Cond.methodLink "HomeCallsLaw" (76 : Nat) ({ cls := "HomeCalls", name := "hadBy", desc := "(II)I" } : Jvm.MethodName)) ∈ xT := List.mem_filter.mpr ⟨tks_10 _ (List.mem_of_getElem? (i := 30) rfl), rfl⟩
theorem wm_452 : (Jvm.Cond.instanceMethod ({ cls := "HomeCalls", name := "hadBy", desc := "(II)I" } : Jvm.MethodName)) ∈ xT := List.mem_filter.mpr ⟨tks_10 _ (List.mem_of_getElem? (i := 31) rfl), rfl⟩
theorem wm_453 : (Jvm.Cond.selects "HomeCalls" ({ cls := "HomeCalls", name := "hadBy", desc := "(II)I" } : Jvm.MethodName) ({ cls := "HomeCalls", name := "hadBy", desc := "(II)I" } : Jvm.MethodName)) ∈ xT := List.mem_filter.mpr ⟨tks_10 _ (List.mem_of_getElem? (i := 32) rfl), rfl⟩
theorem wm_454 : (Jvm.Cond.code ({ cls := "HomeCalls", name := "hadBy", desc := "(II)I" } : Jvm.MethodName) prog_1_method_16_code (3 : Nat) (Option.some Jvm.ClassFile.FieldType.int)) ∈ xT := List.mem_filter.mpr ⟨tks_10 _ (List.mem_of_getElem? (i := 33) rfl), rfl⟩
theorem wm_455 : (Jvm.Cond.methodLink "HomeCalls" (162 : Nat) ({ cls := "HomeCalls$Street", name := "wouldBeHad", desc := "(II)I" } : Jvm.MethodName)) ∈ xT := List.mem_filter.mpr ⟨tks_10 _ (List.mem_of_getElem? (i := 34) rfl), rfl⟩
theorem wm_456 : (Jvm.Cond.methodLink "HomeCallsLaw" (80 : Nat) ({ cls := "HomeCalls", name := "runsTo", desc := "(III)I" } : Jvm.MethodName)) ∈ xT := List.mem_filter.mpr ⟨tks_10 _ (List.mem_of_getElem? (i := 35) rfl), rfl⟩
theorem wm_457 : (Jvm.Cond.instanceMethod ({ cls := "HomeCalls", name := "runsTo", desc := "(III)I" } : Jvm.MethodName)) ∈ xT := List.mem_filter.mpr ⟨tks_10 _ (List.mem_of_getElem? (i := 36) rfl), rfl⟩
theorem wm_458 : (Jvm.Cond.selects "HomeCalls" ({ cls := "HomeCalls", name := "runsTo", desc := "(III)I" } : Jvm.MethodName) ({ cls := "HomeCalls", name := "runsTo", desc := "(III)I" } : Jvm.MethodName)) ∈ xT := List.mem_filter.mpr ⟨tks_10 _ (List.mem_of_getElem? (i := 37) rfl), rfl⟩
theorem wm_459 : (Jvm.Cond.code ({ cls := "HomeCalls", name := "runsTo", desc := "(III)I" } : Jvm.MethodName) prog_1_method_17_code (4 : Nat) (Option.some Jvm.ClassFile.FieldType.int)) ∈ xT := List.mem_filter.mpr ⟨tks_10 _ (List.mem_of_getElem? (i := 38) rfl), rfl⟩
theorem wm_460 : (Jvm.Cond.methodLink "HomeCalls" (165 : Nat) ({ cls := "HomeCalls$Street", name := "endOf", desc := "(III)I" } : Jvm.MethodName)) ∈ xT := List.mem_filter.mpr ⟨tks_10 _ (List.mem_of_getElem? (i := 39) rfl), rfl⟩
theorem wm_461 : (Jvm.Cond.methodLink "HomeCallsLaw" (84 : Nat) ({ cls := "HomeCalls", name := "worst", desc := "(II)I" } : Jvm.MethodName)) ∈ xT := List.mem_filter.mpr ⟨tks_10 _ (List.mem_of_getElem? (i := 40) rfl), rfl⟩
theorem wm_462 : (Jvm.Cond.instanceMethod ({ cls := "HomeCalls", name := "worst", desc := "(II)I" } : Jvm.MethodName)) ∈ xT := List.mem_filter.mpr ⟨tks_10 _ (List.mem_of_getElem? (i := 41) rfl), rfl⟩
theorem wm_463 : (Jvm.Cond.selects "HomeCalls" ({ cls := "HomeCalls", name := "worst", desc := "(II)I" } : Jvm.MethodName) ({ cls := "HomeCalls", name := "worst", desc := "(II)I" } : Jvm.MethodName)) ∈ xT := List.mem_filter.mpr ⟨tks_10 _ (List.mem_of_getElem? (i := 42) rfl), rfl⟩
theorem wm_464 : (Jvm.Cond.code ({ cls := "HomeCalls", name := "worst", desc := "(II)I" } : Jvm.MethodName) prog_1_method_18_code (3 : Nat) (Option.some Jvm.ClassFile.FieldType.int)) ∈ xT := List.mem_filter.mpr ⟨tks_10 _ (List.mem_of_getElem? (i := 43) rfl), rfl⟩
theorem wm_465 : (Jvm.Cond.methodLink "HomeCalls" (168 : Nat) ({ cls := "HomeCalls", name := "markFor", desc := "(III)I" } : Jvm.MethodName)) ∈ xT := List.mem_filter.mpr ⟨tks_10 _ (List.mem_of_getElem? (i := 44) rfl), rfl⟩
theorem wm_467 : (Jvm.Cond.instanceMethod ({ cls := "HomeCalls", name := "markFor", desc := "(III)I" } : Jvm.MethodName)) ∈ xT := List.mem_filter.mpr ⟨tks_10 _ (List.mem_of_getElem? (i := 46) rfl), rfl⟩
theorem wm_468 : (Jvm.Cond.code ({ cls := "HomeCalls", name := "markFor", desc := "(III)I" } : Jvm.MethodName) prog_1_method_49_code (8 : Nat) (Option.some Jvm.ClassFile.FieldType.int)) ∈ xT := List.mem_filter.mpr ⟨tks_10 _ (List.mem_of_getElem? (i := 47) rfl), rfl⟩
theorem wm_469 : (Jvm.Cond.methodLink "HomeCalls" (245 : Nat) ({ cls := "HomeCalls", name := "scoreFor", desc := "(II)I" } : Jvm.MethodName)) ∈ xT := List.mem_filter.mpr ⟨tks_11 _ (List.mem_of_getElem? (i := 0) rfl), rfl⟩
theorem wm_471 : (Jvm.Cond.instanceMethod ({ cls := "HomeCalls", name := "scoreFor", desc := "(II)I" } : Jvm.MethodName)) ∈ xT := List.mem_filter.mpr ⟨tks_11 _ (List.mem_of_getElem? (i := 2) rfl), rfl⟩
theorem wm_472 : (Jvm.Cond.code ({ cls := "HomeCalls", name := "scoreFor", desc := "(II)I" } : Jvm.MethodName) prog_1_method_50_code (3 : Nat) (Option.some Jvm.ClassFile.FieldType.int)) ∈ xT := List.mem_filter.mpr ⟨tks_11 _ (List.mem_of_getElem? (i := 3) rfl), rfl⟩
theorem wm_473 : (Jvm.Cond.methodLink "HomeCalls" (251 : Nat) ({ cls := "HomeCalls$Street", name := "runners", desc := "()I" } : Jvm.MethodName)) ∈ xT := List.mem_filter.mpr ⟨tks_11 _ (List.mem_of_getElem? (i := 4) rfl), rfl⟩
theorem wm_474 : (Jvm.Cond.instanceMethod ({ cls := "HomeCalls$Street", name := "runners", desc := "()I" } : Jvm.MethodName)) ∈ xT := List.mem_filter.mpr ⟨tks_11 _ (List.mem_of_getElem? (i := 5) rfl), rfl⟩
theorem wm_475 : (Jvm.Cond.selects "HomeCalls$Street" ({ cls := "HomeCalls$Street", name := "runners", desc := "()I" } : Jvm.MethodName) ({ cls := "HomeCalls$Street", name := "runners", desc := "()I" } : Jvm.MethodName)) ∈ xT := List.mem_filter.mpr ⟨tks_11 _ (List.mem_of_getElem? (i := 6) rfl), rfl⟩
theorem wm_476 : (Jvm.Cond.code ({ cls := "HomeCalls$Street", name := "runners", desc := "()I" } : Jvm.MethodName) prog_6_method_19_code (1 : Nat) (Option.some Jvm.ClassFile.FieldType.int)) ∈ xT := List.mem_filter.mpr ⟨tks_11 _ (List.mem_of_getElem? (i := 7) rfl), rfl⟩
theorem wm_477 : (Jvm.Cond.methodLink "HomeCalls" (248 : Nat) ({ cls := "java/lang/Math", name := "abs", desc := "(I)I" } : Jvm.MethodName)) ∈ xT := List.mem_filter.mpr ⟨tks_11 _ (List.mem_of_getElem? (i := 8) rfl), rfl⟩
theorem wm_478 : (Jvm.Cond.methodLink "HomeCallsLaw" (88 : Nat) ({ cls := "HomeCalls", name := "best", desc := "(II)I" } : Jvm.MethodName)) ∈ xT := List.mem_filter.mpr ⟨tks_11 _ (List.mem_of_getElem? (i := 9) rfl), rfl⟩
theorem wm_479 : (Jvm.Cond.instanceMethod ({ cls := "HomeCalls", name := "best", desc := "(II)I" } : Jvm.MethodName)) ∈ xT := List.mem_filter.mpr ⟨tks_11 _ (List.mem_of_getElem? (i := 10) rfl), rfl⟩
theorem wm_480 : (Jvm.Cond.selects "HomeCalls" ({ cls := "HomeCalls", name := "best", desc := "(II)I" } : Jvm.MethodName) ({ cls := "HomeCalls", name := "best", desc := "(II)I" } : Jvm.MethodName)) ∈ xT := List.mem_filter.mpr ⟨tks_11 _ (List.mem_of_getElem? (i := 11) rfl), rfl⟩
theorem wm_481 : (Jvm.Cond.code ({ cls := "HomeCalls", name := "best", desc := "(II)I" } : Jvm.MethodName) prog_1_method_19_code (3 : Nat) (Option.some Jvm.ClassFile.FieldType.int)) ∈ xT := List.mem_filter.mpr ⟨tks_11 _ (List.mem_of_getElem? (i := 12) rfl), rfl⟩
theorem wm_482 : (Jvm.Cond.methodLink "HomeCallsLaw" (92 : Nat) ({ cls := "HomeCalls", name := "stand", desc := "(III)I" } : Jvm.MethodName)) ∈ xT := List.mem_filter.mpr ⟨tks_11 _ (List.mem_of_getElem? (i := 13) rfl), rfl⟩
theorem wm_483 : (Jvm.Cond.instanceMethod ({ cls := "HomeCalls", name := "stand", desc := "(III)I" } : Jvm.MethodName)) ∈ xT := List.mem_filter.mpr ⟨tks_11 _ (List.mem_of_getElem? (i := 14) rfl), rfl⟩
theorem wm_484 : (Jvm.Cond.selects "HomeCalls" ({ cls := "HomeCalls", name := "stand", desc := "(III)I" } : Jvm.MethodName) ({ cls := "HomeCalls", name := "stand", desc := "(III)I" } : Jvm.MethodName)) ∈ xT := List.mem_filter.mpr ⟨tks_11 _ (List.mem_of_getElem? (i := 15) rfl), rfl⟩
theorem wm_485 : (Jvm.Cond.code ({ cls := "HomeCalls", name := "stand", desc := "(III)I" } : Jvm.MethodName) prog_1_method_20_code (8 : Nat) (Option.some Jvm.ClassFile.FieldType.int)) ∈ xT := List.mem_filter.mpr ⟨tks_11 _ (List.mem_of_getElem? (i := 16) rfl), rfl⟩
theorem wm_486 : (Jvm.Cond.methodLink "HomeCalls" (171 : Nat) ({ cls := "HomeCalls$Street", name := "copy", desc := "(LHomeCalls$Street;)V" } : Jvm.MethodName)) ∈ xT := List.mem_filter.mpr ⟨tks_11 _ (List.mem_of_getElem? (i := 17) rfl), rfl⟩
theorem wm_487 : (Jvm.Cond.instanceMethod ({ cls := "HomeCalls$Street", name := "copy", desc := "(LHomeCalls$Street;)V" } : Jvm.MethodName)) ∈ xT := List.mem_filter.mpr ⟨tks_11 _ (List.mem_of_getElem? (i := 18) rfl), rfl⟩
theorem wm_488 : (Jvm.Cond.selects "HomeCalls$Street" ({ cls := "HomeCalls$Street", name := "copy", desc := "(LHomeCalls$Street;)V" } : Jvm.MethodName) ({ cls := "HomeCalls$Street", name := "copy", desc := "(LHomeCalls$Street;)V" } : Jvm.MethodName)) ∈ xT := List.mem_filter.mpr ⟨tks_11 _ (List.mem_of_getElem? (i := 19) rfl), rfl⟩
theorem wm_489 : (Jvm.Cond.code ({ cls := "HomeCalls$Street", name := "copy", desc := "(LHomeCalls$Street;)V" } : Jvm.MethodName) prog_6_method_2_code (3 : Nat) (Option.none : Option Jvm.ClassFile.FieldType)) ∈ xT := List.mem_filter.mpr ⟨tks_11 _ (List.mem_of_getElem? (i := 20) rfl), rfl⟩
theorem wm_490 : (Jvm.Cond.methodLink "HomeCalls$Street" (56 : Nat) ({ cls := "HomeCalls$Street", name := "copyRow", desc := "([I[I)V" } : Jvm.MethodName)) ∈ xT := List.mem_filter.mpr ⟨tks_11 _ (List.mem_of_getElem? (i := 21) rfl), rfl⟩
theorem wm_491 : (Jvm.Cond.static ({ cls := "HomeCalls$Street", name := "copyRow", desc := "([I[I)V" } : Jvm.MethodName)) ∈ xT := List.mem_filter.mpr ⟨tks_11 _ (List.mem_of_getElem? (i := 22) rfl), rfl⟩
theorem wm_492 : (Jvm.Cond.code ({ cls := "HomeCalls$Street", name := "copyRow", desc := "([I[I)V" } : Jvm.MethodName) prog_6_method_3_code (2 : Nat) (Option.none : Option Jvm.ClassFile.FieldType)) ∈ xT := List.mem_filter.mpr ⟨tks_11 _ (List.mem_of_getElem? (i := 23) rfl), rfl⟩
theorem wm_493 : (Jvm.Cond.methodLink "HomeCalls$Street" (91 : Nat) ({ cls := "java/lang/System", name := "arraycopy", desc := "(Ljava/lang/Object;ILjava/lang/Object;II)V" } : Jvm.MethodName)) ∈ xT := List.mem_filter.mpr ⟨tks_11 _ (List.mem_of_getElem? (i := 24) rfl), rfl⟩
theorem wm_494 : (Jvm.Cond.methodLink "HomeCalls$Street" (75 : Nat) ({ cls := "HomeCalls$Law", name := "adopt", desc := "([II)V" } : Jvm.MethodName)) ∈ xT := List.mem_filter.mpr ⟨tks_11 _ (List.mem_of_getElem? (i := 25) rfl), rfl⟩
theorem wm_495 : (Jvm.Cond.methodLink "HomeCalls" (175 : Nat) ({ cls := "HomeCalls$Street", name := "marksThatHave", desc := "(II)I" } : Jvm.MethodName)) ∈ xT := List.mem_filter.mpr ⟨tks_11 _ (List.mem_of_getElem? (i := 26) rfl), rfl⟩
theorem wm_496 : (Jvm.Cond.instanceMethod ({ cls := "HomeCalls$Street", name := "marksThatHave", desc := "(II)I" } : Jvm.MethodName)) ∈ xT := List.mem_filter.mpr ⟨tks_11 _ (List.mem_of_getElem? (i := 27) rfl), rfl⟩
theorem wm_497 : (Jvm.Cond.selects "HomeCalls$Street" ({ cls := "HomeCalls$Street", name := "marksThatHave", desc := "(II)I" } : Jvm.MethodName) ({ cls := "HomeCalls$Street", name := "marksThatHave", desc := "(II)I" } : Jvm.MethodName)) ∈ xT := List.mem_filter.mpr ⟨tks_11 _ (List.mem_of_getElem? (i := 28) rfl), rfl⟩
theorem wm_498 : (Jvm.Cond.code ({ cls := "HomeCalls$Street", name := "marksThatHave", desc := "(II)I" } : Jvm.MethodName) prog_6_method_11_code (5 : Nat) (Option.some Jvm.ClassFile.FieldType.int)) ∈ xT := List.mem_filter.mpr ⟨tks_11 _ (List.mem_of_getElem? (i := 29) rfl), rfl⟩
theorem wm_499 : (Jvm.Cond.methodLink "HomeCallsLaw" (96 : Nat) ({ cls := "HomeCalls", name := "steps", desc := "(I)I" } : Jvm.MethodName)) ∈ xT := List.mem_filter.mpr ⟨tks_11 _ (List.mem_of_getElem? (i := 30) rfl), rfl⟩
theorem wm_500 : (Jvm.Cond.instanceMethod ({ cls := "HomeCalls", name := "steps", desc := "(I)I" } : Jvm.MethodName)) ∈ xT := List.mem_filter.mpr ⟨tks_11 _ (List.mem_of_getElem? (i := 31) rfl), rfl⟩
theorem wm_501 : (Jvm.Cond.selects "HomeCalls" ({ cls := "HomeCalls", name := "steps", desc := "(I)I" } : Jvm.MethodName) ({ cls := "HomeCalls", name := "steps", desc := "(I)I" } : Jvm.MethodName)) ∈ xT := List.mem_filter.mpr ⟨tks_11 _ (List.mem_of_getElem? (i := 32) rfl), rfl⟩
theorem wm_502 : (Jvm.Cond.code ({ cls := "HomeCalls", name := "steps", desc := "(I)I" } : Jvm.MethodName) prog_1_method_21_code (3 : Nat) (Option.some Jvm.ClassFile.FieldType.int)) ∈ xT := List.mem_filter.mpr ⟨tks_11 _ (List.mem_of_getElem? (i := 33) rfl), rfl⟩
theorem wm_503 : (Jvm.Cond.methodLink "HomeCallsLaw" (100 : Nat) ({ cls := "HomeCalls", name := "take", desc := "(III)I" } : Jvm.MethodName)) ∈ xT := List.mem_filter.mpr ⟨tks_11 _ (List.mem_of_getElem? (i := 34) rfl), rfl⟩
theorem wm_504 : (Jvm.Cond.instanceMethod ({ cls := "HomeCalls", name := "take", desc := "(III)I" } : Jvm.MethodName)) ∈ xT := List.mem_filter.mpr ⟨tks_11 _ (List.mem_of_getElem? (i := 35) rfl), rfl⟩
theorem wm_505 : (Jvm.Cond.selects "HomeCalls" ({ cls := "HomeCalls", name := "take", desc := "(III)I" } : Jvm.MethodName) ({ cls := "HomeCalls", name := "take", desc := "(III)I" } : Jvm.MethodName)) ∈ xT := List.mem_filter.mpr ⟨tks_11 _ (List.mem_of_getElem? (i := 36) rfl), rfl⟩
theorem wm_506 : (Jvm.Cond.code ({ cls := "HomeCalls", name := "take", desc := "(III)I" } : Jvm.MethodName) prog_1_method_22_code (8 : Nat) (Option.some Jvm.ClassFile.FieldType.int)) ∈ xT := List.mem_filter.mpr ⟨tks_11 _ (List.mem_of_getElem? (i := 37) rfl), rfl⟩
theorem wm_507 : (Jvm.Cond.methodLink "HomeCalls" (178 : Nat) ({ cls := "HomeCalls$Street", name := "allHave", desc := "(II)Z" } : Jvm.MethodName)) ∈ xT := List.mem_filter.mpr ⟨tks_11 _ (List.mem_of_getElem? (i := 38) rfl), rfl⟩
theorem wm_508 : (Jvm.Cond.instanceMethod ({ cls := "HomeCalls$Street", name := "allHave", desc := "(II)Z" } : Jvm.MethodName)) ∈ xT := List.mem_filter.mpr ⟨tks_11 _ (List.mem_of_getElem? (i := 39) rfl), rfl⟩
theorem wm_509 : (Jvm.Cond.selects "HomeCalls$Street" ({ cls := "HomeCalls$Street", name := "allHave", desc := "(II)Z" } : Jvm.MethodName) ({ cls := "HomeCalls$Street", name := "allHave", desc := "(II)Z" } : Jvm.MethodName)) ∈ xT := List.mem_filter.mpr ⟨tks_11 _ (List.mem_of_getElem? (i := 40) rfl), rfl⟩
theorem wm_510 : (Jvm.Cond.code ({ cls := "HomeCalls$Street", name := "allHave", desc := "(II)Z" } : Jvm.MethodName) prog_6_method_20_code (4 : Nat) (Option.some Jvm.ClassFile.FieldType.boolean)) ∈ xT := List.mem_filter.mpr ⟨tks_11 _ (List.mem_of_getElem? (i := 41) rfl), rfl⟩
theorem wm_511 : (Jvm.Cond.methodLink "HomeCalls" (181 : Nat) ({ cls := "HomeCalls", name := "hadWithout", desc := "(IIII)Z" } : Jvm.MethodName)) ∈ xT := List.mem_filter.mpr ⟨tks_11 _ (List.mem_of_getElem? (i := 42) rfl), rfl⟩
theorem wm_513 : (Jvm.Cond.instanceMethod ({ cls := "HomeCalls", name := "hadWithout", desc := "(IIII)Z" } : Jvm.MethodName)) ∈ xT := List.mem_filter.mpr ⟨tks_11 _ (List.mem_of_getElem? (i := 44) rfl), rfl⟩
theorem wm_514 : (Jvm.Cond.code ({ cls := "HomeCalls", name := "hadWithout", desc := "(IIII)Z" } : Jvm.MethodName) prog_1_method_51_code (6 : Nat) (Option.some Jvm.ClassFile.FieldType.boolean)) ∈ xT := List.mem_filter.mpr ⟨tks_11 _ (List.mem_of_getElem? (i := 45) rfl), rfl⟩
theorem wm_515 : (Jvm.Cond.methodLink "HomeCallsLaw" (104 : Nat) ({ cls := "HomeCalls", name := "lay", desc := "(III)I" } : Jvm.MethodName)) ∈ xT := List.mem_filter.mpr ⟨tks_11 _ (List.mem_of_getElem? (i := 46) rfl), rfl⟩
theorem wm_516 : (Jvm.Cond.instanceMethod ({ cls := "HomeCalls", name := "lay", desc := "(III)I" } : Jvm.MethodName)) ∈ xT := List.mem_filter.mpr ⟨tks_11 _ (List.mem_of_getElem? (i := 47) rfl), rfl⟩
theorem wm_517 : (Jvm.Cond.selects "HomeCalls" ({ cls := "HomeCalls", name := "lay", desc := "(III)I" } : Jvm.MethodName) ({ cls := "HomeCalls", name := "lay", desc := "(III)I" } : Jvm.MethodName)) ∈ xT := List.mem_filter.mpr ⟨tks_12 _ (List.mem_of_getElem? (i := 0) rfl), rfl⟩
theorem wm_518 : (Jvm.Cond.code ({ cls := "HomeCalls", name := "lay", desc := "(III)I" } : Jvm.MethodName) prog_1_method_23_code (9 : Nat) (Option.some Jvm.ClassFile.FieldType.int)) ∈ xT := List.mem_filter.mpr ⟨tks_12 _ (List.mem_of_getElem? (i := 1) rfl), rfl⟩
theorem wm_519 : (Jvm.Cond.methodLink "HomeCallsLaw" (108 : Nat) ({ cls := "HomeCalls", name := "called", desc := "(II)I" } : Jvm.MethodName)) ∈ xT := List.mem_filter.mpr ⟨tks_12 _ (List.mem_of_getElem? (i := 2) rfl), rfl⟩
theorem wm_520 : (Jvm.Cond.instanceMethod ({ cls := "HomeCalls", name := "called", desc := "(II)I" } : Jvm.MethodName)) ∈ xT := List.mem_filter.mpr ⟨tks_12 _ (List.mem_of_getElem? (i := 3) rfl), rfl⟩
theorem wm_521 : (Jvm.Cond.selects "HomeCalls" ({ cls := "HomeCalls", name := "called", desc := "(II)I" } : Jvm.MethodName) ({ cls := "HomeCalls", name := "called", desc := "(II)I" } : Jvm.MethodName)) ∈ xT := List.mem_filter.mpr ⟨tks_12 _ (List.mem_of_getElem? (i := 4) rfl), rfl⟩
theorem wm_522 : (Jvm.Cond.code ({ cls := "HomeCalls", name := "called", desc := "(II)I" } : Jvm.MethodName) prog_1_method_24_code (5 : Nat) (Option.some Jvm.ClassFile.FieldType.int)) ∈ xT := List.mem_filter.mpr ⟨tks_12 _ (List.mem_of_getElem? (i := 5) rfl), rfl⟩
theorem wm_523 : (Jvm.Cond.methodLink "HomeCallsLaw" (112 : Nat) ({ cls := "HomeCalls", name := "parts", desc := "(II)I" } : Jvm.MethodName)) ∈ xT := List.mem_filter.mpr ⟨tks_12 _ (List.mem_of_getElem? (i := 6) rfl), rfl⟩
theorem wm_524 : (Jvm.Cond.instanceMethod ({ cls := "HomeCalls", name := "parts", desc := "(II)I" } : Jvm.MethodName)) ∈ xT := List.mem_filter.mpr ⟨tks_12 _ (List.mem_of_getElem? (i := 7) rfl), rfl⟩
theorem wm_525 : (Jvm.Cond.selects "HomeCalls" ({ cls := "HomeCalls", name := "parts", desc := "(II)I" } : Jvm.MethodName) ({ cls := "HomeCalls", name := "parts", desc := "(II)I" } : Jvm.MethodName)) ∈ xT := List.mem_filter.mpr ⟨tks_12 _ (List.mem_of_getElem? (i := 8) rfl), rfl⟩
theorem wm_526 : (Jvm.Cond.code ({ cls := "HomeCalls", name := "parts", desc := "(II)I" } : Jvm.MethodName) prog_1_method_25_code (3 : Nat) (Option.some Jvm.ClassFile.FieldType.int)) ∈ xT := List.mem_filter.mpr ⟨tks_12 _ (List.mem_of_getElem? (i := 9) rfl), rfl⟩
theorem wm_527 : (Jvm.Cond.methodLink "HomeCallsLaw" (116 : Nat) ({ cls := "HomeCalls", name := "never", desc := "(I)I" } : Jvm.MethodName)) ∈ xT := List.mem_filter.mpr ⟨tks_12 _ (List.mem_of_getElem? (i := 10) rfl), rfl⟩
theorem wm_528 : (Jvm.Cond.instanceMethod ({ cls := "HomeCalls", name := "never", desc := "(I)I" } : Jvm.MethodName)) ∈ xT := List.mem_filter.mpr ⟨tks_12 _ (List.mem_of_getElem? (i := 11) rfl), rfl⟩
theorem wm_529 : (Jvm.Cond.selects "HomeCalls" ({ cls := "HomeCalls", name := "never", desc := "(I)I" } : Jvm.MethodName) ({ cls := "HomeCalls", name := "never", desc := "(I)I" } : Jvm.MethodName)) ∈ xT := List.mem_filter.mpr ⟨tks_12 _ (List.mem_of_getElem? (i := 12) rfl), rfl⟩
theorem wm_530 : (Jvm.Cond.code ({ cls := "HomeCalls", name := "never", desc := "(I)I" } : Jvm.MethodName) prog_1_method_26_code (4 : Nat) (Option.some Jvm.ClassFile.FieldType.int)) ∈ xT := List.mem_filter.mpr ⟨tks_12 _ (List.mem_of_getElem? (i := 13) rfl), rfl⟩
theorem wm_531 : (Jvm.Cond.methodLink "HomeCallsLaw" (120 : Nat) ({ cls := "HomeCalls", name := "series", desc := "(III)I" } : Jvm.MethodName)) ∈ xT := List.mem_filter.mpr ⟨tks_12 _ (List.mem_of_getElem? (i := 14) rfl), rfl⟩
theorem wm_532 : (Jvm.Cond.instanceMethod ({ cls := "HomeCalls", name := "series", desc := "(III)I" } : Jvm.MethodName)) ∈ xT := List.mem_filter.mpr ⟨tks_12 _ (List.mem_of_getElem? (i := 15) rfl), rfl⟩
theorem wm_533 : (Jvm.Cond.selects "HomeCalls" ({ cls := "HomeCalls", name := "series", desc := "(III)I" } : Jvm.MethodName) ({ cls := "HomeCalls", name := "series", desc := "(III)I" } : Jvm.MethodName)) ∈ xT := List.mem_filter.mpr ⟨tks_12 _ (List.mem_of_getElem? (i := 16) rfl), rfl⟩
theorem wm_534 : (Jvm.Cond.code ({ cls := "HomeCalls", name := "series", desc := "(III)I" } : Jvm.MethodName) prog_1_method_27_code (9 : Nat) (Option.some Jvm.ClassFile.FieldType.int)) ∈ xT := List.mem_filter.mpr ⟨tks_12 _ (List.mem_of_getElem? (i := 17) rfl), rfl⟩
theorem wm_535 : (Jvm.Cond.methodLink "HomeCalls" (188 : Nat) ({ cls := "HomeCalls$Sheet", name := "isMissing", desc := "()Z" } : Jvm.MethodName)) ∈ xT := List.mem_filter.mpr ⟨tks_12 _ (List.mem_of_getElem? (i := 18) rfl), rfl⟩
theorem wm_536 : (Jvm.Cond.instanceMethod ({ cls := "HomeCalls$Sheet", name := "isMissing", desc := "()Z" } : Jvm.MethodName)) ∈ xT := List.mem_filter.mpr ⟨tks_12 _ (List.mem_of_getElem? (i := 19) rfl), rfl⟩
theorem wm_537 : (Jvm.Cond.selects "HomeCalls$Sheet" ({ cls := "HomeCalls$Sheet", name := "isMissing", desc := "()Z" } : Jvm.MethodName) ({ cls := "HomeCalls$Sheet", name := "isMissing", desc := "()Z" } : Jvm.MethodName)) ∈ xT := List.mem_filter.mpr ⟨tks_12 _ (List.mem_of_getElem? (i := 20) rfl), rfl⟩
theorem wm_538 : (Jvm.Cond.code ({ cls := "HomeCalls$Sheet", name := "isMissing", desc := "()Z" } : Jvm.MethodName) prog_4_method_2_code (1 : Nat) (Option.some Jvm.ClassFile.FieldType.boolean)) ∈ xT := List.mem_filter.mpr ⟨tks_12 _ (List.mem_of_getElem? (i := 21) rfl), rfl⟩
theorem wm_539 : (Jvm.Cond.methodLink "HomeCallsLaw" (124 : Nat) ({ cls := "HomeCalls", name := "odds", desc := "(III)I" } : Jvm.MethodName)) ∈ xT := List.mem_filter.mpr ⟨tks_12 _ (List.mem_of_getElem? (i := 22) rfl), rfl⟩
theorem wm_540 : (Jvm.Cond.instanceMethod ({ cls := "HomeCalls", name := "odds", desc := "(III)I" } : Jvm.MethodName)) ∈ xT := List.mem_filter.mpr ⟨tks_12 _ (List.mem_of_getElem? (i := 23) rfl), rfl⟩
theorem wm_541 : (Jvm.Cond.selects "HomeCalls" ({ cls := "HomeCalls", name := "odds", desc := "(III)I" } : Jvm.MethodName) ({ cls := "HomeCalls", name := "odds", desc := "(III)I" } : Jvm.MethodName)) ∈ xT := List.mem_filter.mpr ⟨tks_12 _ (List.mem_of_getElem? (i := 24) rfl), rfl⟩
theorem wm_542 : (Jvm.Cond.code ({ cls := "HomeCalls", name := "odds", desc := "(III)I" } : Jvm.MethodName) prog_1_method_28_code (7 : Nat) (Option.some Jvm.ClassFile.FieldType.int)) ∈ xT := List.mem_filter.mpr ⟨tks_12 _ (List.mem_of_getElem? (i := 25) rfl), rfl⟩
theorem wm_543 : (Jvm.Cond.methodLink "HomeCallsLaw" (128 : Nat) ({ cls := "HomeCalls", name := "seed", desc := "(I)I" } : Jvm.MethodName)) ∈ xT := List.mem_filter.mpr ⟨tks_12 _ (List.mem_of_getElem? (i := 26) rfl), rfl⟩
theorem wm_544 : (Jvm.Cond.instanceMethod ({ cls := "HomeCalls", name := "seed", desc := "(I)I" } : Jvm.MethodName)) ∈ xT := List.mem_filter.mpr ⟨tks_12 _ (List.mem_of_getElem? (i := 27) rfl), rfl⟩
theorem wm_545 : (Jvm.Cond.selects "HomeCalls" ({ cls := "HomeCalls", name := "seed", desc := "(I)I" } : Jvm.MethodName) ({ cls := "HomeCalls", name := "seed", desc := "(I)I" } : Jvm.MethodName)) ∈ xT := List.mem_filter.mpr ⟨tks_12 _ (List.mem_of_getElem? (i := 28) rfl), rfl⟩
theorem wm_546 : (Jvm.Cond.code ({ cls := "HomeCalls", name := "seed", desc := "(I)I" } : Jvm.MethodName) prog_1_method_29_code (3 : Nat) (Option.some Jvm.ClassFile.FieldType.int)) ∈ xT := List.mem_filter.mpr ⟨tks_12 _ (List.mem_of_getElem? (i := 29) rfl), rfl⟩
theorem wm_547 : (Jvm.Cond.methodLink "HomeCallsLaw" (132 : Nat) ({ cls := "HomeCalls", name := "voice", desc := "(III)I" } : Jvm.MethodName)) ∈ xT := List.mem_filter.mpr ⟨tks_12 _ (List.mem_of_getElem? (i := 30) rfl), rfl⟩
theorem wm_548 : (Jvm.Cond.instanceMethod ({ cls := "HomeCalls", name := "voice", desc := "(III)I" } : Jvm.MethodName)) ∈ xT := List.mem_filter.mpr ⟨tks_12 _ (List.mem_of_getElem? (i := 31) rfl), rfl⟩
theorem wm_549 : (Jvm.Cond.selects "HomeCalls" ({ cls := "HomeCalls", name := "voice", desc := "(III)I" } : Jvm.MethodName) ({ cls := "HomeCalls", name := "voice", desc := "(III)I" } : Jvm.MethodName)) ∈ xT := List.mem_filter.mpr ⟨tks_12 _ (List.mem_of_getElem? (i := 32) rfl), rfl⟩
theorem wm_550 : (Jvm.Cond.code ({ cls := "HomeCalls", name := "voice", desc := "(III)I" } : Jvm.MethodName) prog_1_method_30_code (4 : Nat) (Option.some Jvm.ClassFile.FieldType.int)) ∈ xT := List.mem_filter.mpr ⟨tks_12 _ (List.mem_of_getElem? (i := 33) rfl), rfl⟩
theorem wm_551 : (Jvm.Cond.methodLink "HomeCalls" (197 : Nat) ({ cls := "HomeCalls$Speaker", name := "answer", desc := "(IIIII)I" } : Jvm.MethodName)) ∈ xT := List.mem_filter.mpr ⟨tks_12 _ (List.mem_of_getElem? (i := 34) rfl), rfl⟩
theorem wm_552 : (Jvm.Cond.instanceMethod ({ cls := "HomeCalls$Speaker", name := "answer", desc := "(IIIII)I" } : Jvm.MethodName)) ∈ xT := List.mem_filter.mpr ⟨tks_12 _ (List.mem_of_getElem? (i := 35) rfl), rfl⟩
theorem wm_553 : (Jvm.Cond.selects "HomeCalls$Speaker" ({ cls := "HomeCalls$Speaker", name := "answer", desc := "(IIIII)I" } : Jvm.MethodName) ({ cls := "HomeCalls$Speaker", name := "answer", desc := "(IIIII)I" } : Jvm.MethodName)) ∈ xT := List.mem_filter.mpr ⟨tks_12 _ (List.mem_of_getElem? (i := 36) rfl), rfl⟩
theorem wm_554 : (Jvm.Cond.code ({ cls := "HomeCalls$Speaker", name := "answer", desc := "(IIIII)I" } : Jvm.MethodName) prog_5_method_2_code (6 : Nat) (Option.some Jvm.ClassFile.FieldType.int)) ∈ xT := List.mem_filter.mpr ⟨tks_12 _ (List.mem_of_getElem? (i := 37) rfl), rfl⟩
theorem wm_555 : (Jvm.Cond.methodLink "HomeCalls$Speaker" (28 : Nat) ({ cls := "HomeCalls$Speaker", name := "speak", desc := "(IIII)I" } : Jvm.MethodName)) ∈ xT := List.mem_filter.mpr ⟨tks_12 _ (List.mem_of_getElem? (i := 38) rfl), rfl⟩
theorem wm_557 : (Jvm.Cond.instanceMethod ({ cls := "HomeCalls$Speaker", name := "speak", desc := "(IIII)I" } : Jvm.MethodName)) ∈ xT := List.mem_filter.mpr ⟨tks_12 _ (List.mem_of_getElem? (i := 40) rfl), rfl⟩
theorem wm_558 : (Jvm.Cond.code ({ cls := "HomeCalls$Speaker", name := "speak", desc := "(IIII)I" } : Jvm.MethodName) prog_5_method_3_code (7 : Nat) (Option.some Jvm.ClassFile.FieldType.int)) ∈ xT := List.mem_filter.mpr ⟨tks_12 _ (List.mem_of_getElem? (i := 41) rfl), rfl⟩
theorem wm_559 : (Jvm.Cond.fieldLink "HomeCalls$Speaker" (32 : Nat) "HomeCalls$Speaker" "BODIES" "[I") ∈ xT := List.mem_filter.mpr ⟨tks_12 _ (List.mem_of_getElem? (i := 42) rfl), rfl⟩
theorem wm_561 : (Jvm.Cond.methodLink "HomeCalls$Speaker" (35 : Nat) ({ cls := "HomeCalls$Speaker", name := "note", desc := "(I)V" } : Jvm.MethodName)) ∈ xT := List.mem_filter.mpr ⟨tks_12 _ (List.mem_of_getElem? (i := 44) rfl), rfl⟩
theorem wm_563 : (Jvm.Cond.instanceMethod ({ cls := "HomeCalls$Speaker", name := "note", desc := "(I)V" } : Jvm.MethodName)) ∈ xT := List.mem_filter.mpr ⟨tks_12 _ (List.mem_of_getElem? (i := 46) rfl), rfl⟩
theorem wm_564 : (Jvm.Cond.code ({ cls := "HomeCalls$Speaker", name := "note", desc := "(I)V" } : Jvm.MethodName) prog_5_method_4_code (2 : Nat) (Option.none : Option Jvm.ClassFile.FieldType)) ∈ xT := List.mem_filter.mpr ⟨tks_12 _ (List.mem_of_getElem? (i := 47) rfl), rfl⟩
theorem wm_565 : (Jvm.Cond.methodLink "HomeCallsLaw" (136 : Nat) ({ cls := "HomeCalls", name := "trace", desc := "(I)I" } : Jvm.MethodName)) ∈ xT := List.mem_filter.mpr ⟨tks_13 _ (List.mem_of_getElem? (i := 0) rfl), rfl⟩
theorem wm_566 : (Jvm.Cond.instanceMethod ({ cls := "HomeCalls", name := "trace", desc := "(I)I" } : Jvm.MethodName)) ∈ xT := List.mem_filter.mpr ⟨tks_13 _ (List.mem_of_getElem? (i := 1) rfl), rfl⟩
theorem wm_567 : (Jvm.Cond.selects "HomeCalls" ({ cls := "HomeCalls", name := "trace", desc := "(I)I" } : Jvm.MethodName) ({ cls := "HomeCalls", name := "trace", desc := "(I)I" } : Jvm.MethodName)) ∈ xT := List.mem_filter.mpr ⟨tks_13 _ (List.mem_of_getElem? (i := 2) rfl), rfl⟩
theorem wm_568 : (Jvm.Cond.code ({ cls := "HomeCalls", name := "trace", desc := "(I)I" } : Jvm.MethodName) prog_1_method_31_code (2 : Nat) (Option.some Jvm.ClassFile.FieldType.int)) ∈ xT := List.mem_filter.mpr ⟨tks_13 _ (List.mem_of_getElem? (i := 3) rfl), rfl⟩
theorem wm_569 : (Jvm.Cond.methodLink "HomeCallsLaw" (140 : Nat) ({ cls := "HomeCalls", name := "sheet", desc := "(III)I" } : Jvm.MethodName)) ∈ xT := List.mem_filter.mpr ⟨tks_13 _ (List.mem_of_getElem? (i := 4) rfl), rfl⟩
theorem wm_570 : (Jvm.Cond.instanceMethod ({ cls := "HomeCalls", name := "sheet", desc := "(III)I" } : Jvm.MethodName)) ∈ xT := List.mem_filter.mpr ⟨tks_13 _ (List.mem_of_getElem? (i := 5) rfl), rfl⟩
theorem wm_571 : (Jvm.Cond.selects "HomeCalls" ({ cls := "HomeCalls", name := "sheet", desc := "(III)I" } : Jvm.MethodName) ({ cls := "HomeCalls", name := "sheet", desc := "(III)I" } : Jvm.MethodName)) ∈ xT := List.mem_filter.mpr ⟨tks_13 _ (List.mem_of_getElem? (i := 6) rfl), rfl⟩
theorem wm_572 : (Jvm.Cond.code ({ cls := "HomeCalls", name := "sheet", desc := "(III)I" } : Jvm.MethodName) prog_1_method_32_code (4 : Nat) (Option.some Jvm.ClassFile.FieldType.int)) ∈ xT := List.mem_filter.mpr ⟨tks_13 _ (List.mem_of_getElem? (i := 7) rfl), rfl⟩
theorem wm_573 : (Jvm.Cond.methodLink "HomeCalls" (207 : Nat) ({ cls := "HomeCalls$Sheet", name := "begin", desc := "(II)V" } : Jvm.MethodName)) ∈ xT := List.mem_filter.mpr ⟨tks_13 _ (List.mem_of_getElem? (i := 8) rfl), rfl⟩
theorem wm_574 : (Jvm.Cond.instanceMethod ({ cls := "HomeCalls$Sheet", name := "begin", desc := "(II)V" } : Jvm.MethodName)) ∈ xT := List.mem_filter.mpr ⟨tks_13 _ (List.mem_of_getElem? (i := 9) rfl), rfl⟩
theorem wm_575 : (Jvm.Cond.selects "HomeCalls$Sheet" ({ cls := "HomeCalls$Sheet", name := "begin", desc := "(II)V" } : Jvm.MethodName) ({ cls := "HomeCalls$Sheet", name := "begin", desc := "(II)V" } : Jvm.MethodName)) ∈ xT := List.mem_filter.mpr ⟨tks_13 _ (List.mem_of_getElem? (i := 10) rfl), rfl⟩
theorem wm_576 : (Jvm.Cond.code ({ cls := "HomeCalls$Sheet", name := "begin", desc := "(II)V" } : Jvm.MethodName) prog_4_method_3_code (3 : Nat) (Option.none : Option Jvm.ClassFile.FieldType)) ∈ xT := List.mem_filter.mpr ⟨tks_13 _ (List.mem_of_getElem? (i := 11) rfl), rfl⟩
theorem wm_577 : (Jvm.Cond.methodLink "HomeCalls$Sheet" (19 : Nat) ({ cls := "java/util/Arrays", name := "fill", desc := "([II)V" } : Jvm.MethodName)) ∈ xT := List.mem_filter.mpr ⟨tks_13 _ (List.mem_of_getElem? (i := 12) rfl), rfl⟩
theorem wm_578 : (Jvm.Cond.static ({ cls := "java/util/Arrays", name := "fill", desc := "([II)V" } : Jvm.MethodName)) ∈ xT := List.mem_filter.mpr ⟨tks_13 _ (List.mem_of_getElem? (i := 13) rfl), rfl⟩
theorem wm_579 : (Jvm.Cond.code ({ cls := "java/util/Arrays", name := "fill", desc := "([II)V" } : Jvm.MethodName) prog_12_method_103_code (4 : Nat) (Option.none : Option Jvm.ClassFile.FieldType)) ∈ xT := List.mem_filter.mpr ⟨tks_13 _ (List.mem_of_getElem? (i := 14) rfl), rfl⟩
theorem wm_580 : (Jvm.Cond.methodLink "HomeCallsLaw" (144 : Nat) ({ cls := "HomeCalls", name := "put", desc := "(III)I" } : Jvm.MethodName)) ∈ xT := List.mem_filter.mpr ⟨tks_13 _ (List.mem_of_getElem? (i := 15) rfl), rfl⟩
theorem wm_581 : (Jvm.Cond.instanceMethod ({ cls := "HomeCalls", name := "put", desc := "(III)I" } : Jvm.MethodName)) ∈ xT := List.mem_filter.mpr ⟨tks_13 _ (List.mem_of_getElem? (i := 16) rfl), rfl⟩
theorem wm_582 : (Jvm.Cond.selects "HomeCalls" ({ cls := "HomeCalls", name := "put", desc := "(III)I" } : Jvm.MethodName) ({ cls := "HomeCalls", name := "put", desc := "(III)I" } : Jvm.MethodName)) ∈ xT := List.mem_filter.mpr ⟨tks_13 _ (List.mem_of_getElem? (i := 17) rfl), rfl⟩
theorem wm_583 : (Jvm.Cond.code ({ cls := "HomeCalls", name := "put", desc := "(III)I" } : Jvm.MethodName) prog_1_method_33_code (5 : Nat) (Option.some Jvm.ClassFile.FieldType.int)) ∈ xT := List.mem_filter.mpr ⟨tks_13 _ (List.mem_of_getElem? (i := 18) rfl), rfl⟩
theorem wm_584 : (Jvm.Cond.methodLink "HomeCalls" (211 : Nat) ({ cls := "HomeCalls$Sheet", name := "write", desc := "(II)V" } : Jvm.MethodName)) ∈ xT := List.mem_filter.mpr ⟨tks_13 _ (List.mem_of_getElem? (i := 19) rfl), rfl⟩
theorem wm_585 : (Jvm.Cond.instanceMethod ({ cls := "HomeCalls$Sheet", name := "write", desc := "(II)V" } : Jvm.MethodName)) ∈ xT := List.mem_filter.mpr ⟨tks_13 _ (List.mem_of_getElem? (i := 20) rfl), rfl⟩
theorem wm_586 : (Jvm.Cond.selects "HomeCalls$Sheet" ({ cls := "HomeCalls$Sheet", name := "write", desc := "(II)V" } : Jvm.MethodName) ({ cls := "HomeCalls$Sheet", name := "write", desc := "(II)V" } : Jvm.MethodName)) ∈ xT := List.mem_filter.mpr ⟨tks_13 _ (List.mem_of_getElem? (i := 21) rfl), rfl⟩
theorem wm_587 : (Jvm.Cond.code ({ cls := "HomeCalls$Sheet", name := "write", desc := "(II)V" } : Jvm.MethodName) prog_4_method_4_code (3 : Nat) (Option.none : Option Jvm.ClassFile.FieldType)) ∈ xT := List.mem_filter.mpr ⟨tks_13 _ (List.mem_of_getElem? (i := 22) rfl), rfl⟩
theorem wm_588 : (Jvm.Cond.constant "HomeCalls$Sheet" (28 : Nat) (65535 : Int32)) ∈ xT := List.mem_filter.mpr ⟨tks_13 _ (List.mem_of_getElem? (i := 23) rfl), rfl⟩
theorem wm_589 : (Jvm.Cond.methodLink "HomeCallsLaw" (148 : Nat) ({ cls := "HomeCalls", name := "move", desc := "(IIIII)I" } : Jvm.MethodName)) ∈ xT := List.mem_filter.mpr ⟨tks_13 _ (List.mem_of_getElem? (i := 24) rfl), rfl⟩
theorem wm_590 : (Jvm.Cond.instanceMethod ({ cls := "HomeCalls", name := "move", desc := "(IIIII)I" } : Jvm.MethodName)) ∈ xT := List.mem_filter.mpr ⟨tks_13 _ (List.mem_of_getElem? (i := 25) rfl), rfl⟩
theorem wm_591 : (Jvm.Cond.selects "HomeCalls" ({ cls := "HomeCalls", name := "move", desc := "(IIIII)I" } : Jvm.MethodName) ({ cls := "HomeCalls", name := "move", desc := "(IIIII)I" } : Jvm.MethodName)) ∈ xT := List.mem_filter.mpr ⟨tks_13 _ (List.mem_of_getElem? (i := 26) rfl), rfl⟩
theorem wm_592 : (Jvm.Cond.code ({ cls := "HomeCalls", name := "move", desc := "(IIIII)I" } : Jvm.MethodName) prog_1_method_34_code (8 : Nat) (Option.some Jvm.ClassFile.FieldType.int)) ∈ xT := List.mem_filter.mpr ⟨tks_13 _ (List.mem_of_getElem? (i := 27) rfl), rfl⟩
theorem wm_593 : (Jvm.Cond.methodLink "HomeCalls" (217 : Nat) ({ cls := "HomeCalls$Sheet", name := "hasRun", desc := "(II)Z" } : Jvm.MethodName)) ∈ xT := List.mem_filter.mpr ⟨tks_13 _ (List.mem_of_getElem? (i := 28) rfl), rfl⟩
theorem wm_594 : (Jvm.Cond.instanceMethod ({ cls := "HomeCalls$Sheet", name := "hasRun", desc := "(II)Z" } : Jvm.MethodName)) ∈ xT := List.mem_filter.mpr ⟨tks_13 _ (List.mem_of_getElem? (i := 29) rfl), rfl⟩
theorem wm_595 : (Jvm.Cond.selects "HomeCalls$Sheet" ({ cls := "HomeCalls$Sheet", name := "hasRun", desc := "(II)Z" } : Jvm.MethodName) ({ cls := "HomeCalls$Sheet", name := "hasRun", desc := "(II)Z" } : Jvm.MethodName)) ∈ xT := List.mem_filter.mpr ⟨tks_13 _ (List.mem_of_getElem? (i := 30) rfl), rfl⟩
theorem wm_596 : (Jvm.Cond.code ({ cls := "HomeCalls$Sheet", name := "hasRun", desc := "(II)Z" } : Jvm.MethodName) prog_4_method_5_code (3 : Nat) (Option.some Jvm.ClassFile.FieldType.boolean)) ∈ xT := List.mem_filter.mpr ⟨tks_13 _ (List.mem_of_getElem? (i := 31) rfl), rfl⟩
theorem wm_597 : (Jvm.Cond.methodLink "HomeCalls" (220 : Nat) ({ cls := "java/lang/System", name := "arraycopy", desc := "(Ljava/lang/Object;ILjava/lang/Object;II)V" } : Jvm.MethodName)) ∈ xT := List.mem_filter.mpr ⟨tks_13 _ (List.mem_of_getElem? (i := 32) rfl), rfl⟩
theorem wm_598 : (Jvm.Cond.methodLink "HomeCallsLaw" (153 : Nat) ({ cls := "HomeCalls", name := "places", desc := "(I)I" } : Jvm.MethodName)) ∈ xT := List.mem_filter.mpr ⟨tks_13 _ (List.mem_of_getElem? (i := 33) rfl), rfl⟩
theorem wm_599 : (Jvm.Cond.instanceMethod ({ cls := "HomeCalls", name := "places", desc := "(I)I" } : Jvm.MethodName)) ∈ xT := List.mem_filter.mpr ⟨tks_13 _ (List.mem_of_getElem? (i := 34) rfl), rfl⟩
theorem wm_600 : (Jvm.Cond.selects "HomeCalls" ({ cls := "HomeCalls", name := "places", desc := "(I)I" } : Jvm.MethodName) ({ cls := "HomeCalls", name := "places", desc := "(I)I" } : Jvm.MethodName)) ∈ xT := List.mem_filter.mpr ⟨tks_13 _ (List.mem_of_getElem? (i := 35) rfl), rfl⟩
theorem wm_601 : (Jvm.Cond.code ({ cls := "HomeCalls", name := "places", desc := "(I)I" } : Jvm.MethodName) prog_1_method_35_code (5 : Nat) (Option.some Jvm.ClassFile.FieldType.int)) ∈ xT := List.mem_filter.mpr ⟨tks_13 _ (List.mem_of_getElem? (i := 36) rfl), rfl⟩
theorem wm_602 : (Jvm.Cond.methodLink "HomeCalls" (226 : Nat) ({ cls := "java/lang/Math", name := "min", desc := "(II)I" } : Jvm.MethodName)) ∈ xT := List.mem_filter.mpr ⟨tks_13 _ (List.mem_of_getElem? (i := 37) rfl), rfl⟩
theorem wm_603 : (Jvm.Cond.methodLink "HomeCallsLaw" (157 : Nat) ({ cls := "HomeCalls", name := "judge", desc := "(I)I" } : Jvm.MethodName)) ∈ xT := List.mem_filter.mpr ⟨tks_13 _ (List.mem_of_getElem? (i := 38) rfl), rfl⟩
theorem wm_604 : (Jvm.Cond.instanceMethod ({ cls := "HomeCalls", name := "judge", desc := "(I)I" } : Jvm.MethodName)) ∈ xT := List.mem_filter.mpr ⟨tks_13 _ (List.mem_of_getElem? (i := 39) rfl), rfl⟩
theorem wm_605 : (Jvm.Cond.selects "HomeCalls" ({ cls := "HomeCalls", name := "judge", desc := "(I)I" } : Jvm.MethodName) ({ cls := "HomeCalls", name := "judge", desc := "(I)I" } : Jvm.MethodName)) ∈ xT := List.mem_filter.mpr ⟨tks_13 _ (List.mem_of_getElem? (i := 40) rfl), rfl⟩
theorem wm_606 : (Jvm.Cond.code ({ cls := "HomeCalls", name := "judge", desc := "(I)I" } : Jvm.MethodName) prog_1_method_36_code (5 : Nat) (Option.some Jvm.ClassFile.FieldType.int)) ∈ xT := List.mem_filter.mpr ⟨tks_13 _ (List.mem_of_getElem? (i := 41) rfl), rfl⟩
theorem wm_607 : (Jvm.Cond.methodLink "HomeCallsLaw" (161 : Nat) ({ cls := "HomeCalls", name := "image", desc := "()I" } : Jvm.MethodName)) ∈ xT := List.mem_filter.mpr ⟨tks_13 _ (List.mem_of_getElem? (i := 42) rfl), rfl⟩
theorem wm_608 : (Jvm.Cond.instanceMethod ({ cls := "HomeCalls", name := "image", desc := "()I" } : Jvm.MethodName)) ∈ xT := List.mem_filter.mpr ⟨tks_13 _ (List.mem_of_getElem? (i := 43) rfl), rfl⟩
theorem wm_609 : (Jvm.Cond.selects "HomeCalls" ({ cls := "HomeCalls", name := "image", desc := "()I" } : Jvm.MethodName) ({ cls := "HomeCalls", name := "image", desc := "()I" } : Jvm.MethodName)) ∈ xT := List.mem_filter.mpr ⟨tks_13 _ (List.mem_of_getElem? (i := 44) rfl), rfl⟩
theorem wm_610 : (Jvm.Cond.code ({ cls := "HomeCalls", name := "image", desc := "()I" } : Jvm.MethodName) prog_1_method_37_code (1 : Nat) (Option.some Jvm.ClassFile.FieldType.int)) ∈ xT := List.mem_filter.mpr ⟨tks_13 _ (List.mem_of_getElem? (i := 45) rfl), rfl⟩
theorem wm_611 : (Jvm.Cond.methodLink "HomeCallsLaw" (166 : Nat) ({ cls := "HomeCalls", name := "restore", desc := "()I" } : Jvm.MethodName)) ∈ xT := List.mem_filter.mpr ⟨tks_13 _ (List.mem_of_getElem? (i := 46) rfl), rfl⟩
theorem wm_612 : (Jvm.Cond.instanceMethod ({ cls := "HomeCalls", name := "restore", desc := "()I" } : Jvm.MethodName)) ∈ xT := List.mem_filter.mpr ⟨tks_13 _ (List.mem_of_getElem? (i := 47) rfl), rfl⟩
theorem wm_613 : (Jvm.Cond.selects "HomeCalls" ({ cls := "HomeCalls", name := "restore", desc := "()I" } : Jvm.MethodName) ({ cls := "HomeCalls", name := "restore", desc := "()I" } : Jvm.MethodName)) ∈ xT := List.mem_filter.mpr ⟨tks_14 _ (List.mem_of_getElem? (i := 0) rfl), rfl⟩
theorem wm_614 : (Jvm.Cond.code ({ cls := "HomeCalls", name := "restore", desc := "()I" } : Jvm.MethodName) prog_1_method_38_code (1 : Nat) (Option.some Jvm.ClassFile.FieldType.int)) ∈ xT := List.mem_filter.mpr ⟨tks_14 _ (List.mem_of_getElem? (i := 1) rfl), rfl⟩
theorem wm_615 : (Jvm.Cond.methodLink "HomeCallsLaw" (170 : Nat) ({ cls := "HomeCalls", name := "tell", desc := "(I)I" } : Jvm.MethodName)) ∈ xT := List.mem_filter.mpr ⟨tks_14 _ (List.mem_of_getElem? (i := 2) rfl), rfl⟩
theorem wm_616 : (Jvm.Cond.instanceMethod ({ cls := "HomeCalls", name := "tell", desc := "(I)I" } : Jvm.MethodName)) ∈ xT := List.mem_filter.mpr ⟨tks_14 _ (List.mem_of_getElem? (i := 3) rfl), rfl⟩
theorem wm_617 : (Jvm.Cond.selects "HomeCalls" ({ cls := "HomeCalls", name := "tell", desc := "(I)I" } : Jvm.MethodName) ({ cls := "HomeCalls", name := "tell", desc := "(I)I" } : Jvm.MethodName)) ∈ xT := List.mem_filter.mpr ⟨tks_14 _ (List.mem_of_getElem? (i := 4) rfl), rfl⟩
theorem wm_618 : (Jvm.Cond.code ({ cls := "HomeCalls", name := "tell", desc := "(I)I" } : Jvm.MethodName) prog_1_method_39_code (2 : Nat) (Option.some Jvm.ClassFile.FieldType.int)) ∈ xT := List.mem_filter.mpr ⟨tks_14 _ (List.mem_of_getElem? (i := 5) rfl), rfl⟩
theorem wm_619 : (Jvm.Cond.methodLink "HomeCallsLaw" (174 : Nat) ({ cls := "HomeCalls", name := "check", desc := "()I" } : Jvm.MethodName)) ∈ xT := List.mem_filter.mpr ⟨tks_14 _ (List.mem_of_getElem? (i := 6) rfl), rfl⟩
theorem wm_620 : (Jvm.Cond.instanceMethod ({ cls := "HomeCalls", name := "check", desc := "()I" } : Jvm.MethodName)) ∈ xT := List.mem_filter.mpr ⟨tks_14 _ (List.mem_of_getElem? (i := 7) rfl), rfl⟩
theorem wm_621 : (Jvm.Cond.selects "HomeCalls" ({ cls := "HomeCalls", name := "check", desc := "()I" } : Jvm.MethodName) ({ cls := "HomeCalls", name := "check", desc := "()I" } : Jvm.MethodName)) ∈ xT := List.mem_filter.mpr ⟨tks_14 _ (List.mem_of_getElem? (i := 8) rfl), rfl⟩
theorem wm_622 : (Jvm.Cond.code ({ cls := "HomeCalls", name := "check", desc := "()I" } : Jvm.MethodName) prog_1_method_40_code (3 : Nat) (Option.some Jvm.ClassFile.FieldType.int)) ∈ xT := List.mem_filter.mpr ⟨tks_14 _ (List.mem_of_getElem? (i := 9) rfl), rfl⟩
theorem wm_623 : (Jvm.Cond.methodLink "HomeCallsLaw" (178 : Nat) ({ cls := "HomeCalls", name := "count", desc := "(I)I" } : Jvm.MethodName)) ∈ xT := List.mem_filter.mpr ⟨tks_14 _ (List.mem_of_getElem? (i := 10) rfl), rfl⟩
theorem wm_624 : (Jvm.Cond.instanceMethod ({ cls := "HomeCalls", name := "count", desc := "(I)I" } : Jvm.MethodName)) ∈ xT := List.mem_filter.mpr ⟨tks_14 _ (List.mem_of_getElem? (i := 11) rfl), rfl⟩
theorem wm_625 : (Jvm.Cond.selects "HomeCalls" ({ cls := "HomeCalls", name := "count", desc := "(I)I" } : Jvm.MethodName) ({ cls := "HomeCalls", name := "count", desc := "(I)I" } : Jvm.MethodName)) ∈ xT := List.mem_filter.mpr ⟨tks_14 _ (List.mem_of_getElem? (i := 12) rfl), rfl⟩
theorem wm_626 : (Jvm.Cond.code ({ cls := "HomeCalls", name := "count", desc := "(I)I" } : Jvm.MethodName) prog_1_method_41_code (2 : Nat) (Option.some Jvm.ClassFile.FieldType.int)) ∈ xT := List.mem_filter.mpr ⟨tks_14 _ (List.mem_of_getElem? (i := 13) rfl), rfl⟩
theorem wm_627 : (Jvm.Cond.methodLink "HomeCalls" (240 : Nat) ({ cls := "HomeCalls$Street", name := "sum", desc := "([I)I" } : Jvm.MethodName)) ∈ xT := List.mem_filter.mpr ⟨tks_14 _ (List.mem_of_getElem? (i := 14) rfl), rfl⟩
theorem wm_628 : (Jvm.Cond.instanceMethod ({ cls := "HomeCalls$Street", name := "sum", desc := "([I)I" } : Jvm.MethodName)) ∈ xT := List.mem_filter.mpr ⟨tks_14 _ (List.mem_of_getElem? (i := 15) rfl), rfl⟩
theorem wm_629 : (Jvm.Cond.selects "HomeCalls$Street" ({ cls := "HomeCalls$Street", name := "sum", desc := "([I)I" } : Jvm.MethodName) ({ cls := "HomeCalls$Street", name := "sum", desc := "([I)I" } : Jvm.MethodName)) ∈ xT := List.mem_filter.mpr ⟨tks_14 _ (List.mem_of_getElem? (i := 16) rfl), rfl⟩
theorem wm_630 : (Jvm.Cond.code ({ cls := "HomeCalls$Street", name := "sum", desc := "([I)I" } : Jvm.MethodName) prog_6_method_21_code (4 : Nat) (Option.some Jvm.ClassFile.FieldType.int)) ∈ xT := List.mem_filter.mpr ⟨tks_14 _ (List.mem_of_getElem? (i := 17) rfl), rfl⟩
theorem wm_631 : (Jvm.Cond.methodLink "HomeCallsLaw" (182 : Nat) ({ cls := "HomeCalls", name := "told", desc := "(I)I" } : Jvm.MethodName)) ∈ xT := List.mem_filter.mpr ⟨tks_14 _ (List.mem_of_getElem? (i := 18) rfl), rfl⟩
theorem wm_632 : (Jvm.Cond.instanceMethod ({ cls := "HomeCalls", name := "told", desc := "(I)I" } : Jvm.MethodName)) ∈ xT := List.mem_filter.mpr ⟨tks_14 _ (List.mem_of_getElem? (i := 19) rfl), rfl⟩
theorem wm_633 : (Jvm.Cond.selects "HomeCalls" ({ cls := "HomeCalls", name := "told", desc := "(I)I" } : Jvm.MethodName) ({ cls := "HomeCalls", name := "told", desc := "(I)I" } : Jvm.MethodName)) ∈ xT := List.mem_filter.mpr ⟨tks_14 _ (List.mem_of_getElem? (i := 20) rfl), rfl⟩
theorem wm_634 : (Jvm.Cond.code ({ cls := "HomeCalls", name := "told", desc := "(I)I" } : Jvm.MethodName) prog_1_method_42_code (2 : Nat) (Option.some Jvm.ClassFile.FieldType.int)) ∈ xT := List.mem_filter.mpr ⟨tks_14 _ (List.mem_of_getElem? (i := 21) rfl), rfl⟩
theorem wm_635 : (Jvm.Cond.classLink "HomeCallsLaw" (10 : Nat) "HomeCallsModel") ∈ xT := List.mem_filter.mpr ⟨tks_14 _ (List.mem_of_getElem? (i := 22) rfl), rfl⟩
theorem wm_636 : (Jvm.Cond.instantiable "HomeCallsModel" (25 : Nat)) ∈ xT := List.mem_filter.mpr ⟨tks_14 _ (List.mem_of_getElem? (i := 23) rfl), rfl⟩
theorem wm_637 : (Jvm.Cond.methodLink "HomeCallsLaw" (12 : Nat) ({ cls := "HomeCallsModel", name := "<init>", desc := "()V" } : Jvm.MethodName)) ∈ xT := List.mem_filter.mpr ⟨tks_14 _ (List.mem_of_getElem? (i := 24) rfl), rfl⟩
theorem wm_638 : (Jvm.Cond.instanceMethod ({ cls := "HomeCallsModel", name := "<init>", desc := "()V" } : Jvm.MethodName)) ∈ xT := List.mem_filter.mpr ⟨tks_14 _ (List.mem_of_getElem? (i := 25) rfl), rfl⟩
theorem wm_639 : (Jvm.Cond.code ({ cls := "HomeCallsModel", name := "<init>", desc := "()V" } : Jvm.MethodName) prog_8_method_1_code (1 : Nat) (Option.none : Option Jvm.ClassFile.FieldType)) ∈ xT := List.mem_filter.mpr ⟨tks_14 _ (List.mem_of_getElem? (i := 26) rfl), rfl⟩
theorem wm_640 : (Jvm.Cond.methodLink "HomeCallsModel" (1 : Nat) ({ cls := "java/lang/Object", name := "<init>", desc := "()V" } : Jvm.MethodName)) ∈ xT := List.mem_filter.mpr ⟨tks_14 _ (List.mem_of_getElem? (i := 27) rfl), rfl⟩
theorem wm_641 : (Jvm.Cond.fieldLink "HomeCallsModel" (7 : Nat) "HomeCallsModel" "row" "[I") ∈ xT := List.mem_filter.mpr ⟨tks_14 _ (List.mem_of_getElem? (i := 28) rfl), rfl⟩
theorem wm_642 : (Jvm.Cond.fieldLink "HomeCallsModel" (13 : Nat) "HomeCallsModel" "kept" "[I") ∈ xT := List.mem_filter.mpr ⟨tks_14 _ (List.mem_of_getElem? (i := 29) rfl), rfl⟩
theorem wm_643 : (Jvm.Cond.fieldLink "HomeCallsModel" (16 : Nat) "HomeCallsModel" "tried" "[I") ∈ xT := List.mem_filter.mpr ⟨tks_14 _ (List.mem_of_getElem? (i := 30) rfl), rfl⟩
theorem wm_644 : (Jvm.Cond.fieldLink "HomeCallsModel" (19 : Nat) "HomeCallsModel" "before" "[I") ∈ xT := List.mem_filter.mpr ⟨tks_14 _ (List.mem_of_getElem? (i := 31) rfl), rfl⟩
theorem wm_645 : (Jvm.Cond.fieldLink "HomeCallsModel" (246 : Nat) "HomeCallsModel" "isKept" "Z") ∈ xT := List.mem_filter.mpr ⟨tks_14 _ (List.mem_of_getElem? (i := 32) rfl), rfl⟩
theorem wm_646 : (Jvm.Cond.fieldLink "HomeCallsModel" (249 : Nat) "HomeCallsModel" "images" "I") ∈ xT := List.mem_filter.mpr ⟨tks_14 _ (List.mem_of_getElem? (i := 33) rfl), rfl⟩
theorem wm_647 : (Jvm.Cond.fieldLink "HomeCallsModel" (22 : Nat) "HomeCallsModel" "found" "[I") ∈ xT := List.mem_filter.mpr ⟨tks_14 _ (List.mem_of_getElem? (i := 34) rfl), rfl⟩
theorem wm_648 : (Jvm.Cond.fieldLink "HomeCallsModel" (90 : Nat) "HomeCallsModel" "use" "I") ∈ xT := List.mem_filter.mpr ⟨tks_14 _ (List.mem_of_getElem? (i := 35) rfl), rfl⟩
theorem wm_649 : (Jvm.Cond.fieldLink "HomeCallsModel" (97 : Nat) "HomeCallsModel" "at" "I") ∈ xT := List.mem_filter.mpr ⟨tks_14 _ (List.mem_of_getElem? (i := 36) rfl), rfl⟩
theorem wm_650 : (Jvm.Cond.fieldLink "HomeCallsModel" (86 : Nat) "HomeCallsModel" "end" "I") ∈ xT := List.mem_filter.mpr ⟨tks_14 _ (List.mem_of_getElem? (i := 37) rfl), rfl⟩
theorem wm_651 : (Jvm.Cond.fieldLink "HomeCallsModel" (125 : Nat) "HomeCallsModel" "open" "I") ∈ xT := List.mem_filter.mpr ⟨tks_14 _ (List.mem_of_getElem? (i := 38) rfl), rfl⟩
theorem wm_652 : (Jvm.Cond.fieldLink "HomeCallsModel" (110 : Nat) "HomeCallsModel" "namedA" "I") ∈ xT := List.mem_filter.mpr ⟨tks_14 _ (List.mem_of_getElem? (i := 39) rfl), rfl⟩
theorem wm_653 : (Jvm.Cond.fieldLink "HomeCallsModel" (113 : Nat) "HomeCallsModel" "namedB" "I") ∈ xT := List.mem_filter.mpr ⟨tks_14 _ (List.mem_of_getElem? (i := 40) rfl), rfl⟩
theorem wm_654 : (Jvm.Cond.fieldLink "HomeCallsModel" (116 : Nat) "HomeCallsModel" "namedC" "I") ∈ xT := List.mem_filter.mpr ⟨tks_14 _ (List.mem_of_getElem? (i := 41) rfl), rfl⟩
theorem wm_655 : (Jvm.Cond.fieldLink "HomeCallsModel" (93 : Nat) "HomeCallsModel" "good" "Z") ∈ xT := List.mem_filter.mpr ⟨tks_14 _ (List.mem_of_getElem? (i := 42) rfl), rfl⟩
theorem wm_656 : (Jvm.Cond.fieldLink "HomeCallsModel" (163 : Nat) "HomeCallsModel" "taken" "I") ∈ xT := List.mem_filter.mpr ⟨tks_14 _ (List.mem_of_getElem? (i := 43) rfl), rfl⟩
theorem wm_657 : (Jvm.Cond.fieldLink "HomeCallsModel" (25 : Nat) "HomeCallsModel" "bitsOf" "[I") ∈ xT := List.mem_filter.mpr ⟨tks_14 _ (List.mem_of_getElem? (i := 44) rfl), rfl⟩
theorem wm_658 : (Jvm.Cond.fieldLink "HomeCallsModel" (28 : Nat) "HomeCallsModel" "sizeOf" "[I") ∈ xT := List.mem_filter.mpr ⟨tks_14 _ (List.mem_of_getElem? (i := 45) rfl), rfl⟩
theorem wm_659 : (Jvm.Cond.fieldLink "HomeCallsModel" (31 : Nat) "HomeCallsModel" "sheets" "[I") ∈ xT := List.mem_filter.mpr ⟨tks_14 _ (List.mem_of_getElem? (i := 46) rfl), rfl⟩
theorem wm_660 : (Jvm.Cond.fieldLink "HomeCallsModel" (34 : Nat) "HomeCallsModel" "moved" "[I") ∈ xT := List.mem_filter.mpr ⟨tks_14 _ (List.mem_of_getElem? (i := 47) rfl), rfl⟩
theorem wm_661 : (Jvm.Cond.fieldLink "HomeCallsModel" (37 : Nat) "HomeCallsModel" "traced" "[I") ∈ xT := List.mem_filter.mpr ⟨tks_15 _ (List.mem_of_getElem? (i := 0) rfl), rfl⟩
theorem wm_662 : (Jvm.Cond.fieldLink "HomeCallsModel" (215 : Nat) "HomeCallsModel" "tracedMany" "I") ∈ xT := List.mem_filter.mpr ⟨tks_15 _ (List.mem_of_getElem? (i := 1) rfl), rfl⟩
theorem wm_663 : (Jvm.Cond.fieldLink "HomeCallsModel" (234 : Nat) "HomeCallsModel" "voiceKind" "I") ∈ xT := List.mem_filter.mpr ⟨tks_15 _ (List.mem_of_getElem? (i := 2) rfl), rfl⟩
theorem wm_664 : (Jvm.Cond.fieldLink "HomeCallsModel" (222 : Nat) "HomeCallsModel" "voiceN" "I") ∈ xT := List.mem_filter.mpr ⟨tks_15 _ (List.mem_of_getElem? (i := 3) rfl), rfl⟩
theorem wm_665 : (Jvm.Cond.fieldLink "HomeCallsModel" (228 : Nat) "HomeCallsModel" "voiceM" "I") ∈ xT := List.mem_filter.mpr ⟨tks_15 _ (List.mem_of_getElem? (i := 4) rfl), rfl⟩
theorem wm_717 : (Jvm.Cond.methodLink "HomeCallsLaw" (17 : Nat) ({ cls := "HomeCallsModel", name := "thing", desc := "(II)I" } : Jvm.MethodName)) ∈ xT := List.mem_filter.mpr ⟨tks_16 _ (List.mem_of_getElem? (i := 8) rfl), rfl⟩
theorem wm_718 : (Jvm.Cond.instanceMethod ({ cls := "HomeCallsModel", name := "thing", desc := "(II)I" } : Jvm.MethodName)) ∈ xT := List.mem_filter.mpr ⟨tks_16 _ (List.mem_of_getElem? (i := 9) rfl), rfl⟩
theorem wm_719 : (Jvm.Cond.selects "HomeCallsModel" ({ cls := "HomeCallsModel", name := "thing", desc := "(II)I" } : Jvm.MethodName) ({ cls := "HomeCallsModel", name := "thing", desc := "(II)I" } : Jvm.MethodName)) ∈ xT := List.mem_filter.mpr ⟨tks_16 _ (List.mem_of_getElem? (i := 10) rfl), rfl⟩
theorem wm_720 : (Jvm.Cond.code ({ cls := "HomeCallsModel", name := "thing", desc := "(II)I" } : Jvm.MethodName) prog_8_method_16_code (3 : Nat) (Option.some Jvm.ClassFile.FieldType.int)) ∈ xT := List.mem_filter.mpr ⟨tks_16 _ (List.mem_of_getElem? (i := 11) rfl), rfl⟩
theorem wm_721 : (Jvm.Cond.methodLink "HomeCallsModel" (45 : Nat) ({ cls := "HomeCallsModel", name := "isCell", desc := "(I)Z" } : Jvm.MethodName)) ∈ xT := List.mem_filter.mpr ⟨tks_16 _ (List.mem_of_getElem? (i := 12) rfl), rfl⟩
theorem wm_722 : (Jvm.Cond.static ({ cls := "HomeCallsModel", name := "isCell", desc := "(I)Z" } : Jvm.MethodName)) ∈ xT := List.mem_filter.mpr ⟨tks_16 _ (List.mem_of_getElem? (i := 13) rfl), rfl⟩
theorem wm_723 : (Jvm.Cond.code ({ cls := "HomeCallsModel", name := "isCell", desc := "(I)Z" } : Jvm.MethodName) prog_8_method_9_code (1 : Nat) (Option.some Jvm.ClassFile.FieldType.boolean)) ∈ xT := List.mem_filter.mpr ⟨tks_16 _ (List.mem_of_getElem? (i := 14) rfl), rfl⟩
theorem wm_724 : (Jvm.Cond.methodLink "HomeCallsModel" (41 : Nat) ({ cls := "HomeCallsModel", name := "in", desc := "(III)Z" } : Jvm.MethodName)) ∈ xT := List.mem_filter.mpr ⟨tks_16 _ (List.mem_of_getElem? (i := 15) rfl), rfl⟩
theorem wm_725 : (Jvm.Cond.static ({ cls := "HomeCallsModel", name := "in", desc := "(III)Z" } : Jvm.MethodName)) ∈ xT := List.mem_filter.mpr ⟨tks_16 _ (List.mem_of_getElem? (i := 16) rfl), rfl⟩
theorem wm_726 : (Jvm.Cond.code ({ cls := "HomeCallsModel", name := "in", desc := "(III)Z" } : Jvm.MethodName) prog_8_method_2_code (3 : Nat) (Option.some Jvm.ClassFile.FieldType.boolean)) ∈ xT := List.mem_filter.mpr ⟨tks_16 _ (List.mem_of_getElem? (i := 17) rfl), rfl⟩
theorem wm_727 : (Jvm.Cond.constant "HomeCallsModel" (49 : Nat) (-1000000001 : Int32)) ∈ xT := List.mem_filter.mpr ⟨tks_16 _ (List.mem_of_getElem? (i := 18) rfl), rfl⟩
theorem wm_728 : (Jvm.Cond.methodLink "HomeCallsModel" (50 : Nat) ({ cls := "HomeCallsModel", name := "errs", desc := "(I)I" } : Jvm.MethodName)) ∈ xT := List.mem_filter.mpr ⟨tks_16 _ (List.mem_of_getElem? (i := 19) rfl), rfl⟩
theorem wm_730 : (Jvm.Cond.instanceMethod ({ cls := "HomeCallsModel", name := "errs", desc := "(I)I" } : Jvm.MethodName)) ∈ xT := List.mem_filter.mpr ⟨tks_16 _ (List.mem_of_getElem? (i := 21) rfl), rfl⟩
theorem wm_731 : (Jvm.Cond.code ({ cls := "HomeCallsModel", name := "errs", desc := "(I)I" } : Jvm.MethodName) prog_8_method_3_code (2 : Nat) (Option.some Jvm.ClassFile.FieldType.int)) ∈ xT := List.mem_filter.mpr ⟨tks_16 _ (List.mem_of_getElem? (i := 22) rfl), rfl⟩
theorem wm_732 : (Jvm.Cond.constant "HomeCallsModel" (40 : Nat) (-1000000000 : Int32)) ∈ xT := List.mem_filter.mpr ⟨tks_16 _ (List.mem_of_getElem? (i := 23) rfl), rfl⟩
theorem wm_733 : (Jvm.Cond.constant "HomeCallsModel" (54 : Nat) (-1000000004 : Int32)) ∈ xT := List.mem_filter.mpr ⟨tks_16 _ (List.mem_of_getElem? (i := 24) rfl), rfl⟩
theorem wm_734 : (Jvm.Cond.methodLink "HomeCallsModel" (55 : Nat) ({ cls := "HomeCallsModel", name := "adds", desc := "(II)V" } : Jvm.MethodName)) ∈ xT := List.mem_filter.mpr ⟨tks_16 _ (List.mem_of_getElem? (i := 25) rfl), rfl⟩
theorem wm_736 : (Jvm.Cond.instanceMethod ({ cls := "HomeCallsModel", name := "adds", desc := "(II)V" } : Jvm.MethodName)) ∈ xT := List.mem_filter.mpr ⟨tks_16 _ (List.mem_of_getElem? (i := 27) rfl), rfl⟩
theorem wm_737 : (Jvm.Cond.code ({ cls := "HomeCallsModel", name := "adds", desc := "(II)V" } : Jvm.MethodName) prog_8_method_15_code (3 : Nat) (Option.none : Option Jvm.ClassFile.FieldType)) ∈ xT := List.mem_filter.mpr ⟨tks_16 _ (List.mem_of_getElem? (i := 28) rfl), rfl⟩
theorem wm_738 : (Jvm.Cond.methodLink "HomeCallsLaw" (21 : Nat) ({ cls := "HomeCallsModel", name := "ofThing", desc := "(II)I" } : Jvm.MethodName)) ∈ xT := List.mem_filter.mpr ⟨tks_16 _ (List.mem_of_getElem? (i := 29) rfl), rfl⟩
theorem wm_739 : (Jvm.Cond.instanceMethod ({ cls := "HomeCallsModel", name := "ofThing", desc := "(II)I" } : Jvm.MethodName)) ∈ xT := List.mem_filter.mpr ⟨tks_16 _ (List.mem_of_getElem? (i := 30) rfl), rfl⟩
theorem wm_740 : (Jvm.Cond.selects "HomeCallsModel" ({ cls := "HomeCallsModel", name := "ofThing", desc := "(II)I" } : Jvm.MethodName) ({ cls := "HomeCallsModel", name := "ofThing", desc := "(II)I" } : Jvm.MethodName)) ∈ xT := List.mem_filter.mpr ⟨tks_16 _ (List.mem_of_getElem? (i := 31) rfl), rfl⟩
theorem wm_741 : (Jvm.Cond.code ({ cls := "HomeCallsModel", name := "ofThing", desc := "(II)I" } : Jvm.MethodName) prog_8_method_17_code (3 : Nat) (Option.some Jvm.ClassFile.FieldType.int)) ∈ xT := List.mem_filter.mpr ⟨tks_16 _ (List.mem_of_getElem? (i := 32) rfl), rfl⟩
theorem wm_742 : (Jvm.Cond.methodLink "HomeCallsModel" (59 : Nat) ({ cls := "HomeCallsModel", name := "isThing", desc := "(I)Z" } : Jvm.MethodName)) ∈ xT := List.mem_filter.mpr ⟨tks_16 _ (List.mem_of_getElem? (i := 33) rfl), rfl⟩
theorem wm_744 : (Jvm.Cond.instanceMethod ({ cls := "HomeCallsModel", name := "isThing", desc := "(I)Z" } : Jvm.MethodName)) ∈ xT := List.mem_filter.mpr ⟨tks_16 _ (List.mem_of_getElem? (i := 35) rfl), rfl⟩
theorem wm_745 : (Jvm.Cond.code ({ cls := "HomeCallsModel", name := "isThing", desc := "(I)Z" } : Jvm.MethodName) prog_8_method_12_code (2 : Nat) (Option.some Jvm.ClassFile.FieldType.boolean)) ∈ xT := List.mem_filter.mpr ⟨tks_16 _ (List.mem_of_getElem? (i := 36) rfl), rfl⟩
theorem wm_746 : (Jvm.Cond.methodLink "HomeCallsLaw" (26 : Nat) ({ cls := "HomeCallsModel", name := "shift", desc := "(III)I" } : Jvm.MethodName)) ∈ xT := List.mem_filter.mpr ⟨tks_16 _ (List.mem_of_getElem? (i := 37) rfl), rfl⟩
theorem wm_747 : (Jvm.Cond.instanceMethod ({ cls := "HomeCallsModel", name := "shift", desc := "(III)I" } : Jvm.MethodName)) ∈ xT := List.mem_filter.mpr ⟨tks_16 _ (List.mem_of_getElem? (i := 38) rfl), rfl⟩
theorem wm_748 : (Jvm.Cond.selects "HomeCallsModel" ({ cls := "HomeCallsModel", name := "shift", desc := "(III)I" } : Jvm.MethodName) ({ cls := "HomeCallsModel", name := "shift", desc := "(III)I" } : Jvm.MethodName)) ∈ xT := List.mem_filter.mpr ⟨tks_16 _ (List.mem_of_getElem? (i := 39) rfl), rfl⟩
theorem wm_749 : (Jvm.Cond.code ({ cls := "HomeCallsModel", name := "shift", desc := "(III)I" } : Jvm.MethodName) prog_8_method_18_code (5 : Nat) (Option.some Jvm.ClassFile.FieldType.int)) ∈ xT := List.mem_filter.mpr ⟨tks_16 _ (List.mem_of_getElem? (i := 40) rfl), rfl⟩
theorem wm_750 : (Jvm.Cond.methodLink "HomeCallsModel" (62 : Nat) ({ cls := "HomeCallsModel", name := "becomes", desc := "(II)I" } : Jvm.MethodName)) ∈ xT := List.mem_filter.mpr ⟨tks_16 _ (List.mem_of_getElem? (i := 41) rfl), rfl⟩
theorem wm_752 : (Jvm.Cond.instanceMethod ({ cls := "HomeCallsModel", name := "becomes", desc := "(II)I" } : Jvm.MethodName)) ∈ xT := List.mem_filter.mpr ⟨tks_16 _ (List.mem_of_getElem? (i := 43) rfl), rfl⟩
theorem wm_753 : (Jvm.Cond.code ({ cls := "HomeCallsModel", name := "becomes", desc := "(II)I" } : Jvm.MethodName) prog_8_method_14_code (4 : Nat) (Option.some Jvm.ClassFile.FieldType.int)) ∈ xT := List.mem_filter.mpr ⟨tks_16 _ (List.mem_of_getElem? (i := 44) rfl), rfl⟩
theorem wm_754 : (Jvm.Cond.methodLink "HomeCallsLaw" (30 : Nat) ({ cls := "HomeCallsModel", name := "child", desc := "(II)I" } : Jvm.MethodName)) ∈ xT := List.mem_filter.mpr ⟨tks_16 _ (List.mem_of_getElem? (i := 45) rfl), rfl⟩
theorem wm_755 : (Jvm.Cond.instanceMethod ({ cls := "HomeCallsModel", name := "child", desc := "(II)I" } : Jvm.MethodName)) ∈ xT := List.mem_filter.mpr ⟨tks_16 _ (List.mem_of_getElem? (i := 46) rfl), rfl⟩
theorem wm_756 : (Jvm.Cond.selects "HomeCallsModel" ({ cls := "HomeCallsModel", name := "child", desc := "(II)I" } : Jvm.MethodName) ({ cls := "HomeCallsModel", name := "child", desc := "(II)I" } : Jvm.MethodName)) ∈ xT := List.mem_filter.mpr ⟨tks_16 _ (List.mem_of_getElem? (i := 47) rfl), rfl⟩
theorem wm_757 : (Jvm.Cond.code ({ cls := "HomeCallsModel", name := "child", desc := "(II)I" } : Jvm.MethodName) prog_8_method_19_code (4 : Nat) (Option.some Jvm.ClassFile.FieldType.int)) ∈ xT := List.mem_filter.mpr ⟨tks_17 _ (List.mem_of_getElem? (i := 0) rfl), rfl⟩
theorem wm_758 : (Jvm.Cond.methodLink "HomeCallsModel" (66 : Nat) ({ cls := "HomeCallsModel", name := "gets", desc := "(III)V" } : Jvm.MethodName)) ∈ xT := List.mem_filter.mpr ⟨tks_17 _ (List.mem_of_getElem? (i := 1) rfl), rfl⟩
theorem wm_760 : (Jvm.Cond.instanceMethod ({ cls := "HomeCallsModel", name := "gets", desc := "(III)V" } : Jvm.MethodName)) ∈ xT := List.mem_filter.mpr ⟨tks_17 _ (List.mem_of_getElem? (i := 3) rfl), rfl⟩
theorem wm_761 : (Jvm.Cond.code ({ cls := "HomeCallsModel", name := "gets", desc := "(III)V" } : Jvm.MethodName) prog_8_method_8_code (4 : Nat) (Option.none : Option Jvm.ClassFile.FieldType)) ∈ xT := List.mem_filter.mpr ⟨tks_17 _ (List.mem_of_getElem? (i := 4) rfl), rfl⟩
theorem wm_762 : (Jvm.Cond.methodLink "HomeCallsLaw" (34 : Nat) ({ cls := "HomeCallsModel", name := "ofChild", desc := "(II)I" } : Jvm.MethodName)) ∈ xT := List.mem_filter.mpr ⟨tks_17 _ (List.mem_of_getElem? (i := 5) rfl), rfl⟩
theorem wm_763 : (Jvm.Cond.instanceMethod ({ cls := "HomeCallsModel", name := "ofChild", desc := "(II)I" } : Jvm.MethodName)) ∈ xT := List.mem_filter.mpr ⟨tks_17 _ (List.mem_of_getElem? (i := 6) rfl), rfl⟩
theorem wm_764 : (Jvm.Cond.selects "HomeCallsModel" ({ cls := "HomeCallsModel", name := "ofChild", desc := "(II)I" } : Jvm.MethodName) ({ cls := "HomeCallsModel", name := "ofChild", desc := "(II)I" } : Jvm.MethodName)) ∈ xT := List.mem_filter.mpr ⟨tks_17 _ (List.mem_of_getElem? (i := 7) rfl), rfl⟩
theorem wm_765 : (Jvm.Cond.code ({ cls := "HomeCallsModel", name := "ofChild", desc := "(II)I" } : Jvm.MethodName) prog_8_method_20_code (3 : Nat) (Option.some Jvm.ClassFile.FieldType.int)) ∈ xT := List.mem_filter.mpr ⟨tks_17 _ (List.mem_of_getElem? (i := 8) rfl), rfl⟩
theorem wm_766 : (Jvm.Cond.methodLink "HomeCallsModel" (70 : Nat) ({ cls := "HomeCallsModel", name := "isChild", desc := "(I)Z" } : Jvm.MethodName)) ∈ xT := List.mem_filter.mpr ⟨tks_17 _ (List.mem_of_getElem? (i := 9) rfl), rfl⟩
theorem wm_768 : (Jvm.Cond.instanceMethod ({ cls := "HomeCallsModel", name := "isChild", desc := "(I)Z" } : Jvm.MethodName)) ∈ xT := List.mem_filter.mpr ⟨tks_17 _ (List.mem_of_getElem? (i := 11) rfl), rfl⟩
theorem wm_769 : (Jvm.Cond.code ({ cls := "HomeCallsModel", name := "isChild", desc := "(I)Z" } : Jvm.MethodName) prog_8_method_13_code (2 : Nat) (Option.some Jvm.ClassFile.FieldType.boolean)) ∈ xT := List.mem_filter.mpr ⟨tks_17 _ (List.mem_of_getElem? (i := 12) rfl), rfl⟩
theorem wm_770 : (Jvm.Cond.methodLink "HomeCallsModel" (73 : Nat) ({ cls := "HomeCallsModel", name := "its", desc := "(II)I" } : Jvm.MethodName)) ∈ xT := List.mem_filter.mpr ⟨tks_17 _ (List.mem_of_getElem? (i := 13) rfl), rfl⟩
theorem wm_772 : (Jvm.Cond.instanceMethod ({ cls := "HomeCallsModel", name := "its", desc := "(II)I" } : Jvm.MethodName)) ∈ xT := List.mem_filter.mpr ⟨tks_17 _ (List.mem_of_getElem? (i := 15) rfl), rfl⟩
theorem wm_773 : (Jvm.Cond.code ({ cls := "HomeCallsModel", name := "its", desc := "(II)I" } : Jvm.MethodName) prog_8_method_7_code (3 : Nat) (Option.some Jvm.ClassFile.FieldType.int)) ∈ xT := List.mem_filter.mpr ⟨tks_17 _ (List.mem_of_getElem? (i := 16) rfl), rfl⟩
theorem wm_774 : (Jvm.Cond.methodLink "HomeCallsModel" (76 : Nat) ({ cls := "HomeCallsModel", name := "pace", desc := "(I)I" } : Jvm.MethodName)) ∈ xT := List.mem_filter.mpr ⟨tks_17 _ (List.mem_of_getElem? (i := 17) rfl), rfl⟩
theorem wm_776 : (Jvm.Cond.instanceMethod ({ cls := "HomeCallsModel", name := "pace", desc := "(I)I" } : Jvm.MethodName)) ∈ xT := List.mem_filter.mpr ⟨tks_17 _ (List.mem_of_getElem? (i := 19) rfl), rfl⟩
theorem wm_777 : (Jvm.Cond.code ({ cls := "HomeCallsModel", name := "pace", desc := "(I)I" } : Jvm.MethodName) prog_8_method_42_code (4 : Nat) (Option.some Jvm.ClassFile.FieldType.int)) ∈ xT := List.mem_filter.mpr ⟨tks_17 _ (List.mem_of_getElem? (i := 20) rfl), rfl⟩
theorem wm_778 : (Jvm.Cond.methodLink "HomeCallsModel" (79 : Nat) ({ cls := "HomeCallsModel", name := "far", desc := "(I)I" } : Jvm.MethodName)) ∈ xT := List.mem_filter.mpr ⟨tks_17 _ (List.mem_of_getElem? (i := 21) rfl), rfl⟩
theorem wm_780 : (Jvm.Cond.instanceMethod ({ cls := "HomeCallsModel", name := "far", desc := "(I)I" } : Jvm.MethodName)) ∈ xT := List.mem_filter.mpr ⟨tks_17 _ (List.mem_of_getElem? (i := 23) rfl), rfl⟩
theorem wm_781 : (Jvm.Cond.code ({ cls := "HomeCallsModel", name := "far", desc := "(I)I" } : Jvm.MethodName) prog_8_method_43_code (3 : Nat) (Option.some Jvm.ClassFile.FieldType.int)) ∈ xT := List.mem_filter.mpr ⟨tks_17 _ (List.mem_of_getElem? (i := 24) rfl), rfl⟩
theorem wm_782 : (Jvm.Cond.methodLink "HomeCallsLaw" (38 : Nat) ({ cls := "HomeCallsModel", name := "change", desc := "(III)I" } : Jvm.MethodName)) ∈ xT := List.mem_filter.mpr ⟨tks_17 _ (List.mem_of_getElem? (i := 25) rfl), rfl⟩
theorem wm_783 : (Jvm.Cond.instanceMethod ({ cls := "HomeCallsModel", name := "change", desc := "(III)I" } : Jvm.MethodName)) ∈ xT := List.mem_filter.mpr ⟨tks_17 _ (List.mem_of_getElem? (i := 26) rfl), rfl⟩
theorem wm_784 : (Jvm.Cond.selects "HomeCallsModel" ({ cls := "HomeCallsModel", name := "change", desc := "(III)I" } : Jvm.MethodName) ({ cls := "HomeCallsModel", name := "change", desc := "(III)I" } : Jvm.MethodName)) ∈ xT := List.mem_filter.mpr ⟨tks_17 _ (List.mem_of_getElem? (i := 27) rfl), rfl⟩
theorem wm_785 : (Jvm.Cond.code ({ cls := "HomeCallsModel", name := "change", desc := "(III)I" } : Jvm.MethodName) prog_8_method_21_code (5 : Nat) (Option.some Jvm.ClassFile.FieldType.int)) ∈ xT := List.mem_filter.mpr ⟨tks_17 _ (List.mem_of_getElem? (i := 28) rfl), rfl⟩
theorem wm_786 : (Jvm.Cond.methodLink "HomeCallsLaw" (43 : Nat) ({ cls := "HomeCallsModel", name := "it", desc := "(I)I" } : Jvm.MethodName)) ∈ xT := List.mem_filter.mpr ⟨tks_17 _ (List.mem_of_getElem? (i := 29) rfl), rfl⟩
theorem wm_787 : (Jvm.Cond.instanceMethod ({ cls := "HomeCallsModel", name := "it", desc := "(I)I" } : Jvm.MethodName)) ∈ xT := List.mem_filter.mpr ⟨tks_17 _ (List.mem_of_getElem? (i := 30) rfl), rfl⟩
theorem wm_788 : (Jvm.Cond.selects "HomeCallsModel" ({ cls := "HomeCallsModel", name := "it", desc := "(I)I" } : Jvm.MethodName) ({ cls := "HomeCallsModel", name := "it", desc := "(I)I" } : Jvm.MethodName)) ∈ xT := List.mem_filter.mpr ⟨tks_17 _ (List.mem_of_getElem? (i := 31) rfl), rfl⟩
theorem wm_789 : (Jvm.Cond.code ({ cls := "HomeCallsModel", name := "it", desc := "(I)I" } : Jvm.MethodName) prog_8_method_22_code (2 : Nat) (Option.some Jvm.ClassFile.FieldType.int)) ∈ xT := List.mem_filter.mpr ⟨tks_17 _ (List.mem_of_getElem? (i := 32) rfl), rfl⟩
theorem wm_790 : (Jvm.Cond.methodLink "HomeCallsLaw" (47 : Nat) ({ cls := "HomeCallsModel", name := "become", desc := "(II)I" } : Jvm.MethodName)) ∈ xT := List.mem_filter.mpr ⟨tks_17 _ (List.mem_of_getElem? (i := 33) rfl), rfl⟩
theorem wm_791 : (Jvm.Cond.instanceMethod ({ cls := "HomeCallsModel", name := "become", desc := "(II)I" } : Jvm.MethodName)) ∈ xT := List.mem_filter.mpr ⟨tks_17 _ (List.mem_of_getElem? (i := 34) rfl), rfl⟩
theorem wm_792 : (Jvm.Cond.selects "HomeCallsModel" ({ cls := "HomeCallsModel", name := "become", desc := "(II)I" } : Jvm.MethodName) ({ cls := "HomeCallsModel", name := "become", desc := "(II)I" } : Jvm.MethodName)) ∈ xT := List.mem_filter.mpr ⟨tks_17 _ (List.mem_of_getElem? (i := 35) rfl), rfl⟩
theorem wm_793 : (Jvm.Cond.code ({ cls := "HomeCallsModel", name := "become", desc := "(II)I" } : Jvm.MethodName) prog_8_method_23_code (3 : Nat) (Option.some Jvm.ClassFile.FieldType.int)) ∈ xT := List.mem_filter.mpr ⟨tks_17 _ (List.mem_of_getElem? (i := 36) rfl), rfl⟩
theorem wm_794 : (Jvm.Cond.methodLink "HomeCallsLaw" (51 : Nat) ({ cls := "HomeCallsModel", name := "as", desc := "(II)I" } : Jvm.MethodName)) ∈ xT := List.mem_filter.mpr ⟨tks_17 _ (List.mem_of_getElem? (i := 37) rfl), rfl⟩
theorem wm_795 : (Jvm.Cond.instanceMethod ({ cls := "HomeCallsModel", name := "as", desc := "(II)I" } : Jvm.MethodName)) ∈ xT := List.mem_filter.mpr ⟨tks_17 _ (List.mem_of_getElem? (i := 38) rfl), rfl⟩
theorem wm_796 : (Jvm.Cond.selects "HomeCallsModel" ({ cls := "HomeCallsModel", name := "as", desc := "(II)I" } : Jvm.MethodName) ({ cls := "HomeCallsModel", name := "as", desc := "(II)I" } : Jvm.MethodName)) ∈ xT := List.mem_filter.mpr ⟨tks_17 _ (List.mem_of_getElem? (i := 39) rfl), rfl⟩
theorem wm_797 : (Jvm.Cond.code ({ cls := "HomeCallsModel", name := "as", desc := "(II)I" } : Jvm.MethodName) prog_8_method_25_code (4 : Nat) (Option.some Jvm.ClassFile.FieldType.int)) ∈ xT := List.mem_filter.mpr ⟨tks_17 _ (List.mem_of_getElem? (i := 40) rfl), rfl⟩
theorem wm_798 : (Jvm.Cond.methodLink "HomeCallsModel" (82 : Nat) ({ cls := "HomeCallsModel", name := "above", desc := "(I)I" } : Jvm.MethodName)) ∈ xT := List.mem_filter.mpr ⟨tks_17 _ (List.mem_of_getElem? (i := 41) rfl), rfl⟩
theorem wm_799 : (Jvm.Cond.static ({ cls := "HomeCallsModel", name := "above", desc := "(I)I" } : Jvm.MethodName)) ∈ xT := List.mem_filter.mpr ⟨tks_17 _ (List.mem_of_getElem? (i := 42) rfl), rfl⟩
theorem wm_800 : (Jvm.Cond.code ({ cls := "HomeCallsModel", name := "above", desc := "(I)I" } : Jvm.MethodName) prog_8_method_24_code (1 : Nat) (Option.some Jvm.ClassFile.FieldType.int)) ∈ xT := List.mem_filter.mpr ⟨tks_17 _ (List.mem_of_getElem? (i := 43) rfl), rfl⟩
theorem wm_801 : (Jvm.Cond.constant "HomeCallsModel" (85 : Nat) (-1000000005 : Int32)) ∈ xT := List.mem_filter.mpr ⟨tks_17 _ (List.mem_of_getElem? (i := 44) rfl), rfl⟩
theorem wm_802 : (Jvm.Cond.methodLink "HomeCallsLaw" (67 : Nat) ({ cls := "HomeCallsModel", name := "law", desc := "(IIII)I" } : Jvm.MethodName)) ∈ xT := List.mem_filter.mpr ⟨tks_17 _ (List.mem_of_getElem? (i := 45) rfl), rfl⟩
theorem wm_803 : (Jvm.Cond.instanceMethod ({ cls := "HomeCallsModel", name := "law", desc := "(IIII)I" } : Jvm.MethodName)) ∈ xT := List.mem_filter.mpr ⟨tks_17 _ (List.mem_of_getElem? (i := 46) rfl), rfl⟩
theorem wm_804 : (Jvm.Cond.selects "HomeCallsModel" ({ cls := "HomeCallsModel", name := "law", desc := "(IIII)I" } : Jvm.MethodName) ({ cls := "HomeCallsModel", name := "law", desc := "(IIII)I" } : Jvm.MethodName)) ∈ xT := List.mem_filter.mpr ⟨tks_17 _ (List.mem_of_getElem? (i := 47) rfl), rfl⟩
theorem wm_805 : (Jvm.Cond.code ({ cls := "HomeCallsModel", name := "law", desc := "(IIII)I" } : Jvm.MethodName) prog_8_method_39_code (5 : Nat) (Option.some Jvm.ClassFile.FieldType.int)) ∈ xT := List.mem_filter.mpr ⟨tks_18 _ (List.mem_of_getElem? (i := 0) rfl), rfl⟩
theorem wm_806 : (Jvm.Cond.methodLink "HomeCallsModel" (154 : Nat) ({ cls := "HomeCallsModel", name := "lawOf", desc := "(IIII)I" } : Jvm.MethodName)) ∈ xT := List.mem_filter.mpr ⟨tks_18 _ (List.mem_of_getElem? (i := 1) rfl), rfl⟩
theorem wm_808 : (Jvm.Cond.instanceMethod ({ cls := "HomeCallsModel", name := "lawOf", desc := "(IIII)I" } : Jvm.MethodName)) ∈ xT := List.mem_filter.mpr ⟨tks_18 _ (List.mem_of_getElem? (i := 3) rfl), rfl⟩
theorem wm_809 : (Jvm.Cond.code ({ cls := "HomeCallsModel", name := "lawOf", desc := "(IIII)I" } : Jvm.MethodName) prog_8_method_38_code (5 : Nat) (Option.some Jvm.ClassFile.FieldType.int)) ∈ xT := List.mem_filter.mpr ⟨tks_18 _ (List.mem_of_getElem? (i := 4) rfl), rfl⟩
theorem wm_810 : (Jvm.Cond.methodLink "HomeCallsModel" (146 : Nat) ({ cls := "HomeCallsModel", name := "walks", desc := "(IIII)I" } : Jvm.MethodName)) ∈ xT := List.mem_filter.mpr ⟨tks_18 _ (List.mem_of_getElem? (i := 5) rfl), rfl⟩
theorem wm_812 : (Jvm.Cond.instanceMethod ({ cls := "HomeCallsModel", name := "walks", desc := "(IIII)I" } : Jvm.MethodName)) ∈ xT := List.mem_filter.mpr ⟨tks_18 _ (List.mem_of_getElem? (i := 7) rfl), rfl⟩
theorem wm_813 : (Jvm.Cond.code ({ cls := "HomeCallsModel", name := "walks", desc := "(IIII)I" } : Jvm.MethodName) prog_8_method_37_code (6 : Nat) (Option.some Jvm.ClassFile.FieldType.int)) ∈ xT := List.mem_filter.mpr ⟨tks_18 _ (List.mem_of_getElem? (i := 8) rfl), rfl⟩
theorem wm_814 : (Jvm.Cond.methodLink "HomeCallsModel" (131 : Nat) ({ cls := "HomeCallsModel", name := "whole", desc := "()I" } : Jvm.MethodName)) ∈ xT := List.mem_filter.mpr ⟨tks_18 _ (List.mem_of_getElem? (i := 9) rfl), rfl⟩
theorem wm_816 : (Jvm.Cond.instanceMethod ({ cls := "HomeCallsModel", name := "whole", desc := "()I" } : Jvm.MethodName)) ∈ xT := List.mem_filter.mpr ⟨tks_18 _ (List.mem_of_getElem? (i := 11) rfl), rfl⟩
theorem wm_817 : (Jvm.Cond.code ({ cls := "HomeCallsModel", name := "whole", desc := "()I" } : Jvm.MethodName) prog_8_method_36_code (3 : Nat) (Option.some Jvm.ClassFile.FieldType.int)) ∈ xT := List.mem_filter.mpr ⟨tks_18 _ (List.mem_of_getElem? (i := 12) rfl), rfl⟩
theorem wm_818 : (Jvm.Cond.methodLink "HomeCallsModel" (143 : Nat) ({ cls := "HomeCallsModel", name := "both", desc := "()I" } : Jvm.MethodName)) ∈ xT := List.mem_filter.mpr ⟨tks_18 _ (List.mem_of_getElem? (i := 13) rfl), rfl⟩
theorem wm_820 : (Jvm.Cond.instanceMethod ({ cls := "HomeCallsModel", name := "both", desc := "()I" } : Jvm.MethodName)) ∈ xT := List.mem_filter.mpr ⟨tks_18 _ (List.mem_of_getElem? (i := 15) rfl), rfl⟩
theorem wm_821 : (Jvm.Cond.code ({ cls := "HomeCallsModel", name := "both", desc := "()I" } : Jvm.MethodName) prog_8_method_35_code (3 : Nat) (Option.some Jvm.ClassFile.FieldType.int)) ∈ xT := List.mem_filter.mpr ⟨tks_18 _ (List.mem_of_getElem? (i := 16) rfl), rfl⟩
theorem wm_822 : (Jvm.Cond.methodLink "HomeCallsModel" (140 : Nat) ({ cls := "HomeCallsModel", name := "compared", desc := "()I" } : Jvm.MethodName)) ∈ xT := List.mem_filter.mpr ⟨tks_18 _ (List.mem_of_getElem? (i := 17) rfl), rfl⟩
theorem wm_824 : (Jvm.Cond.instanceMethod ({ cls := "HomeCallsModel", name := "compared", desc := "()I" } : Jvm.MethodName)) ∈ xT := List.mem_filter.mpr ⟨tks_18 _ (List.mem_of_getElem? (i := 19) rfl), rfl⟩
theorem wm_825 : (Jvm.Cond.code ({ cls := "HomeCallsModel", name := "compared", desc := "()I" } : Jvm.MethodName) prog_8_method_34_code (5 : Nat) (Option.some Jvm.ClassFile.FieldType.int)) ∈ xT := List.mem_filter.mpr ⟨tks_18 _ (List.mem_of_getElem? (i := 20) rfl), rfl⟩
theorem wm_826 : (Jvm.Cond.methodLink "HomeCallsModel" (137 : Nat) ({ cls := "HomeCallsModel", name := "sum", desc := "()I" } : Jvm.MethodName)) ∈ xT := List.mem_filter.mpr ⟨tks_18 _ (List.mem_of_getElem? (i := 21) rfl), rfl⟩
theorem wm_828 : (Jvm.Cond.instanceMethod ({ cls := "HomeCallsModel", name := "sum", desc := "()I" } : Jvm.MethodName)) ∈ xT := List.mem_filter.mpr ⟨tks_18 _ (List.mem_of_getElem? (i := 23) rfl), rfl⟩
theorem wm_829 : (Jvm.Cond.code ({ cls := "HomeCallsModel", name := "sum", desc := "()I" } : Jvm.MethodName) prog_8_method_33_code (4 : Nat) (Option.some Jvm.ClassFile.FieldType.int)) ∈ xT := List.mem_filter.mpr ⟨tks_18 _ (List.mem_of_getElem? (i := 24) rfl), rfl⟩
theorem wm_830 : (Jvm.Cond.methodLink "HomeCallsModel" (134 : Nat) ({ cls := "HomeCallsModel", name := "product", desc := "()I" } : Jvm.MethodName)) ∈ xT := List.mem_filter.mpr ⟨tks_18 _ (List.mem_of_getElem? (i := 25) rfl), rfl⟩
theorem wm_832 : (Jvm.Cond.instanceMethod ({ cls := "HomeCallsModel", name := "product", desc := "()I" } : Jvm.MethodName)) ∈ xT := List.mem_filter.mpr ⟨tks_18 _ (List.mem_of_getElem? (i := 27) rfl), rfl⟩
theorem wm_833 : (Jvm.Cond.code ({ cls := "HomeCallsModel", name := "product", desc := "()I" } : Jvm.MethodName) prog_8_method_32_code (4 : Nat) (Option.some Jvm.ClassFile.FieldType.int)) ∈ xT := List.mem_filter.mpr ⟨tks_18 _ (List.mem_of_getElem? (i := 28) rfl), rfl⟩
theorem wm_834 : (Jvm.Cond.methodLink "HomeCallsModel" (128 : Nat) ({ cls := "HomeCallsModel", name := "factor", desc := "()I" } : Jvm.MethodName)) ∈ xT := List.mem_filter.mpr ⟨tks_18 _ (List.mem_of_getElem? (i := 29) rfl), rfl⟩
theorem wm_836 : (Jvm.Cond.instanceMethod ({ cls := "HomeCallsModel", name := "factor", desc := "()I" } : Jvm.MethodName)) ∈ xT := List.mem_filter.mpr ⟨tks_18 _ (List.mem_of_getElem? (i := 31) rfl), rfl⟩
theorem wm_837 : (Jvm.Cond.code ({ cls := "HomeCallsModel", name := "factor", desc := "()I" } : Jvm.MethodName) prog_8_method_31_code (3 : Nat) (Option.some Jvm.ClassFile.FieldType.int)) ∈ xT := List.mem_filter.mpr ⟨tks_18 _ (List.mem_of_getElem? (i := 32) rfl), rfl⟩
theorem wm_838 : (Jvm.Cond.methodLink "HomeCallsModel" (100 : Nat) ({ cls := "HomeCallsModel", name := "byteAt", desc := "(I)I" } : Jvm.MethodName)) ∈ xT := List.mem_filter.mpr ⟨tks_18 _ (List.mem_of_getElem? (i := 33) rfl), rfl⟩
theorem wm_840 : (Jvm.Cond.instanceMethod ({ cls := "HomeCallsModel", name := "byteAt", desc := "(I)I" } : Jvm.MethodName)) ∈ xT := List.mem_filter.mpr ⟨tks_18 _ (List.mem_of_getElem? (i := 35) rfl), rfl⟩
theorem wm_841 : (Jvm.Cond.code ({ cls := "HomeCallsModel", name := "byteAt", desc := "(I)I" } : Jvm.MethodName) prog_8_method_26_code (2 : Nat) (Option.some Jvm.ClassFile.FieldType.int)) ∈ xT := List.mem_filter.mpr ⟨tks_18 _ (List.mem_of_getElem? (i := 36) rfl), rfl⟩
theorem wm_842 : (Jvm.Cond.methodLink "HomeCallsModel" (103 : Nat) ({ cls := "HomeCallsModel", name := "isDigit", desc := "(I)Z" } : Jvm.MethodName)) ∈ xT := List.mem_filter.mpr ⟨tks_18 _ (List.mem_of_getElem? (i := 37) rfl), rfl⟩
theorem wm_843 : (Jvm.Cond.static ({ cls := "HomeCallsModel", name := "isDigit", desc := "(I)Z" } : Jvm.MethodName)) ∈ xT := List.mem_filter.mpr ⟨tks_18 _ (List.mem_of_getElem? (i := 38) rfl), rfl⟩
theorem wm_844 : (Jvm.Cond.code ({ cls := "HomeCallsModel", name := "isDigit", desc := "(I)Z" } : Jvm.MethodName) prog_8_method_27_code (1 : Nat) (Option.some Jvm.ClassFile.FieldType.boolean)) ∈ xT := List.mem_filter.mpr ⟨tks_18 _ (List.mem_of_getElem? (i := 39) rfl), rfl⟩
theorem wm_845 : (Jvm.Cond.methodLink "HomeCallsModel" (119 : Nat) ({ cls := "HomeCallsModel", name := "number", desc := "()I" } : Jvm.MethodName)) ∈ xT := List.mem_filter.mpr ⟨tks_18 _ (List.mem_of_getElem? (i := 40) rfl), rfl⟩
theorem wm_847 : (Jvm.Cond.instanceMethod ({ cls := "HomeCallsModel", name := "number", desc := "()I" } : Jvm.MethodName)) ∈ xT := List.mem_filter.mpr ⟨tks_18 _ (List.mem_of_getElem? (i := 42) rfl), rfl⟩
theorem wm_848 : (Jvm.Cond.code ({ cls := "HomeCallsModel", name := "number", desc := "()I" } : Jvm.MethodName) prog_8_method_29_code (3 : Nat) (Option.some Jvm.ClassFile.FieldType.int)) ∈ xT := List.mem_filter.mpr ⟨tks_18 _ (List.mem_of_getElem? (i := 43) rfl), rfl⟩
theorem wm_849 : (Jvm.Cond.methodLink "HomeCallsModel" (122 : Nat) ({ cls := "HomeCallsModel", name := "named", desc := "(I)I" } : Jvm.MethodName)) ∈ xT := List.mem_filter.mpr ⟨tks_18 _ (List.mem_of_getElem? (i := 44) rfl), rfl⟩
theorem wm_851 : (Jvm.Cond.instanceMethod ({ cls := "HomeCallsModel", name := "named", desc := "(I)I" } : Jvm.MethodName)) ∈ xT := List.mem_filter.mpr ⟨tks_18 _ (List.mem_of_getElem? (i := 46) rfl), rfl⟩
theorem wm_852 : (Jvm.Cond.code ({ cls := "HomeCallsModel", name := "named", desc := "(I)I" } : Jvm.MethodName) prog_8_method_30_code (5 : Nat) (Option.some Jvm.ClassFile.FieldType.int)) ∈ xT := List.mem_filter.mpr ⟨tks_18 _ (List.mem_of_getElem? (i := 47) rfl), rfl⟩
theorem wm_853 : (Jvm.Cond.methodLink "HomeCallsModel" (106 : Nat) ({ cls := "HomeCallsModel", name := "fails", desc := "()I" } : Jvm.MethodName)) ∈ xT := List.mem_filter.mpr ⟨tks_19 _ (List.mem_of_getElem? (i := 0) rfl), rfl⟩
theorem wm_855 : (Jvm.Cond.instanceMethod ({ cls := "HomeCallsModel", name := "fails", desc := "()I" } : Jvm.MethodName)) ∈ xT := List.mem_filter.mpr ⟨tks_19 _ (List.mem_of_getElem? (i := 2) rfl), rfl⟩
theorem wm_856 : (Jvm.Cond.code ({ cls := "HomeCallsModel", name := "fails", desc := "()I" } : Jvm.MethodName) prog_8_method_28_code (1 : Nat) (Option.some Jvm.ClassFile.FieldType.int)) ∈ xT := List.mem_filter.mpr ⟨tks_19 _ (List.mem_of_getElem? (i := 3) rfl), rfl⟩
theorem wm_857 : (Jvm.Cond.methodLink "HomeCallsModel" (150 : Nat) ({ cls := "HomeCallsModel", name := "held", desc := "(III)I" } : Jvm.MethodName)) ∈ xT := List.mem_filter.mpr ⟨tks_19 _ (List.mem_of_getElem? (i := 4) rfl), rfl⟩
theorem wm_858 : (Jvm.Cond.static ({ cls := "HomeCallsModel", name := "held", desc := "(III)I" } : Jvm.MethodName)) ∈ xT := List.mem_filter.mpr ⟨tks_19 _ (List.mem_of_getElem? (i := 5) rfl), rfl⟩
theorem wm_859 : (Jvm.Cond.code ({ cls := "HomeCallsModel", name := "held", desc := "(III)I" } : Jvm.MethodName) prog_8_method_4_code (3 : Nat) (Option.some Jvm.ClassFile.FieldType.int)) ∈ xT := List.mem_filter.mpr ⟨tks_19 _ (List.mem_of_getElem? (i := 6) rfl), rfl⟩
theorem wm_860 : (Jvm.Cond.methodLink "HomeCallsLaw" (58 : Nat) ({ cls := "HomeCallsModel", name := "feed", desc := "(JI)I" } : Jvm.MethodName)) ∈ xT := List.mem_filter.mpr ⟨tks_19 _ (List.mem_of_getElem? (i := 7) rfl), rfl⟩
theorem wm_861 : (Jvm.Cond.instanceMethod ({ cls := "HomeCallsModel", name := "feed", desc := "(JI)I" } : Jvm.MethodName)) ∈ xT := List.mem_filter.mpr ⟨tks_19 _ (List.mem_of_getElem? (i := 8) rfl), rfl⟩
theorem wm_862 : (Jvm.Cond.selects "HomeCallsModel" ({ cls := "HomeCallsModel", name := "feed", desc := "(JI)I" } : Jvm.MethodName) ({ cls := "HomeCallsModel", name := "feed", desc := "(JI)I" } : Jvm.MethodName)) ∈ xT := List.mem_filter.mpr ⟨tks_19 _ (List.mem_of_getElem? (i := 9) rfl), rfl⟩
theorem wm_863 : (Jvm.Cond.code ({ cls := "HomeCallsModel", name := "feed", desc := "(JI)I" } : Jvm.MethodName) prog_8_method_40_code (5 : Nat) (Option.some Jvm.ClassFile.FieldType.int)) ∈ xT := List.mem_filter.mpr ⟨tks_19 _ (List.mem_of_getElem? (i := 10) rfl), rfl⟩
theorem wm_864 : (Jvm.Cond.constantLong "HomeCallsModel" (157 : Nat) (255 : Int64)) ∈ xT := List.mem_filter.mpr ⟨tks_19 _ (List.mem_of_getElem? (i := 11) rfl), rfl⟩
theorem wm_865 : (Jvm.Cond.methodLink "HomeCallsLaw" (62 : Nat) ({ cls := "HomeCallsModel", name := "text", desc := "(I)I" } : Jvm.MethodName)) ∈ xT := List.mem_filter.mpr ⟨tks_19 _ (List.mem_of_getElem? (i := 12) rfl), rfl⟩
theorem wm_866 : (Jvm.Cond.instanceMethod ({ cls := "HomeCallsModel", name := "text", desc := "(I)I" } : Jvm.MethodName)) ∈ xT := List.mem_filter.mpr ⟨tks_19 _ (List.mem_of_getElem? (i := 13) rfl), rfl⟩
theorem wm_867 : (Jvm.Cond.selects "HomeCallsModel" ({ cls := "HomeCallsModel", name := "text", desc := "(I)I" } : Jvm.MethodName) ({ cls := "HomeCallsModel", name := "text", desc := "(I)I" } : Jvm.MethodName)) ∈ xT := List.mem_filter.mpr ⟨tks_19 _ (List.mem_of_getElem? (i := 14) rfl), rfl⟩
theorem wm_868 : (Jvm.Cond.code ({ cls := "HomeCallsModel", name := "text", desc := "(I)I" } : Jvm.MethodName) prog_8_method_41_code (5 : Nat) (Option.some Jvm.ClassFile.FieldType.int)) ∈ xT := List.mem_filter.mpr ⟨tks_19 _ (List.mem_of_getElem? (i := 15) rfl), rfl⟩
theorem wm_869 : (Jvm.Cond.methodLink "HomeCallsModel" (159 : Nat) ({ cls := "HomeCallsModel", name := "moveAll", desc := "([I[I)V" } : Jvm.MethodName)) ∈ xT := List.mem_filter.mpr ⟨tks_19 _ (List.mem_of_getElem? (i := 16) rfl), rfl⟩
theorem wm_871 : (Jvm.Cond.instanceMethod ({ cls := "HomeCallsModel", name := "moveAll", desc := "([I[I)V" } : Jvm.MethodName)) ∈ xT := List.mem_filter.mpr ⟨tks_19 _ (List.mem_of_getElem? (i := 18) rfl), rfl⟩
theorem wm_872 : (Jvm.Cond.code ({ cls := "HomeCallsModel", name := "moveAll", desc := "([I[I)V" } : Jvm.MethodName) prog_8_method_5_code (4 : Nat) (Option.none : Option Jvm.ClassFile.FieldType)) ∈ xT := List.mem_filter.mpr ⟨tks_19 _ (List.mem_of_getElem? (i := 19) rfl), rfl⟩
theorem wm_873 : (Jvm.Cond.methodLink "HomeCallsLaw" (71 : Nat) ({ cls := "HomeCallsModel", name := "call", desc := "(II)I" } : Jvm.MethodName)) ∈ xT := List.mem_filter.mpr ⟨tks_19 _ (List.mem_of_getElem? (i := 20) rfl), rfl⟩
theorem wm_874 : (Jvm.Cond.instanceMethod ({ cls := "HomeCallsModel", name := "call", desc := "(II)I" } : Jvm.MethodName)) ∈ xT := List.mem_filter.mpr ⟨tks_19 _ (List.mem_of_getElem? (i := 21) rfl), rfl⟩
theorem wm_875 : (Jvm.Cond.selects "HomeCallsModel" ({ cls := "HomeCallsModel", name := "call", desc := "(II)I" } : Jvm.MethodName) ({ cls := "HomeCallsModel", name := "call", desc := "(II)I" } : Jvm.MethodName)) ∈ xT := List.mem_filter.mpr ⟨tks_19 _ (List.mem_of_getElem? (i := 22) rfl), rfl⟩
theorem wm_876 : (Jvm.Cond.code ({ cls := "HomeCallsModel", name := "call", desc := "(II)I" } : Jvm.MethodName) prog_8_method_51_code (3 : Nat) (Option.some Jvm.ClassFile.FieldType.int)) ∈ xT := List.mem_filter.mpr ⟨tks_19 _ (List.mem_of_getElem? (i := 23) rfl), rfl⟩
theorem wm_877 : (Jvm.Cond.methodLink "HomeCallsModel" (185 : Nat) ({ cls := "HomeCallsModel", name := "isMark", desc := "(I)Z" } : Jvm.MethodName)) ∈ xT := List.mem_filter.mpr ⟨tks_19 _ (List.mem_of_getElem? (i := 24) rfl), rfl⟩
theorem wm_878 : (Jvm.Cond.static ({ cls := "HomeCallsModel", name := "isMark", desc := "(I)Z" } : Jvm.MethodName)) ∈ xT := List.mem_filter.mpr ⟨tks_19 _ (List.mem_of_getElem? (i := 25) rfl), rfl⟩
theorem wm_879 : (Jvm.Cond.code ({ cls := "HomeCallsModel", name := "isMark", desc := "(I)Z" } : Jvm.MethodName) prog_8_method_10_code (1 : Nat) (Option.some Jvm.ClassFile.FieldType.boolean)) ∈ xT := List.mem_filter.mpr ⟨tks_19 _ (List.mem_of_getElem? (i := 26) rfl), rfl⟩
theorem wm_880 : (Jvm.Cond.methodLink "HomeCallsModel" (188 : Nat) ({ cls := "HomeCallsModel", name := "areSteps", desc := "(I)Z" } : Jvm.MethodName)) ∈ xT := List.mem_filter.mpr ⟨tks_19 _ (List.mem_of_getElem? (i := 27) rfl), rfl⟩
theorem wm_881 : (Jvm.Cond.static ({ cls := "HomeCallsModel", name := "areSteps", desc := "(I)Z" } : Jvm.MethodName)) ∈ xT := List.mem_filter.mpr ⟨tks_19 _ (List.mem_of_getElem? (i := 28) rfl), rfl⟩
theorem wm_882 : (Jvm.Cond.code ({ cls := "HomeCallsModel", name := "areSteps", desc := "(I)Z" } : Jvm.MethodName) prog_8_method_11_code (1 : Nat) (Option.some Jvm.ClassFile.FieldType.boolean)) ∈ xT := List.mem_filter.mpr ⟨tks_19 _ (List.mem_of_getElem? (i := 29) rfl), rfl⟩
theorem wm_883 : (Jvm.Cond.constant "HomeCallsModel" (191 : Nat) (-1000000003 : Int32)) ∈ xT := List.mem_filter.mpr ⟨tks_19 _ (List.mem_of_getElem? (i := 30) rfl), rfl⟩
theorem wm_884 : (Jvm.Cond.methodLink "HomeCallsModel" (182 : Nat) ({ cls := "HomeCallsModel", name := "calls", desc := "(II)I" } : Jvm.MethodName)) ∈ xT := List.mem_filter.mpr ⟨tks_19 _ (List.mem_of_getElem? (i := 31) rfl), rfl⟩
theorem wm_886 : (Jvm.Cond.instanceMethod ({ cls := "HomeCallsModel", name := "calls", desc := "(II)I" } : Jvm.MethodName)) ∈ xT := List.mem_filter.mpr ⟨tks_19 _ (List.mem_of_getElem? (i := 33) rfl), rfl⟩
theorem wm_887 : (Jvm.Cond.code ({ cls := "HomeCallsModel", name := "calls", desc := "(II)I" } : Jvm.MethodName) prog_8_method_49_code (7 : Nat) (Option.some Jvm.ClassFile.FieldType.int)) ∈ xT := List.mem_filter.mpr ⟨tks_19 _ (List.mem_of_getElem? (i := 34) rfl), rfl⟩
theorem wm_888 : (Jvm.Cond.methodLink "HomeCallsModel" (176 : Nat) ({ cls := "HomeCallsModel", name := "ends", desc := "(III)I" } : Jvm.MethodName)) ∈ xT := List.mem_filter.mpr ⟨tks_19 _ (List.mem_of_getElem? (i := 35) rfl), rfl⟩
theorem wm_890 : (Jvm.Cond.instanceMethod ({ cls := "HomeCallsModel", name := "ends", desc := "(III)I" } : Jvm.MethodName)) ∈ xT := List.mem_filter.mpr ⟨tks_19 _ (List.mem_of_getElem? (i := 37) rfl), rfl⟩
theorem wm_891 : (Jvm.Cond.code ({ cls := "HomeCallsModel", name := "ends", desc := "(III)I" } : Jvm.MethodName) prog_8_method_47_code (9 : Nat) (Option.some Jvm.ClassFile.FieldType.int)) ∈ xT := List.mem_filter.mpr ⟨tks_19 _ (List.mem_of_getElem? (i := 38) rfl), rfl⟩
theorem wm_892 : (Jvm.Cond.methodLink "HomeCallsModel" (173 : Nat) ({ cls := "HomeCallsModel", name := "aim", desc := "(II)I" } : Jvm.MethodName)) ∈ xT := List.mem_filter.mpr ⟨tks_19 _ (List.mem_of_getElem? (i := 39) rfl), rfl⟩
theorem wm_894 : (Jvm.Cond.instanceMethod ({ cls := "HomeCallsModel", name := "aim", desc := "(II)I" } : Jvm.MethodName)) ∈ xT := List.mem_filter.mpr ⟨tks_19 _ (List.mem_of_getElem? (i := 41) rfl), rfl⟩
theorem wm_895 : (Jvm.Cond.code ({ cls := "HomeCallsModel", name := "aim", desc := "(II)I" } : Jvm.MethodName) prog_8_method_46_code (7 : Nat) (Option.some Jvm.ClassFile.FieldType.int)) ∈ xT := List.mem_filter.mpr ⟨tks_19 _ (List.mem_of_getElem? (i := 42) rfl), rfl⟩
theorem wm_896 : (Jvm.Cond.methodLink "HomeCallsModel" (166 : Nat) ({ cls := "HomeCallsModel", name := "round", desc := "(II)I" } : Jvm.MethodName)) ∈ xT := List.mem_filter.mpr ⟨tks_19 _ (List.mem_of_getElem? (i := 43) rfl), rfl⟩
theorem wm_897 : (Jvm.Cond.static ({ cls := "HomeCallsModel", name := "round", desc := "(II)I" } : Jvm.MethodName)) ∈ xT := List.mem_filter.mpr ⟨tks_19 _ (List.mem_of_getElem? (i := 44) rfl), rfl⟩
theorem wm_898 : (Jvm.Cond.code ({ cls := "HomeCallsModel", name := "round", desc := "(II)I" } : Jvm.MethodName) prog_8_method_44_code (3 : Nat) (Option.some Jvm.ClassFile.FieldType.int)) ∈ xT := List.mem_filter.mpr ⟨tks_19 _ (List.mem_of_getElem? (i := 45) rfl), rfl⟩
theorem wm_899 : (Jvm.Cond.methodLink "HomeCallsModel" (169 : Nat) ({ cls := "HomeCallsModel", name := "isMarked", desc := "(II)Z" } : Jvm.MethodName)) ∈ xT := List.mem_filter.mpr ⟨tks_19 _ (List.mem_of_getElem? (i := 46) rfl), rfl⟩
theorem wm_901 : (Jvm.Cond.instanceMethod ({ cls := "HomeCallsModel", name := "isMarked", desc := "(II)Z" } : Jvm.MethodName)) ∈ xT := List.mem_filter.mpr ⟨tks_20 _ (List.mem_of_getElem? (i := 0) rfl), rfl⟩
theorem wm_902 : (Jvm.Cond.code ({ cls := "HomeCallsModel", name := "isMarked", desc := "(II)Z" } : Jvm.MethodName) prog_8_method_45_code (3 : Nat) (Option.some Jvm.ClassFile.FieldType.boolean)) ∈ xT := List.mem_filter.mpr ⟨tks_20 _ (List.mem_of_getElem? (i := 1) rfl), rfl⟩
theorem wm_903 : (Jvm.Cond.methodLink "HomeCallsModel" (179 : Nat) ({ cls := "HomeCallsModel", name := "isSafe", desc := "(II)Z" } : Jvm.MethodName)) ∈ xT := List.mem_filter.mpr ⟨tks_20 _ (List.mem_of_getElem? (i := 2) rfl), rfl⟩
theorem wm_905 : (Jvm.Cond.instanceMethod ({ cls := "HomeCallsModel", name := "isSafe", desc := "(II)Z" } : Jvm.MethodName)) ∈ xT := List.mem_filter.mpr ⟨tks_20 _ (List.mem_of_getElem? (i := 4) rfl), rfl⟩
theorem wm_906 : (Jvm.Cond.code ({ cls := "HomeCallsModel", name := "isSafe", desc := "(II)Z" } : Jvm.MethodName) prog_8_method_48_code (6 : Nat) (Option.some Jvm.ClassFile.FieldType.boolean)) ∈ xT := List.mem_filter.mpr ⟨tks_20 _ (List.mem_of_getElem? (i := 5) rfl), rfl⟩
theorem wm_907 : (Jvm.Cond.methodLink "HomeCallsLaw" (75 : Nat) ({ cls := "HomeCallsModel", name := "loose", desc := "(I)I" } : Jvm.MethodName)) ∈ xT := List.mem_filter.mpr ⟨tks_20 _ (List.mem_of_getElem? (i := 6) rfl), rfl⟩
theorem wm_908 : (Jvm.Cond.instanceMethod ({ cls := "HomeCallsModel", name := "loose", desc := "(I)I" } : Jvm.MethodName)) ∈ xT := List.mem_filter.mpr ⟨tks_20 _ (List.mem_of_getElem? (i := 7) rfl), rfl⟩
theorem wm_909 : (Jvm.Cond.selects "HomeCallsModel" ({ cls := "HomeCallsModel", name := "loose", desc := "(I)I" } : Jvm.MethodName) ({ cls := "HomeCallsModel", name := "loose", desc := "(I)I" } : Jvm.MethodName)) ∈ xT := List.mem_filter.mpr ⟨tks_20 _ (List.mem_of_getElem? (i := 8) rfl), rfl⟩
theorem wm_910 : (Jvm.Cond.code ({ cls := "HomeCallsModel", name := "loose", desc := "(I)I" } : Jvm.MethodName) prog_8_method_53_code (5 : Nat) (Option.some Jvm.ClassFile.FieldType.int)) ∈ xT := List.mem_filter.mpr ⟨tks_20 _ (List.mem_of_getElem? (i := 9) rfl), rfl⟩
theorem wm_911 : (Jvm.Cond.methodLink "HomeCallsModel" (193 : Nat) ({ cls := "HomeCallsModel", name := "drawn", desc := "(I)I" } : Jvm.MethodName)) ∈ xT := List.mem_filter.mpr ⟨tks_20 _ (List.mem_of_getElem? (i := 10) rfl), rfl⟩
theorem wm_913 : (Jvm.Cond.instanceMethod ({ cls := "HomeCallsModel", name := "drawn", desc := "(I)I" } : Jvm.MethodName)) ∈ xT := List.mem_filter.mpr ⟨tks_20 _ (List.mem_of_getElem? (i := 12) rfl), rfl⟩
theorem wm_914 : (Jvm.Cond.code ({ cls := "HomeCallsModel", name := "drawn", desc := "(I)I" } : Jvm.MethodName) prog_8_method_52_code (2 : Nat) (Option.some Jvm.ClassFile.FieldType.int)) ∈ xT := List.mem_filter.mpr ⟨tks_20 _ (List.mem_of_getElem? (i := 13) rfl), rfl⟩
theorem wm_915 : (Jvm.Cond.constant "HomeCallsModel" (192 : Nat) (1103515245 : Int32)) ∈ xT := List.mem_filter.mpr ⟨tks_20 _ (List.mem_of_getElem? (i := 14) rfl), rfl⟩
theorem wm_916 : (Jvm.Cond.methodLink "HomeCallsModel" (196 : Nat) ({ cls := "HomeCallsModel", name := "bits", desc := "(I)I" } : Jvm.MethodName)) ∈ xT := List.mem_filter.mpr ⟨tks_20 _ (List.mem_of_getElem? (i := 15) rfl), rfl⟩
theorem wm_917 : (Jvm.Cond.static ({ cls := "HomeCallsModel", name := "bits", desc := "(I)I" } : Jvm.MethodName)) ∈ xT := List.mem_filter.mpr ⟨tks_20 _ (List.mem_of_getElem? (i := 16) rfl), rfl⟩
theorem wm_918 : (Jvm.Cond.code ({ cls := "HomeCallsModel", name := "bits", desc := "(I)I" } : Jvm.MethodName) prog_8_method_6_code (3 : Nat) (Option.some Jvm.ClassFile.FieldType.int)) ∈ xT := List.mem_filter.mpr ⟨tks_20 _ (List.mem_of_getElem? (i := 17) rfl), rfl⟩
theorem wm_919 : (Jvm.Cond.methodLink "HomeCallsLaw" (79 : Nat) ({ cls := "HomeCallsModel", name := "hadBy", desc := "(II)I" } : Jvm.MethodName)) ∈ xT := List.mem_filter.mpr ⟨tks_20 _ (List.mem_of_getElem? (i := 18) rfl), rfl⟩
theorem wm_920 : (Jvm.Cond.instanceMethod ({ cls := "HomeCallsModel", name := "hadBy", desc := "(II)I" } : Jvm.MethodName)) ∈ xT := List.mem_filter.mpr ⟨tks_20 _ (List.mem_of_getElem? (i := 19) rfl), rfl⟩
theorem wm_921 : (Jvm.Cond.selects "HomeCallsModel" ({ cls := "HomeCallsModel", name := "hadBy", desc := "(II)I" } : Jvm.MethodName) ({ cls := "HomeCallsModel", name := "hadBy", desc := "(II)I" } : Jvm.MethodName)) ∈ xT := List.mem_filter.mpr ⟨tks_20 _ (List.mem_of_getElem? (i := 20) rfl), rfl⟩
theorem wm_922 : (Jvm.Cond.code ({ cls := "HomeCallsModel", name := "hadBy", desc := "(II)I" } : Jvm.MethodName) prog_8_method_54_code (3 : Nat) (Option.some Jvm.ClassFile.FieldType.int)) ∈ xT := List.mem_filter.mpr ⟨tks_20 _ (List.mem_of_getElem? (i := 21) rfl), rfl⟩
theorem wm_923 : (Jvm.Cond.methodLink "HomeCallsModel" (199 : Nat) ({ cls := "HomeCallsModel", name := "wouldBe", desc := "(II)I" } : Jvm.MethodName)) ∈ xT := List.mem_filter.mpr ⟨tks_20 _ (List.mem_of_getElem? (i := 22) rfl), rfl⟩
theorem wm_925 : (Jvm.Cond.instanceMethod ({ cls := "HomeCallsModel", name := "wouldBe", desc := "(II)I" } : Jvm.MethodName)) ∈ xT := List.mem_filter.mpr ⟨tks_20 _ (List.mem_of_getElem? (i := 24) rfl), rfl⟩
theorem wm_926 : (Jvm.Cond.code ({ cls := "HomeCallsModel", name := "wouldBe", desc := "(II)I" } : Jvm.MethodName) prog_8_method_50_code (4 : Nat) (Option.some Jvm.ClassFile.FieldType.int)) ∈ xT := List.mem_filter.mpr ⟨tks_20 _ (List.mem_of_getElem? (i := 25) rfl), rfl⟩
theorem wm_927 : (Jvm.Cond.methodLink "HomeCallsLaw" (83 : Nat) ({ cls := "HomeCallsModel", name := "runsTo", desc := "(III)I" } : Jvm.MethodName)) ∈ xT := List.mem_filter.mpr ⟨tks_20 _ (List.mem_of_getElem? (i := 26) rfl), rfl⟩
theorem wm_928 : (Jvm.Cond.instanceMethod ({ cls := "HomeCallsModel", name := "runsTo", desc := "(III)I" } : Jvm.MethodName)) ∈ xT := List.mem_filter.mpr ⟨tks_20 _ (List.mem_of_getElem? (i := 27) rfl), rfl⟩
theorem wm_929 : (Jvm.Cond.selects "HomeCallsModel" ({ cls := "HomeCallsModel", name := "runsTo", desc := "(III)I" } : Jvm.MethodName) ({ cls := "HomeCallsModel", name := "runsTo", desc := "(III)I" } : Jvm.MethodName)) ∈ xT := List.mem_filter.mpr ⟨tks_20 _ (List.mem_of_getElem? (i := 28) rfl), rfl⟩
theorem wm_930 : (Jvm.Cond.code ({ cls := "HomeCallsModel", name := "runsTo", desc := "(III)I" } : Jvm.MethodName) prog_8_method_55_code (4 : Nat) (Option.some Jvm.ClassFile.FieldType.int)) ∈ xT := List.mem_filter.mpr ⟨tks_20 _ (List.mem_of_getElem? (i := 29) rfl), rfl⟩
theorem wm_931 : (Jvm.Cond.methodLink "HomeCallsLaw" (87 : Nat) ({ cls := "HomeCallsModel", name := "worst", desc := "(II)I" } : Jvm.MethodName)) ∈ xT := List.mem_filter.mpr ⟨tks_20 _ (List.mem_of_getElem? (i := 30) rfl), rfl⟩
theorem wm_932 : (Jvm.Cond.instanceMethod ({ cls := "HomeCallsModel", name := "worst", desc := "(II)I" } : Jvm.MethodName)) ∈ xT := List.mem_filter.mpr ⟨tks_20 _ (List.mem_of_getElem? (i := 31) rfl), rfl⟩
theorem wm_933 : (Jvm.Cond.selects "HomeCallsModel" ({ cls := "HomeCallsModel", name := "worst", desc := "(II)I" } : Jvm.MethodName) ({ cls := "HomeCallsModel", name := "worst", desc := "(II)I" } : Jvm.MethodName)) ∈ xT := List.mem_filter.mpr ⟨tks_20 _ (List.mem_of_getElem? (i := 32) rfl), rfl⟩
theorem wm_934 : (Jvm.Cond.code ({ cls := "HomeCallsModel", name := "worst", desc := "(II)I" } : Jvm.MethodName) prog_8_method_56_code (7 : Nat) (Option.some Jvm.ClassFile.FieldType.int)) ∈ xT := List.mem_filter.mpr ⟨tks_20 _ (List.mem_of_getElem? (i := 33) rfl), rfl⟩
theorem wm_935 : (Jvm.Cond.methodLink "HomeCallsLaw" (91 : Nat) ({ cls := "HomeCallsModel", name := "best", desc := "(II)I" } : Jvm.MethodName)) ∈ xT := List.mem_filter.mpr ⟨tks_20 _ (List.mem_of_getElem? (i := 34) rfl), rfl⟩
theorem wm_936 : (Jvm.Cond.instanceMethod ({ cls := "HomeCallsModel", name := "best", desc := "(II)I" } : Jvm.MethodName)) ∈ xT := List.mem_filter.mpr ⟨tks_20 _ (List.mem_of_getElem? (i := 35) rfl), rfl⟩
theorem wm_937 : (Jvm.Cond.selects "HomeCallsModel" ({ cls := "HomeCallsModel", name := "best", desc := "(II)I" } : Jvm.MethodName) ({ cls := "HomeCallsModel", name := "best", desc := "(II)I" } : Jvm.MethodName)) ∈ xT := List.mem_filter.mpr ⟨tks_20 _ (List.mem_of_getElem? (i := 36) rfl), rfl⟩
theorem wm_938 : (Jvm.Cond.code ({ cls := "HomeCallsModel", name := "best", desc := "(II)I" } : Jvm.MethodName) prog_8_method_57_code (7 : Nat) (Option.some Jvm.ClassFile.FieldType.int)) ∈ xT := List.mem_filter.mpr ⟨tks_20 _ (List.mem_of_getElem? (i := 37) rfl), rfl⟩
theorem wm_939 : (Jvm.Cond.methodLink "HomeCallsLaw" (95 : Nat) ({ cls := "HomeCallsModel", name := "stand", desc := "(III)I" } : Jvm.MethodName)) ∈ xT := List.mem_filter.mpr ⟨tks_20 _ (List.mem_of_getElem? (i := 38) rfl), rfl⟩
theorem wm_940 : (Jvm.Cond.instanceMethod ({ cls := "HomeCallsModel", name := "stand", desc := "(III)I" } : Jvm.MethodName)) ∈ xT := List.mem_filter.mpr ⟨tks_20 _ (List.mem_of_getElem? (i := 39) rfl), rfl⟩
theorem wm_941 : (Jvm.Cond.selects "HomeCallsModel" ({ cls := "HomeCallsModel", name := "stand", desc := "(III)I" } : Jvm.MethodName) ({ cls := "HomeCallsModel", name := "stand", desc := "(III)I" } : Jvm.MethodName)) ∈ xT := List.mem_filter.mpr ⟨tks_20 _ (List.mem_of_getElem? (i := 40) rfl), rfl⟩
theorem wm_942 : (Jvm.Cond.code ({ cls := "HomeCallsModel", name := "stand", desc := "(III)I" } : Jvm.MethodName) prog_8_method_59_code (9 : Nat) (Option.some Jvm.ClassFile.FieldType.int)) ∈ xT := List.mem_filter.mpr ⟨tks_20 _ (List.mem_of_getElem? (i := 41) rfl), rfl⟩
theorem wm_943 : (Jvm.Cond.methodLink "HomeCallsModel" (202 : Nat) ({ cls := "HomeCallsModel", name := "hadOften", desc := "(II)I" } : Jvm.MethodName)) ∈ xT := List.mem_filter.mpr ⟨tks_20 _ (List.mem_of_getElem? (i := 42) rfl), rfl⟩
theorem wm_945 : (Jvm.Cond.instanceMethod ({ cls := "HomeCallsModel", name := "hadOften", desc := "(II)I" } : Jvm.MethodName)) ∈ xT := List.mem_filter.mpr ⟨tks_20 _ (List.mem_of_getElem? (i := 44) rfl), rfl⟩
theorem wm_946 : (Jvm.Cond.code ({ cls := "HomeCallsModel", name := "hadOften", desc := "(II)I" } : Jvm.MethodName) prog_8_method_58_code (5 : Nat) (Option.some Jvm.ClassFile.FieldType.int)) ∈ xT := List.mem_filter.mpr ⟨tks_20 _ (List.mem_of_getElem? (i := 45) rfl), rfl⟩
theorem wm_947 : (Jvm.Cond.methodLink "HomeCallsLaw" (99 : Nat) ({ cls := "HomeCallsModel", name := "steps", desc := "(I)I" } : Jvm.MethodName)) ∈ xT := List.mem_filter.mpr ⟨tks_20 _ (List.mem_of_getElem? (i := 46) rfl), rfl⟩
theorem wm_948 : (Jvm.Cond.instanceMethod ({ cls := "HomeCallsModel", name := "steps", desc := "(I)I" } : Jvm.MethodName)) ∈ xT := List.mem_filter.mpr ⟨tks_20 _ (List.mem_of_getElem? (i := 47) rfl), rfl⟩
theorem wm_949 : (Jvm.Cond.selects "HomeCallsModel" ({ cls := "HomeCallsModel", name := "steps", desc := "(I)I" } : Jvm.MethodName) ({ cls := "HomeCallsModel", name := "steps", desc := "(I)I" } : Jvm.MethodName)) ∈ xT := List.mem_filter.mpr ⟨tks_21 _ (List.mem_of_getElem? (i := 0) rfl), rfl⟩
theorem wm_950 : (Jvm.Cond.code ({ cls := "HomeCallsModel", name := "steps", desc := "(I)I" } : Jvm.MethodName) prog_8_method_60_code (3 : Nat) (Option.some Jvm.ClassFile.FieldType.int)) ∈ xT := List.mem_filter.mpr ⟨tks_21 _ (List.mem_of_getElem? (i := 1) rfl), rfl⟩
theorem wm_951 : (Jvm.Cond.constant "HomeCallsModel" (205 : Nat) (-1000000002 : Int32)) ∈ xT := List.mem_filter.mpr ⟨tks_21 _ (List.mem_of_getElem? (i := 2) rfl), rfl⟩
theorem wm_952 : (Jvm.Cond.methodLink "HomeCallsLaw" (103 : Nat) ({ cls := "HomeCallsModel", name := "take", desc := "(III)I" } : Jvm.MethodName)) ∈ xT := List.mem_filter.mpr ⟨tks_21 _ (List.mem_of_getElem? (i := 3) rfl), rfl⟩
theorem wm_953 : (Jvm.Cond.instanceMethod ({ cls := "HomeCallsModel", name := "take", desc := "(III)I" } : Jvm.MethodName)) ∈ xT := List.mem_filter.mpr ⟨tks_21 _ (List.mem_of_getElem? (i := 4) rfl), rfl⟩
theorem wm_954 : (Jvm.Cond.selects "HomeCallsModel" ({ cls := "HomeCallsModel", name := "take", desc := "(III)I" } : Jvm.MethodName) ({ cls := "HomeCallsModel", name := "take", desc := "(III)I" } : Jvm.MethodName)) ∈ xT := List.mem_filter.mpr ⟨tks_21 _ (List.mem_of_getElem? (i := 5) rfl), rfl⟩
theorem wm_955 : (Jvm.Cond.code ({ cls := "HomeCallsModel", name := "take", desc := "(III)I" } : Jvm.MethodName) prog_8_method_61_code (6 : Nat) (Option.some Jvm.ClassFile.FieldType.int)) ∈ xT := List.mem_filter.mpr ⟨tks_21 _ (List.mem_of_getElem? (i := 6) rfl), rfl⟩
theorem wm_956 : (Jvm.Cond.methodLink "HomeCallsLaw" (107 : Nat) ({ cls := "HomeCallsModel", name := "lay", desc := "(III)I" } : Jvm.MethodName)) ∈ xT := List.mem_filter.mpr ⟨tks_21 _ (List.mem_of_getElem? (i := 7) rfl), rfl⟩
theorem wm_957 : (Jvm.Cond.instanceMethod ({ cls := "HomeCallsModel", name := "lay", desc := "(III)I" } : Jvm.MethodName)) ∈ xT := List.mem_filter.mpr ⟨tks_21 _ (List.mem_of_getElem? (i := 8) rfl), rfl⟩
theorem wm_958 : (Jvm.Cond.selects "HomeCallsModel" ({ cls := "HomeCallsModel", name := "lay", desc := "(III)I" } : Jvm.MethodName) ({ cls := "HomeCallsModel", name := "lay", desc := "(III)I" } : Jvm.MethodName)) ∈ xT := List.mem_filter.mpr ⟨tks_21 _ (List.mem_of_getElem? (i := 9) rfl), rfl⟩
theorem wm_959 : (Jvm.Cond.code ({ cls := "HomeCallsModel", name := "lay", desc := "(III)I" } : Jvm.MethodName) prog_8_method_62_code (8 : Nat) (Option.some Jvm.ClassFile.FieldType.int)) ∈ xT := List.mem_filter.mpr ⟨tks_21 _ (List.mem_of_getElem? (i := 10) rfl), rfl⟩
theorem wm_960 : (Jvm.Cond.methodLink "HomeCallsLaw" (111 : Nat) ({ cls := "HomeCallsModel", name := "called", desc := "(II)I" } : Jvm.MethodName)) ∈ xT := List.mem_filter.mpr ⟨tks_21 _ (List.mem_of_getElem? (i := 11) rfl), rfl⟩
theorem wm_961 : (Jvm.Cond.instanceMethod ({ cls := "HomeCallsModel", name := "called", desc := "(II)I" } : Jvm.MethodName)) ∈ xT := List.mem_filter.mpr ⟨tks_21 _ (List.mem_of_getElem? (i := 12) rfl), rfl⟩
theorem wm_962 : (Jvm.Cond.selects "HomeCallsModel" ({ cls := "HomeCallsModel", name := "called", desc := "(II)I" } : Jvm.MethodName) ({ cls := "HomeCallsModel", name := "called", desc := "(II)I" } : Jvm.MethodName)) ∈ xT := List.mem_filter.mpr ⟨tks_21 _ (List.mem_of_getElem? (i := 13) rfl), rfl⟩
theorem wm_963 : (Jvm.Cond.code ({ cls := "HomeCallsModel", name := "called", desc := "(II)I" } : Jvm.MethodName) prog_8_method_63_code (5 : Nat) (Option.some Jvm.ClassFile.FieldType.int)) ∈ xT := List.mem_filter.mpr ⟨tks_21 _ (List.mem_of_getElem? (i := 14) rfl), rfl⟩
theorem wm_964 : (Jvm.Cond.methodLink "HomeCallsLaw" (115 : Nat) ({ cls := "HomeCallsModel", name := "parts", desc := "(II)I" } : Jvm.MethodName)) ∈ xT := List.mem_filter.mpr ⟨tks_21 _ (List.mem_of_getElem? (i := 15) rfl), rfl⟩
theorem wm_965 : (Jvm.Cond.instanceMethod ({ cls := "HomeCallsModel", name := "parts", desc := "(II)I" } : Jvm.MethodName)) ∈ xT := List.mem_filter.mpr ⟨tks_21 _ (List.mem_of_getElem? (i := 16) rfl), rfl⟩
theorem wm_966 : (Jvm.Cond.selects "HomeCallsModel" ({ cls := "HomeCallsModel", name := "parts", desc := "(II)I" } : Jvm.MethodName) ({ cls := "HomeCallsModel", name := "parts", desc := "(II)I" } : Jvm.MethodName)) ∈ xT := List.mem_filter.mpr ⟨tks_21 _ (List.mem_of_getElem? (i := 17) rfl), rfl⟩
theorem wm_967 : (Jvm.Cond.code ({ cls := "HomeCallsModel", name := "parts", desc := "(II)I" } : Jvm.MethodName) prog_8_method_65_code (7 : Nat) (Option.some Jvm.ClassFile.FieldType.int)) ∈ xT := List.mem_filter.mpr ⟨tks_21 _ (List.mem_of_getElem? (i := 18) rfl), rfl⟩
theorem wm_968 : (Jvm.Cond.methodLink "HomeCallsModel" (206 : Nat) ({ cls := "HomeCallsModel", name := "players", desc := "()I" } : Jvm.MethodName)) ∈ xT := List.mem_filter.mpr ⟨tks_21 _ (List.mem_of_getElem? (i := 19) rfl), rfl⟩
theorem wm_970 : (Jvm.Cond.instanceMethod ({ cls := "HomeCallsModel", name := "players", desc := "()I" } : Jvm.MethodName)) ∈ xT := List.mem_filter.mpr ⟨tks_21 _ (List.mem_of_getElem? (i := 21) rfl), rfl⟩
theorem wm_971 : (Jvm.Cond.code ({ cls := "HomeCallsModel", name := "players", desc := "()I" } : Jvm.MethodName) prog_8_method_64_code (1 : Nat) (Option.some Jvm.ClassFile.FieldType.int)) ∈ xT := List.mem_filter.mpr ⟨tks_21 _ (List.mem_of_getElem? (i := 22) rfl), rfl⟩
theorem wm_972 : (Jvm.Cond.methodLink "HomeCallsLaw" (119 : Nat) ({ cls := "HomeCallsModel", name := "never", desc := "(I)I" } : Jvm.MethodName)) ∈ xT := List.mem_filter.mpr ⟨tks_21 _ (List.mem_of_getElem? (i := 23) rfl), rfl⟩
theorem wm_973 : (Jvm.Cond.instanceMethod ({ cls := "HomeCallsModel", name := "never", desc := "(I)I" } : Jvm.MethodName)) ∈ xT := List.mem_filter.mpr ⟨tks_21 _ (List.mem_of_getElem? (i := 24) rfl), rfl⟩
theorem wm_974 : (Jvm.Cond.selects "HomeCallsModel" ({ cls := "HomeCallsModel", name := "never", desc := "(I)I" } : Jvm.MethodName) ({ cls := "HomeCallsModel", name := "never", desc := "(I)I" } : Jvm.MethodName)) ∈ xT := List.mem_filter.mpr ⟨tks_21 _ (List.mem_of_getElem? (i := 25) rfl), rfl⟩
theorem wm_975 : (Jvm.Cond.code ({ cls := "HomeCallsModel", name := "never", desc := "(I)I" } : Jvm.MethodName) prog_8_method_66_code (4 : Nat) (Option.some Jvm.ClassFile.FieldType.int)) ∈ xT := List.mem_filter.mpr ⟨tks_21 _ (List.mem_of_getElem? (i := 26) rfl), rfl⟩
theorem wm_976 : (Jvm.Cond.methodLink "HomeCallsLaw" (123 : Nat) ({ cls := "HomeCallsModel", name := "series", desc := "(III)I" } : Jvm.MethodName)) ∈ xT := List.mem_filter.mpr ⟨tks_21 _ (List.mem_of_getElem? (i := 27) rfl), rfl⟩
theorem wm_977 : (Jvm.Cond.instanceMethod ({ cls := "HomeCallsModel", name := "series", desc := "(III)I" } : Jvm.MethodName)) ∈ xT := List.mem_filter.mpr ⟨tks_21 _ (List.mem_of_getElem? (i := 28) rfl), rfl⟩
theorem wm_978 : (Jvm.Cond.selects "HomeCallsModel" ({ cls := "HomeCallsModel", name := "series", desc := "(III)I" } : Jvm.MethodName) ({ cls := "HomeCallsModel", name := "series", desc := "(III)I" } : Jvm.MethodName)) ∈ xT := List.mem_filter.mpr ⟨tks_21 _ (List.mem_of_getElem? (i := 29) rfl), rfl⟩
theorem wm_979 : (Jvm.Cond.code ({ cls := "HomeCallsModel", name := "series", desc := "(III)I" } : Jvm.MethodName) prog_8_method_68_code (7 : Nat) (Option.some Jvm.ClassFile.FieldType.int)) ∈ xT := List.mem_filter.mpr ⟨tks_21 _ (List.mem_of_getElem? (i := 30) rfl), rfl⟩
theorem wm_980 : (Jvm.Cond.methodLink "HomeCallsModel" (209 : Nat) ({ cls := "HomeCallsModel", name := "isSheet", desc := "(I)Z" } : Jvm.MethodName)) ∈ xT := List.mem_filter.mpr ⟨tks_21 _ (List.mem_of_getElem? (i := 31) rfl), rfl⟩
theorem wm_981 : (Jvm.Cond.static ({ cls := "HomeCallsModel", name := "isSheet", desc := "(I)Z" } : Jvm.MethodName)) ∈ xT := List.mem_filter.mpr ⟨tks_21 _ (List.mem_of_getElem? (i := 32) rfl), rfl⟩
theorem wm_982 : (Jvm.Cond.code ({ cls := "HomeCallsModel", name := "isSheet", desc := "(I)Z" } : Jvm.MethodName) prog_8_method_67_code (1 : Nat) (Option.some Jvm.ClassFile.FieldType.boolean)) ∈ xT := List.mem_filter.mpr ⟨tks_21 _ (List.mem_of_getElem? (i := 33) rfl), rfl⟩
theorem wm_983 : (Jvm.Cond.methodLink "HomeCallsLaw" (127 : Nat) ({ cls := "HomeCallsModel", name := "odds", desc := "(III)I" } : Jvm.MethodName)) ∈ xT := List.mem_filter.mpr ⟨tks_21 _ (List.mem_of_getElem? (i := 34) rfl), rfl⟩
theorem wm_984 : (Jvm.Cond.instanceMethod ({ cls := "HomeCallsModel", name := "odds", desc := "(III)I" } : Jvm.MethodName)) ∈ xT := List.mem_filter.mpr ⟨tks_21 _ (List.mem_of_getElem? (i := 35) rfl), rfl⟩
theorem wm_985 : (Jvm.Cond.selects "HomeCallsModel" ({ cls := "HomeCallsModel", name := "odds", desc := "(III)I" } : Jvm.MethodName) ({ cls := "HomeCallsModel", name := "odds", desc := "(III)I" } : Jvm.MethodName)) ∈ xT := List.mem_filter.mpr ⟨tks_21 _ (List.mem_of_getElem? (i := 36) rfl), rfl⟩
theorem wm_986 : (Jvm.Cond.code ({ cls := "HomeCallsModel", name := "odds", desc := "(III)I" } : Jvm.MethodName) prog_8_method_70_code (6 : Nat) (Option.some Jvm.ClassFile.FieldType.int)) ∈ xT := List.mem_filter.mpr ⟨tks_21 _ (List.mem_of_getElem? (i := 37) rfl), rfl⟩
theorem wm_987 : (Jvm.Cond.methodLink "HomeCallsModel" (212 : Nat) ({ cls := "HomeCallsModel", name := "divisor", desc := "(II)I" } : Jvm.MethodName)) ∈ xT := List.mem_filter.mpr ⟨tks_21 _ (List.mem_of_getElem? (i := 38) rfl), rfl⟩
theorem wm_988 : (Jvm.Cond.static ({ cls := "HomeCallsModel", name := "divisor", desc := "(II)I" } : Jvm.MethodName)) ∈ xT := List.mem_filter.mpr ⟨tks_21 _ (List.mem_of_getElem? (i := 39) rfl), rfl⟩
theorem wm_989 : (Jvm.Cond.code ({ cls := "HomeCallsModel", name := "divisor", desc := "(II)I" } : Jvm.MethodName) prog_8_method_69_code (5 : Nat) (Option.some Jvm.ClassFile.FieldType.int)) ∈ xT := List.mem_filter.mpr ⟨tks_21 _ (List.mem_of_getElem? (i := 40) rfl), rfl⟩
theorem wm_990 : (Jvm.Cond.methodLink "HomeCallsLaw" (131 : Nat) ({ cls := "HomeCallsModel", name := "seed", desc := "(I)I" } : Jvm.MethodName)) ∈ xT := List.mem_filter.mpr ⟨tks_21 _ (List.mem_of_getElem? (i := 41) rfl), rfl⟩
theorem wm_991 : (Jvm.Cond.instanceMethod ({ cls := "HomeCallsModel", name := "seed", desc := "(I)I" } : Jvm.MethodName)) ∈ xT := List.mem_filter.mpr ⟨tks_21 _ (List.mem_of_getElem? (i := 42) rfl), rfl⟩
theorem wm_992 : (Jvm.Cond.selects "HomeCallsModel" ({ cls := "HomeCallsModel", name := "seed", desc := "(I)I" } : Jvm.MethodName) ({ cls := "HomeCallsModel", name := "seed", desc := "(I)I" } : Jvm.MethodName)) ∈ xT := List.mem_filter.mpr ⟨tks_21 _ (List.mem_of_getElem? (i := 43) rfl), rfl⟩
theorem wm_993 : (Jvm.Cond.code ({ cls := "HomeCallsModel", name := "seed", desc := "(I)I" } : Jvm.MethodName) prog_8_method_71_code (3 : Nat) (Option.some Jvm.ClassFile.FieldType.int)) ∈ xT := List.mem_filter.mpr ⟨tks_21 _ (List.mem_of_getElem? (i := 44) rfl), rfl⟩
theorem wm_994 : (Jvm.Cond.methodLink "HomeCallsLaw" (135 : Nat) ({ cls := "HomeCallsModel", name := "voice", desc := "(III)I" } : Jvm.MethodName)) ∈ xT := List.mem_filter.mpr ⟨tks_21 _ (List.mem_of_getElem? (i := 45) rfl), rfl⟩
theorem wm_995 : (Jvm.Cond.instanceMethod ({ cls := "HomeCallsModel", name := "voice", desc := "(III)I" } : Jvm.MethodName)) ∈ xT := List.mem_filter.mpr ⟨tks_21 _ (List.mem_of_getElem? (i := 46) rfl), rfl⟩
theorem wm_996 : (Jvm.Cond.selects "HomeCallsModel" ({ cls := "HomeCallsModel", name := "voice", desc := "(III)I" } : Jvm.MethodName) ({ cls := "HomeCallsModel", name := "voice", desc := "(III)I" } : Jvm.MethodName)) ∈ xT := List.mem_filter.mpr ⟨tks_21 _ (List.mem_of_getElem? (i := 47) rfl), rfl⟩
theorem wm_997 : (Jvm.Cond.code ({ cls := "HomeCallsModel", name := "voice", desc := "(III)I" } : Jvm.MethodName) prog_8_method_77_code (4 : Nat) (Option.some Jvm.ClassFile.FieldType.int)) ∈ xT := List.mem_filter.mpr ⟨tks_22 _ (List.mem_of_getElem? (i := 0) rfl), rfl⟩
theorem wm_998 : (Jvm.Cond.methodLink "HomeCallsModel" (225 : Nat) ({ cls := "HomeCallsModel", name := "shoutsIn", desc := "(II)I" } : Jvm.MethodName)) ∈ xT := List.mem_filter.mpr ⟨tks_22 _ (List.mem_of_getElem? (i := 1) rfl), rfl⟩
theorem wm_1000 : (Jvm.Cond.instanceMethod ({ cls := "HomeCallsModel", name := "shoutsIn", desc := "(II)I" } : Jvm.MethodName)) ∈ xT := List.mem_filter.mpr ⟨tks_22 _ (List.mem_of_getElem? (i := 3) rfl), rfl⟩
theorem wm_1001 : (Jvm.Cond.code ({ cls := "HomeCallsModel", name := "shoutsIn", desc := "(II)I" } : Jvm.MethodName) prog_8_method_73_code (3 : Nat) (Option.some Jvm.ClassFile.FieldType.int)) ∈ xT := List.mem_filter.mpr ⟨tks_22 _ (List.mem_of_getElem? (i := 4) rfl), rfl⟩
theorem wm_1002 : (Jvm.Cond.methodLink "HomeCallsModel" (218 : Nat) ({ cls := "HomeCallsModel", name := "ran", desc := "(I)V" } : Jvm.MethodName)) ∈ xT := List.mem_filter.mpr ⟨tks_22 _ (List.mem_of_getElem? (i := 5) rfl), rfl⟩
theorem wm_1004 : (Jvm.Cond.instanceMethod ({ cls := "HomeCallsModel", name := "ran", desc := "(I)V" } : Jvm.MethodName)) ∈ xT := List.mem_filter.mpr ⟨tks_22 _ (List.mem_of_getElem? (i := 7) rfl), rfl⟩
theorem wm_1005 : (Jvm.Cond.code ({ cls := "HomeCallsModel", name := "ran", desc := "(I)V" } : Jvm.MethodName) prog_8_method_72_code (2 : Nat) (Option.none : Option Jvm.ClassFile.FieldType)) ∈ xT := List.mem_filter.mpr ⟨tks_22 _ (List.mem_of_getElem? (i := 8) rfl), rfl⟩
theorem wm_1006 : (Jvm.Cond.methodLink "HomeCallsModel" (237 : Nat) ({ cls := "HomeCallsModel", name := "runsIn", desc := "(II)I" } : Jvm.MethodName)) ∈ xT := List.mem_filter.mpr ⟨tks_22 _ (List.mem_of_getElem? (i := 9) rfl), rfl⟩
theorem wm_1008 : (Jvm.Cond.instanceMethod ({ cls := "HomeCallsModel", name := "runsIn", desc := "(II)I" } : Jvm.MethodName)) ∈ xT := List.mem_filter.mpr ⟨tks_22 _ (List.mem_of_getElem? (i := 11) rfl), rfl⟩
theorem wm_1009 : (Jvm.Cond.code ({ cls := "HomeCallsModel", name := "runsIn", desc := "(II)I" } : Jvm.MethodName) prog_8_method_75_code (4 : Nat) (Option.some Jvm.ClassFile.FieldType.int)) ∈ xT := List.mem_filter.mpr ⟨tks_22 _ (List.mem_of_getElem? (i := 12) rfl), rfl⟩
theorem wm_1010 : (Jvm.Cond.methodLink "HomeCallsModel" (231 : Nat) ({ cls := "HomeCallsModel", name := "touchesIn", desc := "(II)I" } : Jvm.MethodName)) ∈ xT := List.mem_filter.mpr ⟨tks_22 _ (List.mem_of_getElem? (i := 13) rfl), rfl⟩
theorem wm_1012 : (Jvm.Cond.instanceMethod ({ cls := "HomeCallsModel", name := "touchesIn", desc := "(II)I" } : Jvm.MethodName)) ∈ xT := List.mem_filter.mpr ⟨tks_22 _ (List.mem_of_getElem? (i := 15) rfl), rfl⟩
theorem wm_1013 : (Jvm.Cond.code ({ cls := "HomeCallsModel", name := "touchesIn", desc := "(II)I" } : Jvm.MethodName) prog_8_method_74_code (3 : Nat) (Option.some Jvm.ClassFile.FieldType.int)) ∈ xT := List.mem_filter.mpr ⟨tks_22 _ (List.mem_of_getElem? (i := 16) rfl), rfl⟩
theorem wm_1014 : (Jvm.Cond.methodLink "HomeCallsModel" (240 : Nat) ({ cls := "HomeCallsModel", name := "tellsIn", desc := "(II)I" } : Jvm.MethodName)) ∈ xT := List.mem_filter.mpr ⟨tks_22 _ (List.mem_of_getElem? (i := 17) rfl), rfl⟩
theorem wm_1016 : (Jvm.Cond.instanceMethod ({ cls := "HomeCallsModel", name := "tellsIn", desc := "(II)I" } : Jvm.MethodName)) ∈ xT := List.mem_filter.mpr ⟨tks_22 _ (List.mem_of_getElem? (i := 19) rfl), rfl⟩
theorem wm_1017 : (Jvm.Cond.code ({ cls := "HomeCallsModel", name := "tellsIn", desc := "(II)I" } : Jvm.MethodName) prog_8_method_76_code (4 : Nat) (Option.some Jvm.ClassFile.FieldType.int)) ∈ xT := List.mem_filter.mpr ⟨tks_22 _ (List.mem_of_getElem? (i := 20) rfl), rfl⟩
theorem wm_1018 : (Jvm.Cond.methodLink "HomeCallsLaw" (139 : Nat) ({ cls := "HomeCallsModel", name := "trace", desc := "(I)I" } : Jvm.MethodName)) ∈ xT := List.mem_filter.mpr ⟨tks_22 _ (List.mem_of_getElem? (i := 21) rfl), rfl⟩
theorem wm_1019 : (Jvm.Cond.instanceMethod ({ cls := "HomeCallsModel", name := "trace", desc := "(I)I" } : Jvm.MethodName)) ∈ xT := List.mem_filter.mpr ⟨tks_22 _ (List.mem_of_getElem? (i := 22) rfl), rfl⟩
theorem wm_1020 : (Jvm.Cond.selects "HomeCallsModel" ({ cls := "HomeCallsModel", name := "trace", desc := "(I)I" } : Jvm.MethodName) ({ cls := "HomeCallsModel", name := "trace", desc := "(I)I" } : Jvm.MethodName)) ∈ xT := List.mem_filter.mpr ⟨tks_22 _ (List.mem_of_getElem? (i := 23) rfl), rfl⟩
theorem wm_1021 : (Jvm.Cond.code ({ cls := "HomeCallsModel", name := "trace", desc := "(I)I" } : Jvm.MethodName) prog_8_method_78_code (2 : Nat) (Option.some Jvm.ClassFile.FieldType.int)) ∈ xT := List.mem_filter.mpr ⟨tks_22 _ (List.mem_of_getElem? (i := 24) rfl), rfl⟩
theorem wm_1022 : (Jvm.Cond.methodLink "HomeCallsLaw" (143 : Nat) ({ cls := "HomeCallsModel", name := "sheet", desc := "(III)I" } : Jvm.MethodName)) ∈ xT := List.mem_filter.mpr ⟨tks_22 _ (List.mem_of_getElem? (i := 25) rfl), rfl⟩
theorem wm_1023 : (Jvm.Cond.instanceMethod ({ cls := "HomeCallsModel", name := "sheet", desc := "(III)I" } : Jvm.MethodName)) ∈ xT := List.mem_filter.mpr ⟨tks_22 _ (List.mem_of_getElem? (i := 26) rfl), rfl⟩
theorem wm_1024 : (Jvm.Cond.selects "HomeCallsModel" ({ cls := "HomeCallsModel", name := "sheet", desc := "(III)I" } : Jvm.MethodName) ({ cls := "HomeCallsModel", name := "sheet", desc := "(III)I" } : Jvm.MethodName)) ∈ xT := List.mem_filter.mpr ⟨tks_22 _ (List.mem_of_getElem? (i := 27) rfl), rfl⟩
theorem wm_1025 : (Jvm.Cond.code ({ cls := "HomeCallsModel", name := "sheet", desc := "(III)I" } : Jvm.MethodName) prog_8_method_80_code (5 : Nat) (Option.some Jvm.ClassFile.FieldType.int)) ∈ xT := List.mem_filter.mpr ⟨tks_22 _ (List.mem_of_getElem? (i := 28) rfl), rfl⟩
theorem wm_1026 : (Jvm.Cond.methodLink "HomeCallsLaw" (147 : Nat) ({ cls := "HomeCallsModel", name := "put", desc := "(III)I" } : Jvm.MethodName)) ∈ xT := List.mem_filter.mpr ⟨tks_22 _ (List.mem_of_getElem? (i := 29) rfl), rfl⟩
theorem wm_1027 : (Jvm.Cond.instanceMethod ({ cls := "HomeCallsModel", name := "put", desc := "(III)I" } : Jvm.MethodName)) ∈ xT := List.mem_filter.mpr ⟨tks_22 _ (List.mem_of_getElem? (i := 30) rfl), rfl⟩
theorem wm_1028 : (Jvm.Cond.selects "HomeCallsModel" ({ cls := "HomeCallsModel", name := "put", desc := "(III)I" } : Jvm.MethodName) ({ cls := "HomeCallsModel", name := "put", desc := "(III)I" } : Jvm.MethodName)) ∈ xT := List.mem_filter.mpr ⟨tks_22 _ (List.mem_of_getElem? (i := 31) rfl), rfl⟩
theorem wm_1029 : (Jvm.Cond.code ({ cls := "HomeCallsModel", name := "put", desc := "(III)I" } : Jvm.MethodName) prog_8_method_81_code (4 : Nat) (Option.some Jvm.ClassFile.FieldType.int)) ∈ xT := List.mem_filter.mpr ⟨tks_22 _ (List.mem_of_getElem? (i := 32) rfl), rfl⟩
theorem wm_1030 : (Jvm.Cond.methodLink "HomeCallsModel" (243 : Nat) ({ cls := "HomeCallsModel", name := "narrow", desc := "(II)I" } : Jvm.MethodName)) ∈ xT := List.mem_filter.mpr ⟨tks_22 _ (List.mem_of_getElem? (i := 33) rfl), rfl⟩
theorem wm_1031 : (Jvm.Cond.static ({ cls := "HomeCallsModel", name := "narrow", desc := "(II)I" } : Jvm.MethodName)) ∈ xT := List.mem_filter.mpr ⟨tks_22 _ (List.mem_of_getElem? (i := 34) rfl), rfl⟩
theorem wm_1032 : (Jvm.Cond.code ({ cls := "HomeCallsModel", name := "narrow", desc := "(II)I" } : Jvm.MethodName) prog_8_method_79_code (2 : Nat) (Option.some Jvm.ClassFile.FieldType.int)) ∈ xT := List.mem_filter.mpr ⟨tks_22 _ (List.mem_of_getElem? (i := 35) rfl), rfl⟩
theorem wm_1033 : (Jvm.Cond.methodLink "HomeCallsLaw" (152 : Nat) ({ cls := "HomeCallsModel", name := "move", desc := "(IIIII)I" } : Jvm.MethodName)) ∈ xT := List.mem_filter.mpr ⟨tks_22 _ (List.mem_of_getElem? (i := 36) rfl), rfl⟩
theorem wm_1034 : (Jvm.Cond.instanceMethod ({ cls := "HomeCallsModel", name := "move", desc := "(IIIII)I" } : Jvm.MethodName)) ∈ xT := List.mem_filter.mpr ⟨tks_22 _ (List.mem_of_getElem? (i := 37) rfl), rfl⟩
theorem wm_1035 : (Jvm.Cond.selects "HomeCallsModel" ({ cls := "HomeCallsModel", name := "move", desc := "(IIIII)I" } : Jvm.MethodName) ({ cls := "HomeCallsModel", name := "move", desc := "(IIIII)I" } : Jvm.MethodName)) ∈ xT := List.mem_filter.mpr ⟨tks_22 _ (List.mem_of_getElem? (i := 38) rfl), rfl⟩
theorem wm_1036 : (Jvm.Cond.code ({ cls := "HomeCallsModel", name := "move", desc := "(IIIII)I" } : Jvm.MethodName) prog_8_method_82_code (7 : Nat) (Option.some Jvm.ClassFile.FieldType.int)) ∈ xT := List.mem_filter.mpr ⟨tks_22 _ (List.mem_of_getElem? (i := 39) rfl), rfl⟩
theorem wm_1037 : (Jvm.Cond.methodLink "HomeCallsLaw" (156 : Nat) ({ cls := "HomeCallsModel", name := "places", desc := "(I)I" } : Jvm.MethodName)) ∈ xT := List.mem_filter.mpr ⟨tks_22 _ (List.mem_of_getElem? (i := 40) rfl), rfl⟩
theorem wm_1038 : (Jvm.Cond.instanceMethod ({ cls := "HomeCallsModel", name := "places", desc := "(I)I" } : Jvm.MethodName)) ∈ xT := List.mem_filter.mpr ⟨tks_22 _ (List.mem_of_getElem? (i := 41) rfl), rfl⟩
theorem wm_1039 : (Jvm.Cond.selects "HomeCallsModel" ({ cls := "HomeCallsModel", name := "places", desc := "(I)I" } : Jvm.MethodName) ({ cls := "HomeCallsModel", name := "places", desc := "(I)I" } : Jvm.MethodName)) ∈ xT := List.mem_filter.mpr ⟨tks_22 _ (List.mem_of_getElem? (i := 42) rfl), rfl⟩
theorem wm_1040 : (Jvm.Cond.code ({ cls := "HomeCallsModel", name := "places", desc := "(I)I" } : Jvm.MethodName) prog_8_method_83_code (3 : Nat) (Option.some Jvm.ClassFile.FieldType.int)) ∈ xT := List.mem_filter.mpr ⟨tks_22 _ (List.mem_of_getElem? (i := 43) rfl), rfl⟩
theorem wm_1041 : (Jvm.Cond.methodLink "HomeCallsLaw" (160 : Nat) ({ cls := "HomeCallsModel", name := "judge", desc := "(I)I" } : Jvm.MethodName)) ∈ xT := List.mem_filter.mpr ⟨tks_22 _ (List.mem_of_getElem? (i := 44) rfl), rfl⟩
theorem wm_1042 : (Jvm.Cond.instanceMethod ({ cls := "HomeCallsModel", name := "judge", desc := "(I)I" } : Jvm.MethodName)) ∈ xT := List.mem_filter.mpr ⟨tks_22 _ (List.mem_of_getElem? (i := 45) rfl), rfl⟩
theorem wm_1043 : (Jvm.Cond.selects "HomeCallsModel" ({ cls := "HomeCallsModel", name := "judge", desc := "(I)I" } : Jvm.MethodName) ({ cls := "HomeCallsModel", name := "judge", desc := "(I)I" } : Jvm.MethodName)) ∈ xT := List.mem_filter.mpr ⟨tks_22 _ (List.mem_of_getElem? (i := 46) rfl), rfl⟩
theorem wm_1044 : (Jvm.Cond.code ({ cls := "HomeCallsModel", name := "judge", desc := "(I)I" } : Jvm.MethodName) prog_8_method_84_code (3 : Nat) (Option.some Jvm.ClassFile.FieldType.int)) ∈ xT := List.mem_filter.mpr ⟨tks_22 _ (List.mem_of_getElem? (i := 47) rfl), rfl⟩
theorem wm_1045 : (Jvm.Cond.methodLink "HomeCallsLaw" (165 : Nat) ({ cls := "HomeCallsModel", name := "image", desc := "()I" } : Jvm.MethodName)) ∈ xT := List.mem_filter.mpr ⟨tks_23 _ (List.mem_of_getElem? (i := 0) rfl), rfl⟩
theorem wm_1046 : (Jvm.Cond.instanceMethod ({ cls := "HomeCallsModel", name := "image", desc := "()I" } : Jvm.MethodName)) ∈ xT := List.mem_filter.mpr ⟨tks_23 _ (List.mem_of_getElem? (i := 1) rfl), rfl⟩
theorem wm_1047 : (Jvm.Cond.selects "HomeCallsModel" ({ cls := "HomeCallsModel", name := "image", desc := "()I" } : Jvm.MethodName) ({ cls := "HomeCallsModel", name := "image", desc := "()I" } : Jvm.MethodName)) ∈ xT := List.mem_filter.mpr ⟨tks_23 _ (List.mem_of_getElem? (i := 2) rfl), rfl⟩
theorem wm_1048 : (Jvm.Cond.code ({ cls := "HomeCallsModel", name := "image", desc := "()I" } : Jvm.MethodName) prog_8_method_85_code (1 : Nat) (Option.some Jvm.ClassFile.FieldType.int)) ∈ xT := List.mem_filter.mpr ⟨tks_23 _ (List.mem_of_getElem? (i := 3) rfl), rfl⟩
theorem wm_1049 : (Jvm.Cond.methodLink "HomeCallsLaw" (169 : Nat) ({ cls := "HomeCallsModel", name := "restore", desc := "()I" } : Jvm.MethodName)) ∈ xT := List.mem_filter.mpr ⟨tks_23 _ (List.mem_of_getElem? (i := 4) rfl), rfl⟩
theorem wm_1050 : (Jvm.Cond.instanceMethod ({ cls := "HomeCallsModel", name := "restore", desc := "()I" } : Jvm.MethodName)) ∈ xT := List.mem_filter.mpr ⟨tks_23 _ (List.mem_of_getElem? (i := 5) rfl), rfl⟩
theorem wm_1051 : (Jvm.Cond.selects "HomeCallsModel" ({ cls := "HomeCallsModel", name := "restore", desc := "()I" } : Jvm.MethodName) ({ cls := "HomeCallsModel", name := "restore", desc := "()I" } : Jvm.MethodName)) ∈ xT := List.mem_filter.mpr ⟨tks_23 _ (List.mem_of_getElem? (i := 6) rfl), rfl⟩
theorem wm_1052 : (Jvm.Cond.code ({ cls := "HomeCallsModel", name := "restore", desc := "()I" } : Jvm.MethodName) prog_8_method_86_code (1 : Nat) (Option.some Jvm.ClassFile.FieldType.int)) ∈ xT := List.mem_filter.mpr ⟨tks_23 _ (List.mem_of_getElem? (i := 7) rfl), rfl⟩
theorem wm_1053 : (Jvm.Cond.methodLink "HomeCallsLaw" (173 : Nat) ({ cls := "HomeCallsModel", name := "tell", desc := "(I)I" } : Jvm.MethodName)) ∈ xT := List.mem_filter.mpr ⟨tks_23 _ (List.mem_of_getElem? (i := 8) rfl), rfl⟩
theorem wm_1054 : (Jvm.Cond.instanceMethod ({ cls := "HomeCallsModel", name := "tell", desc := "(I)I" } : Jvm.MethodName)) ∈ xT := List.mem_filter.mpr ⟨tks_23 _ (List.mem_of_getElem? (i := 9) rfl), rfl⟩
theorem wm_1055 : (Jvm.Cond.selects "HomeCallsModel" ({ cls := "HomeCallsModel", name := "tell", desc := "(I)I" } : Jvm.MethodName) ({ cls := "HomeCallsModel", name := "tell", desc := "(I)I" } : Jvm.MethodName)) ∈ xT := List.mem_filter.mpr ⟨tks_23 _ (List.mem_of_getElem? (i := 10) rfl), rfl⟩
theorem wm_1056 : (Jvm.Cond.code ({ cls := "HomeCallsModel", name := "tell", desc := "(I)I" } : Jvm.MethodName) prog_8_method_87_code (2 : Nat) (Option.some Jvm.ClassFile.FieldType.int)) ∈ xT := List.mem_filter.mpr ⟨tks_23 _ (List.mem_of_getElem? (i := 11) rfl), rfl⟩
theorem wm_1057 : (Jvm.Cond.methodLink "HomeCallsLaw" (177 : Nat) ({ cls := "HomeCallsModel", name := "check", desc := "()I" } : Jvm.MethodName)) ∈ xT := List.mem_filter.mpr ⟨tks_23 _ (List.mem_of_getElem? (i := 12) rfl), rfl⟩
theorem wm_1058 : (Jvm.Cond.instanceMethod ({ cls := "HomeCallsModel", name := "check", desc := "()I" } : Jvm.MethodName)) ∈ xT := List.mem_filter.mpr ⟨tks_23 _ (List.mem_of_getElem? (i := 13) rfl), rfl⟩
theorem wm_1059 : (Jvm.Cond.selects "HomeCallsModel" ({ cls := "HomeCallsModel", name := "check", desc := "()I" } : Jvm.MethodName) ({ cls := "HomeCallsModel", name := "check", desc := "()I" } : Jvm.MethodName)) ∈ xT := List.mem_filter.mpr ⟨tks_23 _ (List.mem_of_getElem? (i := 14) rfl), rfl⟩
theorem wm_1060 : (Jvm.Cond.code ({ cls := "HomeCallsModel", name := "check", desc := "()I" } : Jvm.MethodName) prog_8_method_88_code (3 : Nat) (Option.some Jvm.ClassFile.FieldType.int)) ∈ xT := List.mem_filter.mpr ⟨tks_23 _ (List.mem_of_getElem? (i := 15) rfl), rfl⟩
theorem wm_1061 : (Jvm.Cond.methodLink "HomeCallsLaw" (181 : Nat) ({ cls := "HomeCallsModel", name := "count", desc := "(I)I" } : Jvm.MethodName)) ∈ xT := List.mem_filter.mpr ⟨tks_23 _ (List.mem_of_getElem? (i := 16) rfl), rfl⟩
theorem wm_1062 : (Jvm.Cond.instanceMethod ({ cls := "HomeCallsModel", name := "count", desc := "(I)I" } : Jvm.MethodName)) ∈ xT := List.mem_filter.mpr ⟨tks_23 _ (List.mem_of_getElem? (i := 17) rfl), rfl⟩
theorem wm_1063 : (Jvm.Cond.selects "HomeCallsModel" ({ cls := "HomeCallsModel", name := "count", desc := "(I)I" } : Jvm.MethodName) ({ cls := "HomeCallsModel", name := "count", desc := "(I)I" } : Jvm.MethodName)) ∈ xT := List.mem_filter.mpr ⟨tks_23 _ (List.mem_of_getElem? (i := 18) rfl), rfl⟩
theorem wm_1064 : (Jvm.Cond.code ({ cls := "HomeCallsModel", name := "count", desc := "(I)I" } : Jvm.MethodName) prog_8_method_90_code (2 : Nat) (Option.some Jvm.ClassFile.FieldType.int)) ∈ xT := List.mem_filter.mpr ⟨tks_23 _ (List.mem_of_getElem? (i := 19) rfl), rfl⟩
theorem wm_1065 : (Jvm.Cond.methodLink "HomeCallsModel" (252 : Nat) ({ cls := "HomeCallsModel", name := "sumOf", desc := "(I)I" } : Jvm.MethodName)) ∈ xT := List.mem_filter.mpr ⟨tks_23 _ (List.mem_of_getElem? (i := 20) rfl), rfl⟩
theorem wm_1067 : (Jvm.Cond.instanceMethod ({ cls := "HomeCallsModel", name := "sumOf", desc := "(I)I" } : Jvm.MethodName)) ∈ xT := List.mem_filter.mpr ⟨tks_23 _ (List.mem_of_getElem? (i := 22) rfl), rfl⟩
theorem wm_1068 : (Jvm.Cond.code ({ cls := "HomeCallsModel", name := "sumOf", desc := "(I)I" } : Jvm.MethodName) prog_8_method_89_code (4 : Nat) (Option.some Jvm.ClassFile.FieldType.int)) ∈ xT := List.mem_filter.mpr ⟨tks_23 _ (List.mem_of_getElem? (i := 23) rfl), rfl⟩
theorem wm_1069 : (Jvm.Cond.methodLink "HomeCallsLaw" (185 : Nat) ({ cls := "HomeCallsModel", name := "told", desc := "(I)I" } : Jvm.MethodName)) ∈ xT := List.mem_filter.mpr ⟨tks_23 _ (List.mem_of_getElem? (i := 24) rfl), rfl⟩
theorem wm_1070 : (Jvm.Cond.instanceMethod ({ cls := "HomeCallsModel", name := "told", desc := "(I)I" } : Jvm.MethodName)) ∈ xT := List.mem_filter.mpr ⟨tks_23 _ (List.mem_of_getElem? (i := 25) rfl), rfl⟩
theorem wm_1071 : (Jvm.Cond.selects "HomeCallsModel" ({ cls := "HomeCallsModel", name := "told", desc := "(I)I" } : Jvm.MethodName) ({ cls := "HomeCallsModel", name := "told", desc := "(I)I" } : Jvm.MethodName)) ∈ xT := List.mem_filter.mpr ⟨tks_23 _ (List.mem_of_getElem? (i := 26) rfl), rfl⟩
theorem wm_1072 : (Jvm.Cond.code ({ cls := "HomeCallsModel", name := "told", desc := "(I)I" } : Jvm.MethodName) prog_8_method_91_code (2 : Nat) (Option.some Jvm.ClassFile.FieldType.int)) ∈ xT := List.mem_filter.mpr ⟨tks_23 _ (List.mem_of_getElem? (i := 27) rfl), rfl⟩
theorem wm_1073 : (Jvm.Cond.constantLong "HomeCallsLaw" (52 : Nat) (4294967295 : Int64)) ∈ xT := List.mem_filter.mpr ⟨tks_23 _ (List.mem_of_getElem? (i := 28) rfl), rfl⟩
theorem inX0 : ∀ w ∈ u_ws RX0 TX0 4, w ∈ xT := x_inT (by decide +kernel) (by decide +kernel)
theorem dfX0 : ∀ j, j < 4 → defaultValue (tyX0 j) = vp_V [.null, .int 0, .null, .int 0] j := by decide +kernel
theorem inX1 : ∀ w ∈ u_ws RX1 TX1 7, w ∈ xT := x_inT (by decide +kernel) (by decide +kernel)
theorem dfX1 : ∀ j, j < 7 → defaultValue (tyX1 j) = vp_V [.null, .int 0, .null, .int 0, .int 0, .int 0, .int 0] j := by decide +kernel
theorem inX2 : ∀ w ∈ u_ws RX2 TX2 3, w ∈ xT := x_inT (by decide +kernel) (by decide +kernel)
theorem dfX2 : ∀ j, j < 3 → defaultValue (tyX2 j) = vp_V [.null, .int 0, .int 0] j := by decide +kernel
theorem inX3 : ∀ w ∈ u_ws RX3 TX3 5, w ∈ xT := x_inT (by decide +kernel) (by decide +kernel)
theorem dfX3 : ∀ j, j < 5 → defaultValue (tyX3 j) = vp_V [.null, .int 0, .int 0, .int 0, .int 0] j := by decide +kernel
theorem inX4 : ∀ w ∈ u_ws RX4 TX4 18, w ∈ xT := x_inT (by decide +kernel) (by decide +kernel)
theorem dfX4 : ∀ j, j < 18 → defaultValue (tyX4 j) = vp_V [.null, .null, .int 0, .null, .null, .null, .null, .null, .int 0, .int 0, .int 0, .int 0, .null, .null, .int 0, .null, .int 0, .null] j := by decide +kernel
theorem inX5 : ∀ w ∈ u_ws RX5 TX5 8, w ∈ xT := x_inT (by decide +kernel) (by decide +kernel)
theorem dfX5 : ∀ j, j < 8 → defaultValue (tyX5 j) = vp_V [.null, .null, .null, .null, .null, .null, .null, .int 0] j := by decide +kernel
theorem inX6 : ∀ w ∈ u_ws RX6 TX6 25, w ∈ xT := x_inT (by decide +kernel) (by decide +kernel)
theorem dfX6 : ∀ j, j < 25 → defaultValue (tyX6 j) = vp_V [.null, .null, .null, .null, .int 0, .int 0, .null, .int 0, .int 0, .int 0, .int 0, .int 0, .int 0, .int 0, .int 0, .int 0, .null, .null, .null, .null, .null, .int 0, .int 0, .int 0, .int 0] j := by decide +kernel
end
section
/-! ===== programs by the listing ===== -/
def pg_L_init : List xEl := [(0, .aload_n 0, 1, xs_al 0), (1, .invokespecial 3, 3, xs_obj), (4, .aload_n 0, 1, xs_al 0), (5, .bipush 50, 2, xs_push (.int 50)), (7, .newarray .int, 2, xs_newa 2 100 50), (9, .putfield 9, 3, xs_pfr 0 0), (12, .aload_n 0, 1, xs_al 0), (13, .bipush 50, 2, xs_push (.int 50)), (15, .newarray .int, 2, xs_newa 2 100 50), (17, .putfield 15, 3, xs_pfr 0 2), (20, .return_, 1, xs_ret)]
def C_L_init : xPT := xM 1 pg_L_init
set_option maxRecDepth 20000 in
theorem ko_L_init (E : xE) : xOks E (xR 1 2 100) "HomeCalls$Law" prog_2_method_1_code 1 none true pg_L_init :=
  .intro (ok_aload_n 0 rfl) (.intro (ok_obj 1 wm_32 wm_18 wm_19 ⟨Nat.le_of_ble_eq_true rfl, Nat.le_of_ble_eq_true rfl⟩) (.intro (ok_aload_n 4 rfl) (.intro (ok_bipush 5 rfl) (.intro (ok_newa 7 wm_48 (Nat.le_of_ble_eq_true rfl) (Nat.le_of_ble_eq_true rfl) ⟨Nat.le_of_ble_eq_true rfl, Nat.le_of_ble_eq_true rfl⟩) (.intro (ok_pfr 9 (T := TX0) (N := 4) rfl inX0 tyX0_ok nmX0 (Nat.le_of_ble_eq_true rfl) wm_33 rfl rfl rfl (fun _ => ⟨rfl, rfl⟩)) (.intro (ok_aload_n 12 rfl) (.intro (ok_bipush 13 rfl) (.intro (ok_newa 15 wm_48 (Nat.le_of_ble_eq_true rfl) (Nat.le_of_ble_eq_true rfl) ⟨Nat.le_of_ble_eq_true rfl, Nat.le_of_ble_eq_true rfl⟩) (.intro (ok_pfr 17 (T := TX0) (N := 4) rfl inX0 tyX0_ok nmX0 (Nat.le_of_ble_eq_true rfl) wm_37 rfl rfl rfl (fun _ => ⟨rfl, rfl⟩)) (.intro (ok_ret 20 rfl) trivial))))))))))
theorem snd_L_init : xSnd y_L_init prog_2_method_1_code 1 none 1 2 100 C_L_init := xSnd_of (init := true) (by decide +kernel) (by decide +kernel) (by decide +kernel) (fun _ => rfl) (fun E => xOks_all (ko_L_init E))
def pg_T_init : List xEl := [(0, .aload_n 0, 1, xs_al 0), (1, .invokespecial 3, 3, xs_obj), (4, .aload_n 0, 1, xs_al 0), (5, .bipush 8, 2, xs_push (.int 8)), (7, .newarray .int, 2, xs_newa 17 338 8), (9, .putfield 9, 3, xs_pfr 4 0), (12, .aload_n 0, 1, xs_al 0), (13, .bipush 8, 2, xs_push (.int 8)), (15, .newarray .int, 2, xs_newa 17 338 8), (17, .putfield 15, 3, xs_pfr 4 1), (20, .aload_n 0, 1, xs_al 0), (21, .bipush 7, 2, xs_push (.int 7)), (23, .newarray .int, 2, xs_newa 17 338 7), (25, .putfield 18, 3, xs_pfr 4 3), (28, .aload_n 0, 1, xs_al 0), (29, .bipush 7, 2, xs_push (.int 7)), (31, .newarray .int, 2, xs_newa 17 338 7), (33, .putfield 21, 3, xs_pfr 4 4), (36, .aload_n 0, 1, xs_al 0), (37, .bipush 7, 2, xs_push (.int 7)), (39, .newarray .int, 2, xs_newa 17 338 7), (41, .putfield 24, 3, xs_pfr 4 5), (44, .aload_n 0, 1, xs_al 0), (45, .bipush 7, 2, xs_push (.int 7)), (47, .newarray .int, 2, xs_newa 17 338 7), (49, .putfield 27, 3, xs_pfr 4 6), (52, .aload_n 0, 1, xs_al 0), (53, .bipush 7, 2, xs_push (.int 7)), (55, .newarray .int, 2, xs_newa 17 338 7), (57, .putfield 30, 3, xs_pfr 4 7), (60, .aload_n 0, 1, xs_al 0), (61, .iconst (-1), 1, xs_push (.int (-1))), (62, .putfield 33, 3, xs_pf false 4 9), (65, .aload_n 0, 1, xs_al 0), (66, .iconst 1, 1, xs_push (.int 1)), (67, .putfield 37, 3, xs_pf false 4 11), (70, .aload_n 0, 1, xs_al 0), (71, .iconst 2, 1, xs_push (.int 2)), (72, .anewarray 40, 3, xs_newq 17 338 0 2), (75, .dup, 1, xs_dup), (76, .iconst 0, 1, xs_push (.int 0)), (77, .new 40, 3, xs_new 17 338 0 4 [.null, .int 0, .null, .int 0]), (80, .dup, 1, xs_dup), (81, .invokespecial 42, 3, xs_call true 17 338 2 100 (some 0) 1 C_L_init), (84, .aastore, 1, xs_aast 0 0 0), (85, .dup, 1, xs_dup), (86, .iconst 1, 1, xs_push (.int 1)), (87, .new 40, 3, xs_new 17 338 0 4 [.null, .int 0, .null, .int 0]), (90, .dup, 1, xs_dup), (91, .invokespecial 42, 3, xs_call true 17 338 2 100 (some 0) 1 C_L_init), (94, .aastore, 1, xs_aast 0 0 1), (95, .putfield 43, 3, xs_pfr 4 12), (98, .aload_n 0, 1, xs_al 0), (99, .bipush 50, 2, xs_push (.int 50)), (101, .newarray .int, 2, xs_newa 17 338 50), (103, .putfield 47, 3, xs_pfr 4 13), (106, .aload_n 0, 1, xs_al 0), (107, .bipush 20, 2, xs_push (.int 20)), (109, .newarray .int, 2, xs_newa 17 338 20), (111, .putfield 50, 3, xs_pfr 4 15), (114, .aload_n 0, 1, xs_al 0), (115, .bipush 7, 2, xs_push (.int 7)), (117, .newarray .int, 2, xs_newa 17 338 7), (119, .putfield 53, 3, xs_pfr 4 17), (122, .return_, 1, xs_ret)]
def C_T_init : xPT := xM 1 pg_T_init
set_option maxRecDepth 20000 in
theorem ko_T_init_1 (E : xE) : xOks E (xR 2 17 338) "HomeCalls$Street" prog_6_method_1_code 1 none true (List.drop 40 pg_T_init) :=
  .intro (ok_iconst 76 rfl) (.intro (ok_new 77 (T := TX0) (ty0 := tyX0) (N := 4) rfl inX0 tyX0_ok wm_26 wm_28 wm_3 dfX0 (fun _ => rfl) ⟨Nat.le_of_ble_eq_true rfl, Nat.le_of_ble_eq_true rfl⟩) (.intro (ok_dup 80) (.intro (ok_core 81 (run_I 81 (host := "HomeCalls") snd_L_init rfl (List.mem_of_getElem? (i := 1) rfl) wm_30 wm_3 wm_31 hd_L_init.2 ⟨Nat.le_of_ble_eq_true rfl, Nat.le_of_ble_eq_true rfl⟩) ⟨Nat.le_of_ble_eq_true rfl, Nat.le_of_ble_eq_true rfl⟩) (.intro (ok_aast 84 (Or.inl rfl) (r := (RX0, TX0, 4)) rfl rfl (Nat.le_of_ble_eq_true rfl)) (.intro (ok_dup 85) (.intro (ok_iconst 86 rfl) (.intro (ok_new 87 (T := TX0) (ty0 := tyX0) (N := 4) rfl inX0 tyX0_ok wm_26 wm_28 wm_3 dfX0 (fun _ => rfl) ⟨Nat.le_of_ble_eq_true rfl, Nat.le_of_ble_eq_true rfl⟩) (.intro (ok_dup 90) (.intro (ok_core 91 (run_I 91 (host := "HomeCalls") snd_L_init rfl (List.mem_of_getElem? (i := 1) rfl) wm_30 wm_3 wm_31 hd_L_init.2 ⟨Nat.le_of_ble_eq_true rfl, Nat.le_of_ble_eq_true rfl⟩) ⟨Nat.le_of_ble_eq_true rfl, Nat.le_of_ble_eq_true rfl⟩) (.intro (ok_aast 94 (Or.inl rfl) (r := (RX0, TX0, 4)) rfl rfl (Nat.le_of_ble_eq_true rfl)) (.intro (ok_pfr 95 (T := TX4) (N := 18) rfl inX4 tyX4_ok nmX4 (Nat.le_of_ble_eq_true rfl) wm_73 rfl rfl rfl (fun _ => ⟨rfl, rfl⟩)) (.intro (ok_aload_n 98 rfl) (.intro (ok_bipush 99 rfl) (.intro (ok_newa 101 wm_48 (Nat.le_of_ble_eq_true rfl) (Nat.le_of_ble_eq_true rfl) ⟨Nat.le_of_ble_eq_true rfl, Nat.le_of_ble_eq_true rfl⟩) (.intro (ok_pfr 103 (T := TX4) (N := 18) rfl inX4 tyX4_ok nmX4 (Nat.le_of_ble_eq_true rfl) wm_75 rfl rfl rfl (fun _ => ⟨rfl, rfl⟩)) (.intro (ok_aload_n 106 rfl) (.intro (ok_bipush 107 rfl) (.intro (ok_newa 109 wm_48 (Nat.le_of_ble_eq_true rfl) (Nat.le_of_ble_eq_true rfl) ⟨Nat.le_of_ble_eq_true rfl, Nat.le_of_ble_eq_true rfl⟩) (.intro (ok_pfr 111 (T := TX4) (N := 18) rfl inX4 tyX4_ok nmX4 (Nat.le_of_ble_eq_true rfl) wm_79 rfl rfl rfl (fun _ => ⟨rfl, rfl⟩)) (.intro (ok_aload_n 114 rfl) (.intro (ok_bipush 115 rfl) (.intro (ok_newa 117 wm_48 (Nat.le_of_ble_eq_true rfl) (Nat.le_of_ble_eq_true rfl) ⟨Nat.le_of_ble_eq_true rfl, Nat.le_of_ble_eq_true rfl⟩) (.intro (ok_pfr 119 (T := TX4) (N := 18) rfl inX4 tyX4_ok nmX4 (Nat.le_of_ble_eq_true rfl) wm_83 rfl rfl rfl (fun _ => ⟨rfl, rfl⟩)) (.intro (ok_ret 122 rfl) trivial))))))))))))))))))))))))
set_option maxRecDepth 20000 in
theorem ko_T_init (E : xE) : xOks E (xR 2 17 338) "HomeCalls$Street" prog_6_method_1_code 1 none true pg_T_init :=
  .intro (ok_aload_n 0 rfl) (.intro (ok_obj 1 wm_25 wm_18 wm_19 ⟨Nat.le_of_ble_eq_true rfl, Nat.le_of_ble_eq_true rfl⟩) (.intro (ok_aload_n 4 rfl) (.intro (ok_bipush 5 rfl) (.intro (ok_newa 7 wm_48 (Nat.le_of_ble_eq_true rfl) (Nat.le_of_ble_eq_true rfl) ⟨Nat.le_of_ble_eq_true rfl, Nat.le_of_ble_eq_true rfl⟩) (.intro (ok_pfr 9 (T := TX4) (N := 18) rfl inX4 tyX4_ok nmX4 (Nat.le_of_ble_eq_true rfl) wm_49 rfl rfl rfl (fun _ => ⟨rfl, rfl⟩)) (.intro (ok_aload_n 12 rfl) (.intro (ok_bipush 13 rfl) (.intro (ok_newa 15 wm_48 (Nat.le_of_ble_eq_true rfl) (Nat.le_of_ble_eq_true rfl) ⟨Nat.le_of_ble_eq_true rfl, Nat.le_of_ble_eq_true rfl⟩) (.intro (ok_pfr 17 (T := TX4) (N := 18) rfl inX4 tyX4_ok nmX4 (Nat.le_of_ble_eq_true rfl) wm_51 rfl rfl rfl (fun _ => ⟨rfl, rfl⟩)) (.intro (ok_aload_n 20 rfl) (.intro (ok_bipush 21 rfl) (.intro (ok_newa 23 wm_48 (Nat.le_of_ble_eq_true rfl) (Nat.le_of_ble_eq_true rfl) ⟨Nat.le_of_ble_eq_true rfl, Nat.le_of_ble_eq_true rfl⟩) (.intro (ok_pfr 25 (T := TX4) (N := 18) rfl inX4 tyX4_ok nmX4 (Nat.le_of_ble_eq_true rfl) wm_55 rfl rfl rfl (fun _ => ⟨rfl, rfl⟩)) (.intro (ok_aload_n 28 rfl) (.intro (ok_bipush 29 rfl) (.intro (ok_newa 31 wm_48 (Nat.le_of_ble_eq_true rfl) (Nat.le_of_ble_eq_true rfl) ⟨Nat.le_of_ble_eq_true rfl, Nat.le_of_ble_eq_true rfl⟩) (.intro (ok_pfr 33 (T := TX4) (N := 18) rfl inX4 tyX4_ok nmX4 (Nat.le_of_ble_eq_true rfl) wm_57 rfl rfl rfl (fun _ => ⟨rfl, rfl⟩)) (.intro (ok_aload_n 36 rfl) (.intro (ok_bipush 37 rfl) (.intro (ok_newa 39 wm_48 (Nat.le_of_ble_eq_true rfl) (Nat.le_of_ble_eq_true rfl) ⟨Nat.le_of_ble_eq_true rfl, Nat.le_of_ble_eq_true rfl⟩) (.intro (ok_pfr 41 (T := TX4) (N := 18) rfl inX4 tyX4_ok nmX4 (Nat.le_of_ble_eq_true rfl) wm_59 rfl rfl rfl (fun _ => ⟨rfl, rfl⟩)) (.intro (ok_aload_n 44 rfl) (.intro (ok_bipush 45 rfl) (.intro (ok_newa 47 wm_48 (Nat.le_of_ble_eq_true rfl) (Nat.le_of_ble_eq_true rfl) ⟨Nat.le_of_ble_eq_true rfl, Nat.le_of_ble_eq_true rfl⟩) (.intro (ok_pfr 49 (T := TX4) (N := 18) rfl inX4 tyX4_ok nmX4 (Nat.le_of_ble_eq_true rfl) wm_61 rfl rfl rfl (fun _ => ⟨rfl, rfl⟩)) (.intro (ok_aload_n 52 rfl) (.intro (ok_bipush 53 rfl) (.intro (ok_newa 55 wm_48 (Nat.le_of_ble_eq_true rfl) (Nat.le_of_ble_eq_true rfl) ⟨Nat.le_of_ble_eq_true rfl, Nat.le_of_ble_eq_true rfl⟩) (.intro (ok_pfr 57 (T := TX4) (N := 18) rfl inX4 tyX4_ok nmX4 (Nat.le_of_ble_eq_true rfl) wm_63 rfl rfl rfl (fun _ => ⟨rfl, rfl⟩)) (.intro (ok_aload_n 60 rfl) (.intro (ok_iconst 61 rfl) (.intro (ok_pf 62 (T := TX4) (N := 18) rfl inX4 tyX4_ok nmX4 (Nat.le_of_ble_eq_true rfl) wm_67 rfl rfl) (.intro (ok_aload_n 65 rfl) (.intro (ok_iconst 66 rfl) (.intro (ok_pf 67 (T := TX4) (N := 18) rfl inX4 tyX4_ok nmX4 (Nat.le_of_ble_eq_true rfl) wm_71 rfl rfl) (.intro (ok_aload_n 70 rfl) (.intro (ok_iconst 71 rfl) (.intro (ok_newq 72 (Or.inl rfl) wm_26 (Nat.le_of_ble_eq_true rfl) (Nat.le_of_ble_eq_true rfl) ⟨Nat.le_of_ble_eq_true rfl, Nat.le_of_ble_eq_true rfl⟩) (.intro (ok_dup 75) ((ko_T_init_1 E)))))))))))))))))))))))))))))))))))))))))
theorem snd_T_init : xSnd y_T_init prog_6_method_1_code 1 none 2 17 338 C_T_init := xSnd_of (init := true) (by decide +kernel) (by decide +kernel) (by decide +kernel) (fun _ => rfl) (fun E => xOks_all (ko_T_init E))
def pg_R_init : List xEl := [(0, .aload_n 0, 1, xs_al 0), (1, .invokespecial 3, 3, xs_obj), (4, .aload_n 0, 1, xs_al 0), (5, .bipush 50, 2, xs_push (.int 50)), (7, .newarray .int, 2, xs_newa 2 100 50), (9, .putfield 9, 3, xs_pfr 1 0), (12, .aload_n 0, 1, xs_al 0), (13, .bipush 50, 2, xs_push (.int 50)), (15, .newarray .int, 2, xs_newa 2 100 50), (17, .putfield 15, 3, xs_pfr 1 2), (20, .return_, 1, xs_ret)]
def C_R_init : xPT := xM 1 pg_R_init
set_option maxRecDepth 20000 in
theorem ko_R_init (E : xE) : xOks E (xR 1 2 100) "HomeCalls$Reader" prog_3_method_1_code 1 none true pg_R_init :=
  .intro (ok_aload_n 0 rfl) (.intro (ok_obj 1 wm_126 wm_18 wm_19 ⟨Nat.le_of_ble_eq_true rfl, Nat.le_of_ble_eq_true rfl⟩) (.intro (ok_aload_n 4 rfl) (.intro (ok_bipush 5 rfl) (.intro (ok_newa 7 wm_48 (Nat.le_of_ble_eq_true rfl) (Nat.le_of_ble_eq_true rfl) ⟨Nat.le_of_ble_eq_true rfl, Nat.le_of_ble_eq_true rfl⟩) (.intro (ok_pfr 9 (T := TX1) (N := 7) rfl inX1 tyX1_ok nmX1 (Nat.le_of_ble_eq_true rfl) wm_127 rfl rfl rfl (fun _ => ⟨rfl, rfl⟩)) (.intro (ok_aload_n 12 rfl) (.intro (ok_bipush 13 rfl) (.intro (ok_newa 15 wm_48 (Nat.le_of_ble_eq_true rfl) (Nat.le_of_ble_eq_true rfl) ⟨Nat.le_of_ble_eq_true rfl, Nat.le_of_ble_eq_true rfl⟩) (.intro (ok_pfr 17 (T := TX1) (N := 7) rfl inX1 tyX1_ok nmX1 (Nat.le_of_ble_eq_true rfl) wm_131 rfl rfl rfl (fun _ => ⟨rfl, rfl⟩)) (.intro (ok_ret 20 rfl) trivial))))))))))
theorem snd_R_init : xSnd y_R_init prog_3_method_1_code 1 none 1 2 100 C_R_init := xSnd_of (init := true) (by decide +kernel) (by decide +kernel) (by decide +kernel) (fun _ => rfl) (fun E => xOks_all (ko_R_init E))
def pg_P_init : List xEl := [(0, .aload_n 0, 1, xs_al 0), (1, .invokespecial 3, 3, xs_obj), (4, .aload_n 0, 1, xs_al 0), (5, .bipush 40, 2, xs_push (.int 40)), (7, .newarray .int, 2, xs_newa 1 40 40), (9, .putfield 9, 3, xs_pfr 3 0), (12, .return_, 1, xs_ret)]
def C_P_init : xPT := xM 1 pg_P_init
set_option maxRecDepth 20000 in
theorem ko_P_init (E : xE) : xOks E (xR 1 1 40) "HomeCalls$Speaker" prog_5_method_1_code 1 none true pg_P_init :=
  .intro (ok_aload_n 0 rfl) (.intro (ok_obj 1 wm_156 wm_18 wm_19 ⟨Nat.le_of_ble_eq_true rfl, Nat.le_of_ble_eq_true rfl⟩) (.intro (ok_aload_n 4 rfl) (.intro (ok_bipush 5 rfl) (.intro (ok_newa 7 wm_48 (Nat.le_of_ble_eq_true rfl) (Nat.le_of_ble_eq_true rfl) ⟨Nat.le_of_ble_eq_true rfl, Nat.le_of_ble_eq_true rfl⟩) (.intro (ok_pfr 9 (T := TX3) (N := 5) rfl inX3 tyX3_ok nmX3 (Nat.le_of_ble_eq_true rfl) wm_157 rfl rfl rfl (fun _ => ⟨rfl, rfl⟩)) (.intro (ok_ret 12 rfl) trivial))))))
theorem snd_P_init : xSnd y_P_init prog_5_method_1_code 1 none 1 1 40 C_P_init := xSnd_of (init := true) (by decide +kernel) (by decide +kernel) (by decide +kernel) (fun _ => rfl) (fun E => xOks_all (ko_P_init E))
def pg_S_init : List xEl := [(0, .aload_n 0, 1, xs_al 0), (1, .invokespecial 3, 3, xs_obj), (4, .aload_n 0, 1, xs_al 0), (5, .bipush 40, 2, xs_push (.int 40)), (7, .newarray .int, 2, xs_newa 1 40 40), (9, .putfield 9, 3, xs_pfr 2 0), (12, .return_, 1, xs_ret)]
def C_S_init : xPT := xM 1 pg_S_init
set_option maxRecDepth 20000 in
theorem ko_S_init (E : xE) : xOks E (xR 1 1 40) "HomeCalls$Sheet" prog_4_method_1_code 1 none true pg_S_init :=
  .intro (ok_aload_n 0 rfl) (.intro (ok_obj 1 wm_181 wm_18 wm_19 ⟨Nat.le_of_ble_eq_true rfl, Nat.le_of_ble_eq_true rfl⟩) (.intro (ok_aload_n 4 rfl) (.intro (ok_bipush 5 rfl) (.intro (ok_newa 7 wm_48 (Nat.le_of_ble_eq_true rfl) (Nat.le_of_ble_eq_true rfl) ⟨Nat.le_of_ble_eq_true rfl, Nat.le_of_ble_eq_true rfl⟩) (.intro (ok_pfr 9 (T := TX2) (N := 3) rfl inX2 tyX2_ok nmX2 (Nat.le_of_ble_eq_true rfl) wm_182 rfl rfl rfl (fun _ => ⟨rfl, rfl⟩)) (.intro (ok_ret 12 rfl) trivial))))))
theorem snd_S_init : xSnd y_S_init prog_4_method_1_code 1 none 1 1 40 C_S_init := xSnd_of (init := true) (by decide +kernel) (by decide +kernel) (by decide +kernel) (fun _ => rfl) (fun E => xOks_all (ko_S_init E))
def pg_H_init : List xEl := [(0, .aload_n 0, 1, xs_al 0), (1, .invokespecial 1, 3, xs_obj), (4, .aload_n 0, 1, xs_al 0), (5, .new 7, 3, xs_new 69 1402 4 18 [.null, .null, .int 0, .null, .null, .null, .null, .null, .int 0, .int 0, .int 0, .int 0, .null, .null, .int 0, .null, .int 0, .null]), (8, .dup, 1, xs_dup), (9, .invokespecial 9, 3, xs_call true 69 1402 17 338 (some 4) 1 C_T_init), (12, .putfield 10, 3, xs_pfr 5 0), (15, .aload_n 0, 1, xs_al 0), (16, .new 7, 3, xs_new 69 1402 4 18 [.null, .null, .int 0, .null, .null, .null, .null, .null, .int 0, .int 0, .int 0, .int 0, .null, .null, .int 0, .null, .int 0, .null]), (19, .dup, 1, xs_dup), (20, .invokespecial 9, 3, xs_call true 69 1402 17 338 (some 4) 1 C_T_init), (23, .putfield 16, 3, xs_pfr 5 1), (26, .aload_n 0, 1, xs_al 0), (27, .new 7, 3, xs_new 69 1402 4 18 [.null, .null, .int 0, .null, .null, .null, .null, .null, .int 0, .int 0, .int 0, .int 0, .null, .null, .int 0, .null, .int 0, .null]), (30, .dup, 1, xs_dup), (31, .invokespecial 9, 3, xs_call true 69 1402 17 338 (some 4) 1 C_T_init), (34, .putfield 19, 3, xs_pfr 5 2), (37, .aload_n 0, 1, xs_al 0), (38, .new 22, 3, xs_new 69 1402 1 7 [.null, .int 0, .null, .int 0, .int 0, .int 0, .int 0]), (41, .dup, 1, xs_dup), (42, .invokespecial 24, 3, xs_call true 69 1402 2 100 (some 1) 1 C_R_init), (45, .putfield 25, 3, xs_pfr 5 3), (48, .aload_n 0, 1, xs_al 0), (49, .new 29, 3, xs_new 69 1402 3 5 [.null, .int 0, .int 0, .int 0, .int 0]), (52, .dup, 1, xs_dup), (53, .invokespecial 31, 3, xs_call true 69 1402 1 40 (some 3) 1 C_P_init), (56, .putfield 32, 3, xs_pfr 5 4), (59, .aload_n 0, 1, xs_al 0), (60, .iconst 4, 1, xs_push (.int 4)), (61, .anewarray 36, 3, xs_newq 69 1402 1 4), (64, .dup, 1, xs_dup), (65, .iconst 0, 1, xs_push (.int 0)), (66, .new 36, 3, xs_new 69 1402 2 3 [.null, .int 0, .int 0]), (69, .dup, 1, xs_dup), (70, .invokespecial 38, 3, xs_call true 69 1402 1 40 (some 2) 1 C_S_init), (73, .aastore, 1, xs_aast 1 2 0), (74, .dup, 1, xs_dup), (75, .iconst 1, 1, xs_push (.int 1)), (76, .new 36, 3, xs_new 69 1402 2 3 [.null, .int 0, .int 0]), (79, .dup, 1, xs_dup), (80, .invokespecial 38, 3, xs_call true 69 1402 1 40 (some 2) 1 C_S_init), (83, .aastore, 1, xs_aast 1 2 1), (84, .dup, 1, xs_dup), (85, .iconst 2, 1, xs_push (.int 2)), (86, .new 36, 3, xs_new 69 1402 2 3 [.null, .int 0, .int 0]), (89, .dup, 1, xs_dup), (90, .invokespecial 38, 3, xs_call true 69 1402 1 40 (some 2) 1 C_S_init), (93, .aastore, 1, xs_aast 1 2 2), (94, .dup, 1, xs_dup), (95, .iconst 3, 1, xs_push (.int 3)), (96, .new 36, 3, xs_new 69 1402 2 3 [.null, .int 0, .int 0]), (99, .dup, 1, xs_dup), (100, .invokespecial 38, 3, xs_call true 69 1402 1 40 (some 2) 1 C_S_init), (103, .aastore, 1, xs_aast 1 2 3), (104, .putfield 39, 3, xs_pfr 5 5), (107, .aload_n 0, 1, xs_al 0), (108, .bipush 6, 2, xs_push (.int 6)), (110, .newarray .int, 2, xs_newa 69 1402 6), (112, .putfield 43, 3, xs_pfr 5 6), (115, .return_, 1, xs_ret)]
def C_H_init : xPT := xM 1 pg_H_init
set_option maxRecDepth 20000 in
theorem ko_H_init_1 (E : xE) : xOks E (xR 3 69 1402) "HomeCalls" prog_1_method_1_code 1 none true (List.drop 40 pg_H_init) :=
  .intro (ok_core 80 (run_I 80 (host := "HomeCalls") snd_S_init rfl (List.mem_of_getElem? (i := 4) rfl) wm_179 wm_6 wm_180 hd_S_init.2 ⟨Nat.le_of_ble_eq_true rfl, Nat.le_of_ble_eq_true rfl⟩) ⟨Nat.le_of_ble_eq_true rfl, Nat.le_of_ble_eq_true rfl⟩) (.intro (ok_aast 83 (Or.inr rfl) (r := (RX2, TX2, 3)) rfl rfl (Nat.le_of_ble_eq_true rfl)) (.intro (ok_dup 84) (.intro (ok_iconst 85 rfl) (.intro (ok_new 86 (T := TX2) (ty0 := tyX2) (N := 3) rfl inX2 tyX2_ok wm_175 wm_177 wm_6 dfX2 (fun _ => rfl) ⟨Nat.le_of_ble_eq_true rfl, Nat.le_of_ble_eq_true rfl⟩) (.intro (ok_dup 89) (.intro (ok_core 90 (run_I 90 (host := "HomeCalls") snd_S_init rfl (List.mem_of_getElem? (i := 4) rfl) wm_179 wm_6 wm_180 hd_S_init.2 ⟨Nat.le_of_ble_eq_true rfl, Nat.le_of_ble_eq_true rfl⟩) ⟨Nat.le_of_ble_eq_true rfl, Nat.le_of_ble_eq_true rfl⟩) (.intro (ok_aast 93 (Or.inr rfl) (r := (RX2, TX2, 3)) rfl rfl (Nat.le_of_ble_eq_true rfl)) (.intro (ok_dup 94) (.intro (ok_iconst 95 rfl) (.intro (ok_new 96 (T := TX2) (ty0 := tyX2) (N := 3) rfl inX2 tyX2_ok wm_175 wm_177 wm_6 dfX2 (fun _ => rfl) ⟨Nat.le_of_ble_eq_true rfl, Nat.le_of_ble_eq_true rfl⟩) (.intro (ok_dup 99) (.intro (ok_core 100 (run_I 100 (host := "HomeCalls") snd_S_init rfl (List.mem_of_getElem? (i := 4) rfl) wm_179 wm_6 wm_180 hd_S_init.2 ⟨Nat.le_of_ble_eq_true rfl, Nat.le_of_ble_eq_true rfl⟩) ⟨Nat.le_of_ble_eq_true rfl, Nat.le_of_ble_eq_true rfl⟩) (.intro (ok_aast 103 (Or.inr rfl) (r := (RX2, TX2, 3)) rfl rfl (Nat.le_of_ble_eq_true rfl)) (.intro (ok_pfr 104 (T := TX5) (N := 8) rfl inX5 tyX5_ok nmX5 (Nat.le_of_ble_eq_true rfl) wm_200 rfl rfl rfl (fun _ => ⟨rfl, rfl⟩)) (.intro (ok_aload_n 107 rfl) (.intro (ok_bipush 108 rfl) (.intro (ok_newa 110 wm_48 (Nat.le_of_ble_eq_true rfl) (Nat.le_of_ble_eq_true rfl) ⟨Nat.le_of_ble_eq_true rfl, Nat.le_of_ble_eq_true rfl⟩) (.intro (ok_pfr 112 (T := TX5) (N := 8) rfl inX5 tyX5_ok nmX5 (Nat.le_of_ble_eq_true rfl) wm_201 rfl rfl rfl (fun _ => ⟨rfl, rfl⟩)) (.intro (ok_ret 115 rfl) trivial)))))))))))))))))))
set_option maxRecDepth 20000 in
theorem ko_H_init (E : xE) : xOks E (xR 3 69 1402) "HomeCalls" prog_1_method_1_code 1 none true pg_H_init :=
  .intro (ok_aload_n 0 rfl) (.intro (ok_obj 1 wm_17 wm_18 wm_19 ⟨Nat.le_of_ble_eq_true rfl, Nat.le_of_ble_eq_true rfl⟩) (.intro (ok_aload_n 4 rfl) (.intro (ok_new 5 (T := TX4) (ty0 := tyX4) (N := 18) rfl inX4 tyX4_ok wm_20 wm_21 wm_2 dfX4 (fun _ => rfl) ⟨Nat.le_of_ble_eq_true rfl, Nat.le_of_ble_eq_true rfl⟩) (.intro (ok_dup 8) (.intro (ok_core 9 (run_I 9 (host := "HomeCalls") snd_T_init rfl (List.mem_of_getElem? (i := 0) rfl) wm_23 wm_2 wm_24 hd_T_init.2 ⟨Nat.le_of_ble_eq_true rfl, Nat.le_of_ble_eq_true rfl⟩) ⟨Nat.le_of_ble_eq_true rfl, Nat.le_of_ble_eq_true rfl⟩) (.intro (ok_pfr 12 (T := TX5) (N := 8) rfl inX5 tyX5_ok nmX5 (Nat.le_of_ble_eq_true rfl) wm_195 rfl rfl rfl (fun _ => ⟨rfl, rfl⟩)) (.intro (ok_aload_n 15 rfl) (.intro (ok_new 16 (T := TX4) (ty0 := tyX4) (N := 18) rfl inX4 tyX4_ok wm_20 wm_21 wm_2 dfX4 (fun _ => rfl) ⟨Nat.le_of_ble_eq_true rfl, Nat.le_of_ble_eq_true rfl⟩) (.intro (ok_dup 19) (.intro (ok_core 20 (run_I 20 (host := "HomeCalls") snd_T_init rfl (List.mem_of_getElem? (i := 0) rfl) wm_23 wm_2 wm_24 hd_T_init.2 ⟨Nat.le_of_ble_eq_true rfl, Nat.le_of_ble_eq_true rfl⟩) ⟨Nat.le_of_ble_eq_true rfl, Nat.le_of_ble_eq_true rfl⟩) (.intro (ok_pfr 23 (T := TX5) (N := 8) rfl inX5 tyX5_ok nmX5 (Nat.le_of_ble_eq_true rfl) wm_196 rfl rfl rfl (fun _ => ⟨rfl, rfl⟩)) (.intro (ok_aload_n 26 rfl) (.intro (ok_new 27 (T := TX4) (ty0 := tyX4) (N := 18) rfl inX4 tyX4_ok wm_20 wm_21 wm_2 dfX4 (fun _ => rfl) ⟨Nat.le_of_ble_eq_true rfl, Nat.le_of_ble_eq_true rfl⟩) (.intro (ok_dup 30) (.intro (ok_core 31 (run_I 31 (host := "HomeCalls") snd_T_init rfl (List.mem_of_getElem? (i := 0) rfl) wm_23 wm_2 wm_24 hd_T_init.2 ⟨Nat.le_of_ble_eq_true rfl, Nat.le_of_ble_eq_true rfl⟩) ⟨Nat.le_of_ble_eq_true rfl, Nat.le_of_ble_eq_true rfl⟩) (.intro (ok_pfr 34 (T := TX5) (N := 8) rfl inX5 tyX5_ok nmX5 (Nat.le_of_ble_eq_true rfl) wm_197 rfl rfl rfl (fun _ => ⟨rfl, rfl⟩)) (.intro (ok_aload_n 37 rfl) (.intro (ok_new 38 (T := TX1) (ty0 := tyX1) (N := 7) rfl inX1 tyX1_ok wm_121 wm_122 wm_4 dfX1 (fun _ => rfl) ⟨Nat.le_of_ble_eq_true rfl, Nat.le_of_ble_eq_true rfl⟩) (.intro (ok_dup 41) (.intro (ok_core 42 (run_I 42 (host := "HomeCalls") snd_R_init rfl (List.mem_of_getElem? (i := 2) rfl) wm_124 wm_4 wm_125 hd_R_init.2 ⟨Nat.le_of_ble_eq_true rfl, Nat.le_of_ble_eq_true rfl⟩) ⟨Nat.le_of_ble_eq_true rfl, Nat.le_of_ble_eq_true rfl⟩) (.intro (ok_pfr 45 (T := TX5) (N := 8) rfl inX5 tyX5_ok nmX5 (Nat.le_of_ble_eq_true rfl) wm_198 rfl rfl rfl (fun _ => ⟨rfl, rfl⟩)) (.intro (ok_aload_n 48 rfl) (.intro (ok_new 49 (T := TX3) (ty0 := tyX3) (N := 5) rfl inX3 tyX3_ok wm_151 wm_152 wm_5 dfX3 (fun _ => rfl) ⟨Nat.le_of_ble_eq_true rfl, Nat.le_of_ble_eq_true rfl⟩) (.intro (ok_dup 52) (.intro (ok_core 53 (run_I 53 (host := "HomeCalls") snd_P_init rfl (List.mem_of_getElem? (i := 3) rfl) wm_154 wm_5 wm_155 hd_P_init.2 ⟨Nat.le_of_ble_eq_true rfl, Nat.le_of_ble_eq_true rfl⟩) ⟨Nat.le_of_ble_eq_true rfl, Nat.le_of_ble_eq_true rfl⟩) (.intro (ok_pfr 56 (T := TX5) (N := 8) rfl inX5 tyX5_ok nmX5 (Nat.le_of_ble_eq_true rfl) wm_199 rfl rfl rfl (fun _ => ⟨rfl, rfl⟩)) (.intro (ok_aload_n 59 rfl) (.intro (ok_iconst 60 rfl) (.intro (ok_newq 61 (Or.inr rfl) wm_175 (Nat.le_of_ble_eq_true rfl) (Nat.le_of_ble_eq_true rfl) ⟨Nat.le_of_ble_eq_true rfl, Nat.le_of_ble_eq_true rfl⟩) (.intro (ok_dup 64) (.intro (ok_iconst 65 rfl) (.intro (ok_new 66 (T := TX2) (ty0 := tyX2) (N := 3) rfl inX2 tyX2_ok wm_175 wm_177 wm_6 dfX2 (fun _ => rfl) ⟨Nat.le_of_ble_eq_true rfl, Nat.le_of_ble_eq_true rfl⟩) (.intro (ok_dup 69) (.intro (ok_core 70 (run_I 70 (host := "HomeCalls") snd_S_init rfl (List.mem_of_getElem? (i := 4) rfl) wm_179 wm_6 wm_180 hd_S_init.2 ⟨Nat.le_of_ble_eq_true rfl, Nat.le_of_ble_eq_true rfl⟩) ⟨Nat.le_of_ble_eq_true rfl, Nat.le_of_ble_eq_true rfl⟩) (.intro (ok_aast 73 (Or.inr rfl) (r := (RX2, TX2, 3)) rfl rfl (Nat.le_of_ble_eq_true rfl)) (.intro (ok_dup 74) (.intro (ok_iconst 75 rfl) (.intro (ok_new 76 (T := TX2) (ty0 := tyX2) (N := 3) rfl inX2 tyX2_ok wm_175 wm_177 wm_6 dfX2 (fun _ => rfl) ⟨Nat.le_of_ble_eq_true rfl, Nat.le_of_ble_eq_true rfl⟩) (.intro (ok_dup 79) ((ko_H_init_1 E)))))))))))))))))))))))))))))))))))))))))
theorem snd_H_init : xSnd y_H_init prog_1_method_1_code 1 none 3 69 1402 C_H_init := xSnd_of (init := true) (by decide +kernel) (by decide +kernel) (by decide +kernel) (fun _ => rfl) (fun E => xOks_all (ko_H_init E))
def pg_H_isBelow : List xEl := [(0, .iload_n 0, 1, xs_il 0), (1, .ifCond .lt 12, 3, xs_if (fun x => x < 0) 13), (4, .iload_n 0, 1, xs_il 0), (5, .iload_n 1, 1, xs_il 1), (6, .if_icmp .ge 7, 3, xs_ic (fun x y => y ≤ x) 13), (9, .iconst 1, 1, xs_push (.int 1)), (10, .goto 4, 3, xs_goto 14), (13, .iconst 0, 1, xs_push (.int 0)), (14, .ireturn, 1, xs_iret true)]
def C_H_isBelow : xPT := xM 2 pg_H_isBelow
set_option maxRecDepth 20000 in
theorem ko_H_isBelow (E : xE) : xOks E (xR 1 0 0) "HomeCalls" prog_1_method_44_code 2 (some FieldType.boolean) false pg_H_isBelow :=
  .intro (ok_iload_n 0 rfl) (.intro (ok_if_lt 1 rfl) (.intro (ok_iload_n 4 rfl) (.intro (ok_iload_n 5 rfl) (.intro (ok_ic_ge 6 rfl) (.intro (ok_iconst 9 rfl) (.intro (ok_goto 10 rfl) (.intro (ok_iconst 13 rfl) (.intro (ok_iret 14 rfl) trivial))))))))
theorem snd_H_isBelow : xSnd y_H_isBelow prog_1_method_44_code 2 (some FieldType.boolean) 1 0 0 C_H_isBelow := xSnd_of (init := false) (by decide +kernel) (by decide +kernel) (by decide +kernel) (fun h => by cases h) (fun E => xOks_all (ko_H_isBelow E))
def pg_H_error : List xEl := [(0, .aload_n 0, 1, xs_al 0), (1, .getfield 43, 3, xs_gf 5 6), (4, .iload_n 1, 1, xs_il 1), (5, .dup2, 1, xs_dup2), (6, .iaload, 1, xs_iald), (7, .iconst 1, 1, xs_push (.int 1)), (8, .iadd, 1, xs_b2 (fun x y => x + y)), (9, .iastore, 1, xs_iast), (10, .ldc 244, 2, xs_push (.int (-1000000000))), (12, .iload_n 1, 1, xs_il 1), (13, .isub, 1, xs_b2 (fun x y => x - y)), (14, .ireturn, 1, xs_iret false)]
def C_H_error : xPT := xM 2 pg_H_error
set_option maxRecDepth 20000 in
theorem ko_H_error (E : xE) : xOks E (xR 1 0 0) "HomeCalls" prog_1_method_43_code 2 (some FieldType.int) false pg_H_error :=
  .intro (ok_aload_n 0 rfl) (.intro (ok_gf 1 (T := TX5) (N := 8) rfl inX5 (Nat.le_of_ble_eq_true rfl) wm_201) (.intro (ok_iload_n 4 rfl) (.intro (ok_dup2 5) (.intro (ok_iald 6) (.intro (ok_iconst 7 rfl) (.intro (ok_iadd 8) (.intro (ok_iast 9) (.intro (ok_ldc 10 wm_231) (.intro (ok_iload_n 12 rfl) (.intro (ok_isub 13) (.intro (ok_iret 14 rfl) trivial)))))))))))
theorem snd_H_error : xSnd y_H_error prog_1_method_43_code 2 (some FieldType.int) 1 0 0 C_H_error := xSnd_of (init := false) (by decide +kernel) (by decide +kernel) (by decide +kernel) (fun h => by cases h) (fun E => xOks_all (ko_H_error E))
def pg_T_addThing : List xEl := [(0, .aload_n 0, 1, xs_al 0), (1, .getfield 9, 3, xs_gf 4 0), (4, .aload_n 0, 1, xs_al 0), (5, .getfield 60, 3, xs_gf 4 2), (8, .iload_n 1, 1, xs_il 1), (9, .iastore, 1, xs_iast), (10, .aload_n 0, 1, xs_al 0), (11, .getfield 15, 3, xs_gf 4 1), (14, .aload_n 0, 1, xs_al 0), (15, .getfield 60, 3, xs_gf 4 2), (18, .iload_n 2, 1, xs_il 2), (19, .iastore, 1, xs_iast), (20, .aload_n 0, 1, xs_al 0), (21, .dup, 1, xs_dup), (22, .getfield 60, 3, xs_gf 4 2), (25, .iconst 1, 1, xs_push (.int 1)), (26, .iadd, 1, xs_b2 (fun x y => x + y)), (27, .putfield 60, 3, xs_pf false 4 2), (30, .aload_n 0, 1, xs_al 0), (31, .getfield 60, 3, xs_gf 4 2), (34, .iconst 1, 1, xs_push (.int 1)), (35, .isub, 1, xs_b2 (fun x y => x - y)), (36, .ireturn, 1, xs_iret false)]
def C_T_addThing : xPT := xM 3 pg_T_addThing
set_option maxRecDepth 20000 in
theorem ko_T_addThing (E : xE) : xOks E (xR 1 0 0) "HomeCalls$Street" prog_6_method_4_code 3 (some FieldType.int) false pg_T_addThing :=
  .intro (ok_aload_n 0 rfl) (.intro (ok_gf 1 (T := TX4) (N := 18) rfl inX4 (Nat.le_of_ble_eq_true rfl) wm_49) (.intro (ok_aload_n 4 rfl) (.intro (ok_gf 5 (T := TX4) (N := 18) rfl inX4 (Nat.le_of_ble_eq_true rfl) wm_53) (.intro (ok_iload_n 8 rfl) (.intro (ok_iast 9) (.intro (ok_aload_n 10 rfl) (.intro (ok_gf 11 (T := TX4) (N := 18) rfl inX4 (Nat.le_of_ble_eq_true rfl) wm_51) (.intro (ok_aload_n 14 rfl) (.intro (ok_gf 15 (T := TX4) (N := 18) rfl inX4 (Nat.le_of_ble_eq_true rfl) wm_53) (.intro (ok_iload_n 18 rfl) (.intro (ok_iast 19) (.intro (ok_aload_n 20 rfl) (.intro (ok_dup 21) (.intro (ok_gf 22 (T := TX4) (N := 18) rfl inX4 (Nat.le_of_ble_eq_true rfl) wm_53) (.intro (ok_iconst 25 rfl) (.intro (ok_iadd 26) (.intro (ok_pf 27 (T := TX4) (N := 18) rfl inX4 tyX4_ok nmX4 (Nat.le_of_ble_eq_true rfl) wm_53 rfl rfl) (.intro (ok_aload_n 30 rfl) (.intro (ok_gf 31 (T := TX4) (N := 18) rfl inX4 (Nat.le_of_ble_eq_true rfl) wm_53) (.intro (ok_iconst 34 rfl) (.intro (ok_isub 35) (.intro (ok_iret 36 rfl) trivial))))))))))))))))))))))
theorem snd_T_addThing : xSnd y_T_addThing prog_6_method_4_code 3 (some FieldType.int) 1 0 0 C_T_addThing := xSnd_of (init := false) (by decide +kernel) (by decide +kernel) (by decide +kernel) (fun h => by cases h) (fun E => xOks_all (ko_T_addThing E))
def pg_H_thing : List xEl := [(0, .iload_n 1, 1, xs_il 1), (1, .bipush 12, 2, xs_push (.int 12)), (3, .invokestatic 47, 3, xs_call false 0 0 0 0 none 2 C_H_isBelow), (6, .ifCond .eq 12, 3, xs_if (fun x => x = 0) 18), (9, .iload_n 2, 1, xs_il 2), (10, .bipush 64, 2, xs_push (.int 64)), (12, .invokestatic 47, 3, xs_call false 0 0 0 0 none 2 C_H_isBelow), (15, .ifCond .ne 9, 3, xs_ifn (fun x => x = 0) 24), (18, .aload_n 0, 1, xs_al 0), (19, .iconst 1, 1, xs_push (.int 1)), (20, .invokevirtual 51, 3, xs_call false 0 0 0 0 (some 5) 2 C_H_error), (23, .ireturn, 1, xs_iret false), (24, .aload_n 0, 1, xs_al 0), (25, .getfield 10, 3, xs_gf 5 0), (28, .getfield 55, 3, xs_gf 4 2), (31, .bipush 8, 2, xs_push (.int 8)), (33, .if_icmp .lt 9, 3, xs_ic (fun x y => x < y) 42), (36, .aload_n 0, 1, xs_al 0), (37, .iconst 4, 1, xs_push (.int 4)), (38, .invokevirtual 51, 3, xs_call false 0 0 0 0 (some 5) 2 C_H_error), (41, .ireturn, 1, xs_iret false), (42, .aload_n 0, 1, xs_al 0), (43, .getfield 10, 3, xs_gf 5 0), (46, .iload_n 1, 1, xs_il 1), (47, .iload_n 2, 1, xs_il 2), (48, .invokevirtual 59, 3, xs_call false 0 0 0 0 (some 4) 3 C_T_addThing), (51, .ireturn, 1, xs_iret false)]
def C_H_thing : xPT := xM 3 pg_H_thing
set_option maxRecDepth 20000 in
theorem ko_H_thing (E : xE) : xOks E (xR 2 0 0) "HomeCalls" prog_1_method_2_code 3 (some FieldType.int) false pg_H_thing :=
  .intro (ok_iload_n 0 rfl) (.intro (ok_bipush 1 rfl) (.intro (ok_core 3 (run_S 3 snd_H_isBelow wm_224 wm_225 wm_1 wm_226 hd_H_isBelow.2 ⟨Nat.le_of_ble_eq_true rfl, Nat.le_of_ble_eq_true rfl⟩) ⟨Nat.le_of_ble_eq_true rfl, Nat.le_of_ble_eq_true rfl⟩) (.intro (ok_if_eq 6 rfl) (.intro (ok_iload_n 9 rfl) (.intro (ok_bipush 10 rfl) (.intro (ok_core 12 (run_S 12 snd_H_isBelow wm_224 wm_225 wm_1 wm_226 hd_H_isBelow.2 ⟨Nat.le_of_ble_eq_true rfl, Nat.le_of_ble_eq_true rfl⟩) ⟨Nat.le_of_ble_eq_true rfl, Nat.le_of_ble_eq_true rfl⟩) (.intro (ok_if_ne 15 rfl) (.intro (ok_aload_n 18 rfl) (.intro (ok_iconst 19 rfl) (.intro (ok_core 20 (run_V 20 (T := TX5) (N := 8) snd_H_error rfl wm_227 wm_229 wp_0 wm_1 wm_230 hd_H_error ⟨Nat.le_of_ble_eq_true rfl, Nat.le_of_ble_eq_true rfl⟩) ⟨Nat.le_of_ble_eq_true rfl, Nat.le_of_ble_eq_true rfl⟩) (.intro (ok_iret 23 rfl) (.intro (ok_aload_n 24 rfl) (.intro (ok_gf 25 (T := TX5) (N := 8) rfl inX5 (Nat.le_of_ble_eq_true rfl) wm_195) (.intro (ok_gf 28 (T := TX4) (N := 18) rfl inX4 (Nat.le_of_ble_eq_true rfl) wm_54) (.intro (ok_bipush 31 rfl) (.intro (ok_ic_lt 33 rfl) (.intro (ok_aload_n 36 rfl) (.intro (ok_iconst 37 rfl) (.intro (ok_core 38 (run_V 38 (T := TX5) (N := 8) snd_H_error rfl wm_227 wm_229 wp_0 wm_1 wm_230 hd_H_error ⟨Nat.le_of_ble_eq_true rfl, Nat.le_of_ble_eq_true rfl⟩) ⟨Nat.le_of_ble_eq_true rfl, Nat.le_of_ble_eq_true rfl⟩) (.intro (ok_iret 41 rfl) (.intro (ok_aload_n 42 rfl) (.intro (ok_gf 43 (T := TX5) (N := 8) rfl inX5 (Nat.le_of_ble_eq_true rfl) wm_195) (.intro (ok_iload_n 46 rfl) (.intro (ok_iload_n 47 rfl) (.intro (ok_core 48 (run_V 48 (T := TX4) (N := 18) snd_T_addThing rfl wm_232 wm_233 wm_234 wm_2 wm_235 hd_T_addThing ⟨Nat.le_of_ble_eq_true rfl, Nat.le_of_ble_eq_true rfl⟩) ⟨Nat.le_of_ble_eq_true rfl, Nat.le_of_ble_eq_true rfl⟩) (.intro (ok_iret 51 rfl) trivial))))))))))))))))))))))))))
theorem snd_H_thing : xSnd y_H_thing prog_1_method_2_code 3 (some FieldType.int) 2 0 0 C_H_thing := xSnd_of (init := false) (by decide +kernel) (by decide +kernel) (by decide +kernel) (fun h => by cases h) (fun E => xOks_all (ko_H_thing E))
def pg_T_rowOfThings : List xEl := [(0, .iload_n 1, 1, xs_il 1), (1, .ifCond .ne 10, 3, xs_ifn (fun x => x = 0) 11), (4, .aload_n 0, 1, xs_al 0), (5, .getfield 9, 3, xs_gf 4 0), (8, .goto 7, 3, xs_goto 15), (11, .aload_n 0, 1, xs_al 0), (12, .getfield 15, 3, xs_gf 4 1), (15, .areturn, 1, xs_aret)]
def C_T_rowOfThings : xPT := xM 2 pg_T_rowOfThings
set_option maxRecDepth 20000 in
theorem ko_T_rowOfThings (E : xE) : xOks E (xR 1 0 0) "HomeCalls$Street" prog_6_method_5_code 2 (some (FieldType.array FieldType.int)) false pg_T_rowOfThings :=
  .intro (ok_iload_n 0 rfl) (.intro (ok_if_ne 1 rfl) (.intro (ok_aload_n 4 rfl) (.intro (ok_gf 5 (T := TX4) (N := 18) rfl inX4 (Nat.le_of_ble_eq_true rfl) wm_49) (.intro (ok_goto 8 rfl) (.intro (ok_aload_n 11 rfl) (.intro (ok_gf 12 (T := TX4) (N := 18) rfl inX4 (Nat.le_of_ble_eq_true rfl) wm_51) (.intro (ok_aret 15 rfl) trivial)))))))
theorem snd_T_rowOfThings : xSnd y_T_rowOfThings prog_6_method_5_code 2 (some (FieldType.array FieldType.int)) 1 0 0 C_T_rowOfThings := xSnd_of (init := false) (by decide +kernel) (by decide +kernel) (by decide +kernel) (fun h => by cases h) (fun E => xOks_all (ko_T_rowOfThings E))
def pg_H_ofThing : List xEl := [(0, .iload_n 1, 1, xs_il 1), (1, .aload_n 0, 1, xs_al 0), (2, .getfield 10, 3, xs_gf 5 0), (5, .getfield 55, 3, xs_gf 4 2), (8, .invokestatic 47, 3, xs_call false 0 0 0 0 none 2 C_H_isBelow), (11, .ifCond .eq 11, 3, xs_if (fun x => x = 0) 22), (14, .iload_n 2, 1, xs_il 2), (15, .iconst 2, 1, xs_push (.int 2)), (16, .invokestatic 47, 3, xs_call false 0 0 0 0 none 2 C_H_isBelow), (19, .ifCond .ne 9, 3, xs_ifn (fun x => x = 0) 28), (22, .aload_n 0, 1, xs_al 0), (23, .iconst 1, 1, xs_push (.int 1)), (24, .invokevirtual 51, 3, xs_call false 0 0 0 0 (some 5) 2 C_H_error), (27, .ireturn, 1, xs_iret false), (28, .aload_n 0, 1, xs_al 0), (29, .getfield 10, 3, xs_gf 5 0), (32, .iload_n 2, 1, xs_il 2), (33, .invokevirtual 63, 3, xs_call false 0 0 0 0 (some 4) 2 C_T_rowOfThings), (36, .iload_n 1, 1, xs_il 1), (37, .iaload, 1, xs_iald), (38, .ireturn, 1, xs_iret false)]
def C_H_ofThing : xPT := xM 3 pg_H_ofThing
set_option maxRecDepth 20000 in
theorem ko_H_ofThing (E : xE) : xOks E (xR 2 0 0) "HomeCalls" prog_1_method_3_code 3 (some FieldType.int) false pg_H_ofThing :=
  .intro (ok_iload_n 0 rfl) (.intro (ok_aload_n 1 rfl) (.intro (ok_gf 2 (T := TX5) (N := 8) rfl inX5 (Nat.le_of_ble_eq_true rfl) wm_195) (.intro (ok_gf 5 (T := TX4) (N := 18) rfl inX4 (Nat.le_of_ble_eq_true rfl) wm_54) (.intro (ok_core 8 (run_S 8 snd_H_isBelow wm_224 wm_225 wm_1 wm_226 hd_H_isBelow.2 ⟨Nat.le_of_ble_eq_true rfl, Nat.le_of_ble_eq_true rfl⟩) ⟨Nat.le_of_ble_eq_true rfl, Nat.le_of_ble_eq_true rfl⟩) (.intro (ok_if_eq 11 rfl) (.intro (ok_iload_n 14 rfl) (.intro (ok_iconst 15 rfl) (.intro (ok_core 16 (run_S 16 snd_H_isBelow wm_224 wm_225 wm_1 wm_226 hd_H_isBelow.2 ⟨Nat.le_of_ble_eq_true rfl, Nat.le_of_ble_eq_true rfl⟩) ⟨Nat.le_of_ble_eq_true rfl, Nat.le_of_ble_eq_true rfl⟩) (.intro (ok_if_ne 19 rfl) (.intro (ok_aload_n 22 rfl) (.intro (ok_iconst 23 rfl) (.intro (ok_core 24 (run_V 24 (T := TX5) (N := 8) snd_H_error rfl wm_227 wm_229 wp_0 wm_1 wm_230 hd_H_error ⟨Nat.le_of_ble_eq_true rfl, Nat.le_of_ble_eq_true rfl⟩) ⟨Nat.le_of_ble_eq_true rfl, Nat.le_of_ble_eq_true rfl⟩) (.intro (ok_iret 27 rfl) (.intro (ok_aload_n 28 rfl) (.intro (ok_gf 29 (T := TX5) (N := 8) rfl inX5 (Nat.le_of_ble_eq_true rfl) wm_195) (.intro (ok_iload_n 32 rfl) (.intro (ok_core 33 (run_V 33 (T := TX4) (N := 18) snd_T_rowOfThings rfl wm_240 wm_241 wm_242 wm_2 wm_243 hd_T_rowOfThings ⟨Nat.le_of_ble_eq_true rfl, Nat.le_of_ble_eq_true rfl⟩) ⟨Nat.le_of_ble_eq_true rfl, Nat.le_of_ble_eq_true rfl⟩) (.intro (ok_iload_n 36 rfl) (.intro (ok_iald 37) (.intro (ok_iret 38 rfl) trivial))))))))))))))))))))
theorem snd_H_ofThing : xSnd y_H_ofThing prog_1_method_3_code 3 (some FieldType.int) 2 0 0 C_H_ofThing := xSnd_of (init := false) (by decide +kernel) (by decide +kernel) (by decide +kernel) (fun h => by cases h) (fun E => xOks_all (ko_H_ofThing E))
def pg_H_replace : List xEl := [(0, .aload_n 0, 1, xs_al 0), (1, .iload_n 1, 1, xs_il 1), (2, .iaload, 1, xs_iald), (3, .istore_n 3, 1, xs_is 3), (4, .aload_n 0, 1, xs_al 0), (5, .iload_n 1, 1, xs_il 1), (6, .iload_n 2, 1, xs_il 2), (7, .iastore, 1, xs_iast), (8, .iload_n 3, 1, xs_il 3), (9, .ireturn, 1, xs_iret false)]
def C_H_replace : xPT := xM 4 pg_H_replace
set_option maxRecDepth 20000 in
theorem ko_H_replace (E : xE) : xOks E (xR 1 0 0) "HomeCalls" prog_1_method_48_code 4 (some FieldType.int) false pg_H_replace :=
  .intro (ok_aload_n 0 rfl) (.intro (ok_iload_n 1 rfl) (.intro (ok_iald 2) (.intro (ok_istore_n 3 rfl (Nat.le_of_ble_eq_true rfl)) (.intro (ok_aload_n 4 rfl) (.intro (ok_iload_n 5 rfl) (.intro (ok_iload_n 6 rfl) (.intro (ok_iast 7) (.intro (ok_iload_n 8 rfl) (.intro (ok_iret 9 rfl) trivial)))))))))
theorem snd_H_replace : xSnd y_H_replace prog_1_method_48_code 4 (some FieldType.int) 1 0 0 C_H_replace := xSnd_of (init := false) (by decide +kernel) (by decide +kernel) (by decide +kernel) (fun h => by cases h) (fun E => xOks_all (ko_H_replace E))
def pg_H_shift : List xEl := [(0, .iload_n 1, 1, xs_il 1), (1, .aload_n 0, 1, xs_al 0), (2, .getfield 10, 3, xs_gf 5 0), (5, .getfield 55, 3, xs_gf 4 2), (8, .invokestatic 47, 3, xs_call false 0 0 0 0 none 2 C_H_isBelow), (11, .ifCond .eq 11, 3, xs_if (fun x => x = 0) 22), (14, .iload_n 2, 1, xs_il 2), (15, .iconst 2, 1, xs_push (.int 2)), (16, .invokestatic 47, 3, xs_call false 0 0 0 0 none 2 C_H_isBelow), (19, .ifCond .ne 9, 3, xs_ifn (fun x => x = 0) 28), (22, .aload_n 0, 1, xs_al 0), (23, .iconst 1, 1, xs_push (.int 1)), (24, .invokevirtual 51, 3, xs_call false 0 0 0 0 (some 5) 2 C_H_error), (27, .ireturn, 1, xs_iret false), (28, .iload_n 3, 1, xs_il 3), (29, .iload_n 2, 1, xs_il 2), (30, .ifCond .ne 8, 3, xs_ifn (fun x => x = 0) 38), (33, .bipush 12, 2, xs_push (.int 12)), (35, .goto 5, 3, xs_goto 40), (38, .bipush 64, 2, xs_push (.int 64)), (40, .invokestatic 47, 3, xs_call false 0 0 0 0 none 2 C_H_isBelow), (43, .ifCond .ne 9, 3, xs_ifn (fun x => x = 0) 52), (46, .aload_n 0, 1, xs_al 0), (47, .iconst 1, 1, xs_push (.int 1)), (48, .invokevirtual 51, 3, xs_call false 0 0 0 0 (some 5) 2 C_H_error), (51, .ireturn, 1, xs_iret false), (52, .aload_n 0, 1, xs_al 0), (53, .getfield 10, 3, xs_gf 5 0), (56, .iload_n 2, 1, xs_il 2), (57, .invokevirtual 63, 3, xs_call false 0 0 0 0 (some 4) 2 C_T_rowOfThings), (60, .iload_n 1, 1, xs_il 1), (61, .iload_n 3, 1, xs_il 3), (62, .invokestatic 67, 3, xs_call false 0 0 0 0 none 3 C_H_replace), (65, .ireturn, 1, xs_iret false)]
def C_H_shift : xPT := xM 4 pg_H_shift
set_option maxRecDepth 20000 in
theorem ko_H_shift (E : xE) : xOks E (xR 2 0 0) "HomeCalls" prog_1_method_4_code 4 (some FieldType.int) false pg_H_shift :=
  .intro (ok_iload_n 0 rfl) (.intro (ok_aload_n 1 rfl) (.intro (ok_gf 2 (T := TX5) (N := 8) rfl inX5 (Nat.le_of_ble_eq_true rfl) wm_195) (.intro (ok_gf 5 (T := TX4) (N := 18) rfl inX4 (Nat.le_of_ble_eq_true rfl) wm_54) (.intro (ok_core 8 (run_S 8 snd_H_isBelow wm_224 wm_225 wm_1 wm_226 hd_H_isBelow.2 ⟨Nat.le_of_ble_eq_true rfl, Nat.le_of_ble_eq_true rfl⟩) ⟨Nat.le_of_ble_eq_true rfl, Nat.le_of_ble_eq_true rfl⟩) (.intro (ok_if_eq 11 rfl) (.intro (ok_iload_n 14 rfl) (.intro (ok_iconst 15 rfl) (.intro (ok_core 16 (run_S 16 snd_H_isBelow wm_224 wm_225 wm_1 wm_226 hd_H_isBelow.2 ⟨Nat.le_of_ble_eq_true rfl, Nat.le_of_ble_eq_true rfl⟩) ⟨Nat.le_of_ble_eq_true rfl, Nat.le_of_ble_eq_true rfl⟩) (.intro (ok_if_ne 19 rfl) (.intro (ok_aload_n 22 rfl) (.intro (ok_iconst 23 rfl) (.intro (ok_core 24 (run_V 24 (T := TX5) (N := 8) snd_H_error rfl wm_227 wm_229 wp_0 wm_1 wm_230 hd_H_error ⟨Nat.le_of_ble_eq_true rfl, Nat.le_of_ble_eq_true rfl⟩) ⟨Nat.le_of_ble_eq_true rfl, Nat.le_of_ble_eq_true rfl⟩) (.intro (ok_iret 27 rfl) (.intro (ok_iload_n 28 rfl) (.intro (ok_iload_n 29 rfl) (.intro (ok_if_ne 30 rfl) (.intro (ok_bipush 33 rfl) (.intro (ok_goto 35 rfl) (.intro (ok_bipush 38 rfl) (.intro (ok_core 40 (run_S 40 snd_H_isBelow wm_224 wm_225 wm_1 wm_226 hd_H_isBelow.2 ⟨Nat.le_of_ble_eq_true rfl, Nat.le_of_ble_eq_true rfl⟩) ⟨Nat.le_of_ble_eq_true rfl, Nat.le_of_ble_eq_true rfl⟩) (.intro (ok_if_ne 43 rfl) (.intro (ok_aload_n 46 rfl) (.intro (ok_iconst 47 rfl) (.intro (ok_core 48 (run_V 48 (T := TX5) (N := 8) snd_H_error rfl wm_227 wm_229 wp_0 wm_1 wm_230 hd_H_error ⟨Nat.le_of_ble_eq_true rfl, Nat.le_of_ble_eq_true rfl⟩) ⟨Nat.le_of_ble_eq_true rfl, Nat.le_of_ble_eq_true rfl⟩) (.intro (ok_iret 51 rfl) (.intro (ok_aload_n 52 rfl) (.intro (ok_gf 53 (T := TX5) (N := 8) rfl inX5 (Nat.le_of_ble_eq_true rfl) wm_195) (.intro (ok_iload_n 56 rfl) (.intro (ok_core 57 (run_V 57 (T := TX4) (N := 18) snd_T_rowOfThings rfl wm_240 wm_241 wm_242 wm_2 wm_243 hd_T_rowOfThings ⟨Nat.le_of_ble_eq_true rfl, Nat.le_of_ble_eq_true rfl⟩) ⟨Nat.le_of_ble_eq_true rfl, Nat.le_of_ble_eq_true rfl⟩) (.intro (ok_iload_n 60 rfl) (.intro (ok_iload_n 61 rfl) (.intro (ok_core 62 (run_S 62 snd_H_replace wm_248 wm_249 wm_1 wm_250 hd_H_replace.2 ⟨Nat.le_of_ble_eq_true rfl, Nat.le_of_ble_eq_true rfl⟩) ⟨Nat.le_of_ble_eq_true rfl, Nat.le_of_ble_eq_true rfl⟩) (.intro (ok_iret 65 rfl) trivial)))))))))))))))))))))))))))))))))
theorem snd_H_shift : xSnd y_H_shift prog_1_method_4_code 4 (some FieldType.int) 2 0 0 C_H_shift := xSnd_of (init := false) (by decide +kernel) (by decide +kernel) (by decide +kernel) (fun h => by cases h) (fun E => xOks_all (ko_H_shift E))
def pg_T_addChild : List xEl := [(0, .aload_n 0, 1, xs_al 0), (1, .getfield 18, 3, xs_gf 4 3), (4, .aload_n 0, 1, xs_al 0), (5, .getfield 63, 3, xs_gf 4 8), (8, .iload_n 1, 1, xs_il 1), (9, .bipush 10, 2, xs_push (.int 10)), (11, .idiv, 1, xs_div), (12, .iastore, 1, xs_iast), (13, .aload_n 0, 1, xs_al 0), (14, .getfield 21, 3, xs_gf 4 4), (17, .aload_n 0, 1, xs_al 0), (18, .getfield 63, 3, xs_gf 4 8), (21, .iload_n 1, 1, xs_il 1), (22, .bipush 10, 2, xs_push (.int 10)), (24, .irem, 1, xs_rem), (25, .iastore, 1, xs_iast), (26, .aload_n 0, 1, xs_al 0), (27, .getfield 24, 3, xs_gf 4 5), (30, .aload_n 0, 1, xs_al 0), (31, .getfield 63, 3, xs_gf 4 8), (34, .iload_n 2, 1, xs_il 2), (35, .iastore, 1, xs_iast), (36, .aload_n 0, 1, xs_al 0), (37, .dup, 1, xs_dup), (38, .getfield 63, 3, xs_gf 4 8), (41, .iconst 1, 1, xs_push (.int 1)), (42, .iadd, 1, xs_b2 (fun x y => x + y)), (43, .putfield 63, 3, xs_pf false 4 8), (46, .aload_n 0, 1, xs_al 0), (47, .getfield 63, 3, xs_gf 4 8), (50, .iconst 1, 1, xs_push (.int 1)), (51, .isub, 1, xs_b2 (fun x y => x - y)), (52, .ireturn, 1, xs_iret false)]
def C_T_addChild : xPT := xM 3 pg_T_addChild
set_option maxRecDepth 20000 in
theorem ko_T_addChild (E : xE) : xOks E (xR 1 0 0) "HomeCalls$Street" prog_6_method_6_code 3 (some FieldType.int) false pg_T_addChild :=
  .intro (ok_aload_n 0 rfl) (.intro (ok_gf 1 (T := TX4) (N := 18) rfl inX4 (Nat.le_of_ble_eq_true rfl) wm_55) (.intro (ok_aload_n 4 rfl) (.intro (ok_gf 5 (T := TX4) (N := 18) rfl inX4 (Nat.le_of_ble_eq_true rfl) wm_65) (.intro (ok_iload_n 8 rfl) (.intro (ok_bipush 9 rfl) (.intro (ok_idiv 11) (.intro (ok_iast 12) (.intro (ok_aload_n 13 rfl) (.intro (ok_gf 14 (T := TX4) (N := 18) rfl inX4 (Nat.le_of_ble_eq_true rfl) wm_57) (.intro (ok_aload_n 17 rfl) (.intro (ok_gf 18 (T := TX4) (N := 18) rfl inX4 (Nat.le_of_ble_eq_true rfl) wm_65) (.intro (ok_iload_n 21 rfl) (.intro (ok_bipush 22 rfl) (.intro (ok_irem 24) (.intro (ok_iast 25) (.intro (ok_aload_n 26 rfl) (.intro (ok_gf 27 (T := TX4) (N := 18) rfl inX4 (Nat.le_of_ble_eq_true rfl) wm_59) (.intro (ok_aload_n 30 rfl) (.intro (ok_gf 31 (T := TX4) (N := 18) rfl inX4 (Nat.le_of_ble_eq_true rfl) wm_65) (.intro (ok_iload_n 34 rfl) (.intro (ok_iast 35) (.intro (ok_aload_n 36 rfl) (.intro (ok_dup 37) (.intro (ok_gf 38 (T := TX4) (N := 18) rfl inX4 (Nat.le_of_ble_eq_true rfl) wm_65) (.intro (ok_iconst 41 rfl) (.intro (ok_iadd 42) (.intro (ok_pf 43 (T := TX4) (N := 18) rfl inX4 tyX4_ok nmX4 (Nat.le_of_ble_eq_true rfl) wm_65 rfl rfl) (.intro (ok_aload_n 46 rfl) (.intro (ok_gf 47 (T := TX4) (N := 18) rfl inX4 (Nat.le_of_ble_eq_true rfl) wm_65) (.intro (ok_iconst 50 rfl) (.intro (ok_isub 51) (.intro (ok_iret 52 rfl) trivial))))))))))))))))))))))))))))))))
theorem snd_T_addChild : xSnd y_T_addChild prog_6_method_6_code 3 (some FieldType.int) 1 0 0 C_T_addChild := xSnd_of (init := false) (by decide +kernel) (by decide +kernel) (by decide +kernel) (fun h => by cases h) (fun E => xOks_all (ko_T_addChild E))
def pg_H_child : List xEl := [(0, .iload_n 1, 1, xs_il 1), (1, .bipush 70, 2, xs_push (.int 70)), (3, .invokestatic 47, 3, xs_call false 0 0 0 0 none 2 C_H_isBelow), (6, .ifCond .eq 12, 3, xs_if (fun x => x = 0) 18), (9, .iload_n 2, 1, xs_il 2), (10, .bipush 12, 2, xs_push (.int 12)), (12, .invokestatic 47, 3, xs_call false 0 0 0 0 none 2 C_H_isBelow), (15, .ifCond .ne 9, 3, xs_ifn (fun x => x = 0) 24), (18, .aload_n 0, 1, xs_al 0), (19, .iconst 1, 1, xs_push (.int 1)), (20, .invokevirtual 51, 3, xs_call false 0 0 0 0 (some 5) 2 C_H_error), (23, .ireturn, 1, xs_iret false), (24, .aload_n 0, 1, xs_al 0), (25, .getfield 10, 3, xs_gf 5 0), (28, .getfield 71, 3, xs_gf 4 8), (31, .bipush 7, 2, xs_push (.int 7)), (33, .if_icmp .lt 9, 3, xs_ic (fun x y => x < y) 42), (36, .aload_n 0, 1, xs_al 0), (37, .iconst 4, 1, xs_push (.int 4)), (38, .invokevirtual 51, 3, xs_call false 0 0 0 0 (some 5) 2 C_H_error), (41, .ireturn, 1, xs_iret false), (42, .aload_n 0, 1, xs_al 0), (43, .getfield 10, 3, xs_gf 5 0), (46, .iload_n 1, 1, xs_il 1), (47, .iload_n 2, 1, xs_il 2), (48, .invokevirtual 74, 3, xs_call false 0 0 0 0 (some 4) 3 C_T_addChild), (51, .ireturn, 1, xs_iret false)]
def C_H_child : xPT := xM 3 pg_H_child
set_option maxRecDepth 20000 in
theorem ko_H_child (E : xE) : xOks E (xR 2 0 0) "HomeCalls" prog_1_method_5_code 3 (some FieldType.int) false pg_H_child :=
  .intro (ok_iload_n 0 rfl) (.intro (ok_bipush 1 rfl) (.intro (ok_core 3 (run_S 3 snd_H_isBelow wm_224 wm_225 wm_1 wm_226 hd_H_isBelow.2 ⟨Nat.le_of_ble_eq_true rfl, Nat.le_of_ble_eq_true rfl⟩) ⟨Nat.le_of_ble_eq_true rfl, Nat.le_of_ble_eq_true rfl⟩) (.intro (ok_if_eq 6 rfl) (.intro (ok_iload_n 9 rfl) (.intro (ok_bipush 10 rfl) (.intro (ok_core 12 (run_S 12 snd_H_isBelow wm_224 wm_225 wm_1 wm_226 hd_H_isBelow.2 ⟨Nat.le_of_ble_eq_true rfl, Nat.le_of_ble_eq_true rfl⟩) ⟨Nat.le_of_ble_eq_true rfl, Nat.le_of_ble_eq_true rfl⟩) (.intro (ok_if_ne 15 rfl) (.intro (ok_aload_n 18 rfl) (.intro (ok_iconst 19 rfl) (.intro (ok_core 20 (run_V 20 (T := TX5) (N := 8) snd_H_error rfl wm_227 wm_229 wp_0 wm_1 wm_230 hd_H_error ⟨Nat.le_of_ble_eq_true rfl, Nat.le_of_ble_eq_true rfl⟩) ⟨Nat.le_of_ble_eq_true rfl, Nat.le_of_ble_eq_true rfl⟩) (.intro (ok_iret 23 rfl) (.intro (ok_aload_n 24 rfl) (.intro (ok_gf 25 (T := TX5) (N := 8) rfl inX5 (Nat.le_of_ble_eq_true rfl) wm_195) (.intro (ok_gf 28 (T := TX4) (N := 18) rfl inX4 (Nat.le_of_ble_eq_true rfl) wm_66) (.intro (ok_bipush 31 rfl) (.intro (ok_ic_lt 33 rfl) (.intro (ok_aload_n 36 rfl) (.intro (ok_iconst 37 rfl) (.intro (ok_core 38 (run_V 38 (T := TX5) (N := 8) snd_H_error rfl wm_227 wm_229 wp_0 wm_1 wm_230 hd_H_error ⟨Nat.le_of_ble_eq_true rfl, Nat.le_of_ble_eq_true rfl⟩) ⟨Nat.le_of_ble_eq_true rfl, Nat.le_of_ble_eq_true rfl⟩) (.intro (ok_iret 41 rfl) (.intro (ok_aload_n 42 rfl) (.intro (ok_gf 43 (T := TX5) (N := 8) rfl inX5 (Nat.le_of_ble_eq_true rfl) wm_195) (.intro (ok_iload_n 46 rfl) (.intro (ok_iload_n 47 rfl) (.intro (ok_core 48 (run_V 48 (T := TX4) (N := 18) snd_T_addChild rfl wm_255 wm_256 wm_257 wm_2 wm_258 hd_T_addChild ⟨Nat.le_of_ble_eq_true rfl, Nat.le_of_ble_eq_true rfl⟩) ⟨Nat.le_of_ble_eq_true rfl, Nat.le_of_ble_eq_true rfl⟩) (.intro (ok_iret 51 rfl) trivial))))))))))))))))))))))))))
theorem snd_H_child : xSnd y_H_child prog_1_method_5_code 3 (some FieldType.int) 2 0 0 C_H_child := xSnd_of (init := false) (by decide +kernel) (by decide +kernel) (by decide +kernel) (fun h => by cases h) (fun E => xOks_all (ko_H_child E))
def pg_H_isChild : List xEl := [(0, .iload_n 1, 1, xs_il 1), (1, .aload_n 0, 1, xs_al 0), (2, .getfield 10, 3, xs_gf 5 0), (5, .getfield 71, 3, xs_gf 4 8), (8, .invokestatic 47, 3, xs_call false 0 0 0 0 none 2 C_H_isBelow), (11, .ireturn, 1, xs_iret true)]
def C_H_isChild : xPT := xM 2 pg_H_isChild
set_option maxRecDepth 20000 in
theorem ko_H_isChild (E : xE) : xOks E (xR 2 0 0) "HomeCalls" prog_1_method_47_code 2 (some FieldType.boolean) false pg_H_isChild :=
  .intro (ok_iload_n 0 rfl) (.intro (ok_aload_n 1 rfl) (.intro (ok_gf 2 (T := TX5) (N := 8) rfl inX5 (Nat.le_of_ble_eq_true rfl) wm_195) (.intro (ok_gf 5 (T := TX4) (N := 18) rfl inX4 (Nat.le_of_ble_eq_true rfl) wm_66) (.intro (ok_core 8 (run_S 8 snd_H_isBelow wm_224 wm_225 wm_1 wm_226 hd_H_isBelow.2 ⟨Nat.le_of_ble_eq_true rfl, Nat.le_of_ble_eq_true rfl⟩) ⟨Nat.le_of_ble_eq_true rfl, Nat.le_of_ble_eq_true rfl⟩) (.intro (ok_iret 11 rfl) trivial)))))
theorem snd_H_isChild : xSnd y_H_isChild prog_1_method_47_code 2 (some FieldType.boolean) 2 0 0 C_H_isChild := xSnd_of (init := false) (by decide +kernel) (by decide +kernel) (by decide +kernel) (fun h => by cases h) (fun E => xOks_all (ko_H_isChild E))
def pg_T_pace : List xEl := [(0, .aload_n 0, 1, xs_al 0), (1, .getfield 21, 3, xs_gf 4 4), (4, .iload_n 1, 1, xs_il 1), (5, .iaload, 1, xs_iald), (6, .istore_n 2, 1, xs_is 2), (7, .aload_n 0, 1, xs_al 0), (8, .getfield 66, 3, xs_gf 4 10), (11, .iconst 2, 1, xs_push (.int 2)), (12, .irem, 1, xs_rem), (13, .ifCond .ne 7, 3, xs_ifn (fun x => x = 0) 20), (16, .iconst 1, 1, xs_push (.int 1)), (17, .goto 4, 3, xs_goto 21), (20, .iconst 0, 1, xs_push (.int 0)), (21, .istore_n 3, 1, xs_is 3), (22, .aload_n 0, 1, xs_al 0), (23, .getfield 18, 3, xs_gf 4 3), (26, .iload_n 1, 1, xs_il 1), (27, .iaload, 1, xs_iald), (28, .tableswitch 72 1 6 #[40, 46, 48, 50, 52, 66], 40, xs_sw [(1, 68), (2, 74), (3, 76), (4, 78), (5, 80), (6, 94)] 100), (68, .iconst 1, 1, xs_push (.int 1)), (69, .iload_n 2, 1, xs_il 2), (70, .iconst 2, 1, xs_push (.int 2)), (71, .irem, 1, xs_rem), (72, .iadd, 1, xs_b2 (fun x y => x + y)), (73, .ireturn, 1, xs_iret false), (74, .iconst 2, 1, xs_push (.int 2)), (75, .ireturn, 1, xs_iret false), (76, .iload_n 3, 1, xs_il 3), (77, .ireturn, 1, xs_iret false), (78, .iconst 0, 1, xs_push (.int 0)), (79, .ireturn, 1, xs_iret false), (80, .aload_n 0, 1, xs_al 0), (81, .getfield 33, 3, xs_gf 4 9), (84, .iconst (-1), 1, xs_push (.int (-1))), (85, .if_icmp .ne 7, 3, xs_icn (fun x y => x = y) 92), (88, .iconst 3, 1, xs_push (.int 3)), (89, .goto 4, 3, xs_goto 93), (92, .iconst 2, 1, xs_push (.int 2)), (93, .ireturn, 1, xs_iret false), (94, .iload_n 3, 1, xs_il 3), (95, .iload_n 2, 1, xs_il 2), (96, .iconst 3, 1, xs_push (.int 3)), (97, .irem, 1, xs_rem), (98, .iadd, 1, xs_b2 (fun x y => x + y)), (99, .ireturn, 1, xs_iret false), (100, .iconst 1, 1, xs_push (.int 1)), (101, .ireturn, 1, xs_iret false)]
def C_T_pace : xPT := xM 4 pg_T_pace
set_option maxRecDepth 20000 in
theorem ko_T_pace_1 (E : xE) : xOks E (xR 1 0 0) "HomeCalls$Street" prog_6_method_9_code 4 (some FieldType.int) false (List.drop 40 pg_T_pace) :=
  .intro (ok_iload_n 95 rfl) (.intro (ok_iconst 96 rfl) (.intro (ok_irem 97) (.intro (ok_iadd 98) (.intro (ok_iret 99 rfl) (.intro (ok_iconst 100 rfl) (.intro (ok_iret 101 rfl) trivial))))))
set_option maxRecDepth 20000 in
theorem ko_T_pace (E : xE) : xOks E (xR 1 0 0) "HomeCalls$Street" prog_6_method_9_code 4 (some FieldType.int) false pg_T_pace :=
  .intro (ok_aload_n 0 rfl) (.intro (ok_gf 1 (T := TX4) (N := 18) rfl inX4 (Nat.le_of_ble_eq_true rfl) wm_57) (.intro (ok_iload_n 4 rfl) (.intro (ok_iald 5) (.intro (ok_istore_n 6 rfl (Nat.le_of_ble_eq_true rfl)) (.intro (ok_aload_n 7 rfl) (.intro (ok_gf 8 (T := TX4) (N := 18) rfl inX4 (Nat.le_of_ble_eq_true rfl) wm_69) (.intro (ok_iconst 11 rfl) (.intro (ok_irem 12) (.intro (ok_if_ne 13 rfl) (.intro (ok_iconst 16 rfl) (.intro (ok_goto 17 rfl) (.intro (ok_iconst 20 rfl) (.intro (ok_istore_n 21 rfl (Nat.le_of_ble_eq_true rfl)) (.intro (ok_aload_n 22 rfl) (.intro (ok_gf 23 (T := TX4) (N := 18) rfl inX4 (Nat.le_of_ble_eq_true rfl) wm_55) (.intro (ok_iload_n 26 rfl) (.intro (ok_iald 27) (.intro (ok_table 28 rfl rfl rfl) (.intro (ok_iconst 68 rfl) (.intro (ok_iload_n 69 rfl) (.intro (ok_iconst 70 rfl) (.intro (ok_irem 71) (.intro (ok_iadd 72) (.intro (ok_iret 73 rfl) (.intro (ok_iconst 74 rfl) (.intro (ok_iret 75 rfl) (.intro (ok_iload_n 76 rfl) (.intro (ok_iret 77 rfl) (.intro (ok_iconst 78 rfl) (.intro (ok_iret 79 rfl) (.intro (ok_aload_n 80 rfl) (.intro (ok_gf 81 (T := TX4) (N := 18) rfl inX4 (Nat.le_of_ble_eq_true rfl) wm_67) (.intro (ok_iconst 84 rfl) (.intro (ok_ic_ne 85 rfl) (.intro (ok_iconst 88 rfl) (.intro (ok_goto 89 rfl) (.intro (ok_iconst 92 rfl) (.intro (ok_iret 93 rfl) (.intro (ok_iload_n 94 rfl) ((ko_T_pace_1 E)))))))))))))))))))))))))))))))))))))))))
theorem snd_T_pace : xSnd y_T_pace prog_6_method_9_code 4 (some FieldType.int) 1 0 0 C_T_pace := xSnd_of (init := false) (by decide +kernel) (by decide +kernel) (by decide +kernel) (fun h => by cases h) (fun E => xOks_all (ko_T_pace E))
def pg_T_far : List xEl := [(0, .aload_n 0, 1, xs_al 0), (1, .getfield 21, 3, xs_gf 4 4), (4, .iload_n 1, 1, xs_il 1), (5, .iaload, 1, xs_iald), (6, .istore_n 2, 1, xs_is 2), (7, .aload_n 0, 1, xs_al 0), (8, .getfield 18, 3, xs_gf 4 3), (11, .iload_n 1, 1, xs_il 1), (12, .iaload, 1, xs_iald), (13, .tableswitch 57 1 6 #[39, 41, 55, 39, 48, 55], 39, xs_sw [(1, 52), (2, 54), (3, 68), (4, 52), (5, 61), (6, 68)] 70), (52, .iconst 5, 1, xs_push (.int 5)), (53, .ireturn, 1, xs_iret false), (54, .bipush 6, 2, xs_push (.int 6)), (56, .iload_n 2, 1, xs_il 2), (57, .iconst 3, 1, xs_push (.int 3)), (58, .irem, 1, xs_rem), (59, .isub, 1, xs_b2 (fun x y => x - y)), (60, .ireturn, 1, xs_iret false), (61, .bipush 7, 2, xs_push (.int 7)), (63, .iload_n 2, 1, xs_il 2), (64, .iconst 3, 1, xs_push (.int 3)), (65, .irem, 1, xs_rem), (66, .isub, 1, xs_b2 (fun x y => x - y)), (67, .ireturn, 1, xs_iret false), (68, .iconst 2, 1, xs_push (.int 2)), (69, .ireturn, 1, xs_iret false), (70, .bipush 6, 2, xs_push (.int 6)), (72, .ireturn, 1, xs_iret false)]
def C_T_far : xPT := xM 3 pg_T_far
set_option maxRecDepth 20000 in
theorem ko_T_far (E : xE) : xOks E (xR 1 0 0) "HomeCalls$Street" prog_6_method_10_code 3 (some FieldType.int) false pg_T_far :=
  .intro (ok_aload_n 0 rfl) (.intro (ok_gf 1 (T := TX4) (N := 18) rfl inX4 (Nat.le_of_ble_eq_true rfl) wm_57) (.intro (ok_iload_n 4 rfl) (.intro (ok_iald 5) (.intro (ok_istore_n 6 rfl (Nat.le_of_ble_eq_true rfl)) (.intro (ok_aload_n 7 rfl) (.intro (ok_gf 8 (T := TX4) (N := 18) rfl inX4 (Nat.le_of_ble_eq_true rfl) wm_55) (.intro (ok_iload_n 11 rfl) (.intro (ok_iald 12) (.intro (ok_table 13 rfl rfl rfl) (.intro (ok_iconst 52 rfl) (.intro (ok_iret 53 rfl) (.intro (ok_bipush 54 rfl) (.intro (ok_iload_n 56 rfl) (.intro (ok_iconst 57 rfl) (.intro (ok_irem 58) (.intro (ok_isub 59) (.intro (ok_iret 60 rfl) (.intro (ok_bipush 61 rfl) (.intro (ok_iload_n 63 rfl) (.intro (ok_iconst 64 rfl) (.intro (ok_irem 65) (.intro (ok_isub 66) (.intro (ok_iret 67 rfl) (.intro (ok_iconst 68 rfl) (.intro (ok_iret 69 rfl) (.intro (ok_bipush 70 rfl) (.intro (ok_iret 72 rfl) trivial)))))))))))))))))))))))))))
theorem snd_T_far : xSnd y_T_far prog_6_method_10_code 3 (some FieldType.int) 1 0 0 C_T_far := xSnd_of (init := false) (by decide +kernel) (by decide +kernel) (by decide +kernel) (fun h => by cases h) (fun E => xOks_all (ko_T_far E))
def pg_H_ofChild : List xEl := [(0, .aload_n 0, 1, xs_al 0), (1, .iload_n 1, 1, xs_il 1), (2, .invokevirtual 77, 3, xs_call false 0 0 0 0 (some 5) 2 C_H_isChild), (5, .ifCond .ne 9, 3, xs_ifn (fun x => x = 0) 14), (8, .aload_n 0, 1, xs_al 0), (9, .iconst 1, 1, xs_push (.int 1)), (10, .invokevirtual 51, 3, xs_call false 0 0 0 0 (some 5) 2 C_H_error), (13, .ireturn, 1, xs_iret false), (14, .iload_n 2, 1, xs_il 2), (15, .tableswitch 109 0 6 #[41, 51, 61, 71, 81, 91, 100], 41, xs_sw [(0, 56), (1, 66), (2, 76), (3, 86), (4, 96), (5, 106), (6, 115)] 124), (56, .aload_n 0, 1, xs_al 0), (57, .getfield 10, 3, xs_gf 5 0), (60, .getfield 81, 3, xs_gf 4 3), (63, .iload_n 1, 1, xs_il 1), (64, .iaload, 1, xs_iald), (65, .ireturn, 1, xs_iret false), (66, .aload_n 0, 1, xs_al 0), (67, .getfield 10, 3, xs_gf 5 0), (70, .getfield 84, 3, xs_gf 4 4), (73, .iload_n 1, 1, xs_il 1), (74, .iaload, 1, xs_iald), (75, .ireturn, 1, xs_iret false), (76, .aload_n 0, 1, xs_al 0), (77, .getfield 10, 3, xs_gf 5 0), (80, .getfield 87, 3, xs_gf 4 5), (83, .iload_n 1, 1, xs_il 1), (84, .iaload, 1, xs_iald), (85, .ireturn, 1, xs_iret false), (86, .aload_n 0, 1, xs_al 0), (87, .getfield 10, 3, xs_gf 5 0), (90, .getfield 90, 3, xs_gf 4 6), (93, .iload_n 1, 1, xs_il 1), (94, .iaload, 1, xs_iald), (95, .ireturn, 1, xs_iret false), (96, .aload_n 0, 1, xs_al 0), (97, .getfield 10, 3, xs_gf 5 0), (100, .getfield 93, 3, xs_gf 4 7), (103, .iload_n 1, 1, xs_il 1), (104, .iaload, 1, xs_iald), (105, .ireturn, 1, xs_iret false), (106, .aload_n 0, 1, xs_al 0), (107, .getfield 10, 3, xs_gf 5 0), (110, .iload_n 1, 1, xs_il 1), (111, .invokevirtual 96, 3, xs_call false 0 0 0 0 (some 4) 2 C_T_pace), (114, .ireturn, 1, xs_iret false), (115, .aload_n 0, 1, xs_al 0), (116, .getfield 10, 3, xs_gf 5 0), (119, .iload_n 1, 1, xs_il 1), (120, .invokevirtual 99, 3, xs_call false 0 0 0 0 (some 4) 2 C_T_far), (123, .ireturn, 1, xs_iret false), (124, .aload_n 0, 1, xs_al 0), (125, .iconst 1, 1, xs_push (.int 1)), (126, .invokevirtual 51, 3, xs_call false 0 0 0 0 (some 5) 2 C_H_error), (129, .ireturn, 1, xs_iret false)]
def C_H_ofChild : xPT := xM 3 pg_H_ofChild
set_option maxRecDepth 20000 in
theorem ko_H_ofChild_1 (E : xE) : xOks E (xR 3 0 0) "HomeCalls" prog_1_method_6_code 3 (some FieldType.int) false (List.drop 40 pg_H_ofChild) :=
  .intro (ok_aload_n 106 rfl) (.intro (ok_gf 107 (T := TX5) (N := 8) rfl inX5 (Nat.le_of_ble_eq_true rfl) wm_195) (.intro (ok_iload_n 110 rfl) (.intro (ok_core 111 (run_V 111 (T := TX4) (N := 18) snd_T_pace rfl wm_267 wm_268 wm_269 wm_2 wm_270 hd_T_pace ⟨Nat.le_of_ble_eq_true rfl, Nat.le_of_ble_eq_true rfl⟩) ⟨Nat.le_of_ble_eq_true rfl, Nat.le_of_ble_eq_true rfl⟩) (.intro (ok_iret 114 rfl) (.intro (ok_aload_n 115 rfl) (.intro (ok_gf 116 (T := TX5) (N := 8) rfl inX5 (Nat.le_of_ble_eq_true rfl) wm_195) (.intro (ok_iload_n 119 rfl) (.intro (ok_core 120 (run_V 120 (T := TX4) (N := 18) snd_T_far rfl wm_271 wm_272 wm_273 wm_2 wm_274 hd_T_far ⟨Nat.le_of_ble_eq_true rfl, Nat.le_of_ble_eq_true rfl⟩) ⟨Nat.le_of_ble_eq_true rfl, Nat.le_of_ble_eq_true rfl⟩) (.intro (ok_iret 123 rfl) (.intro (ok_aload_n 124 rfl) (.intro (ok_iconst 125 rfl) (.intro (ok_core 126 (run_V 126 (T := TX5) (N := 8) snd_H_error rfl wm_227 wm_229 wp_0 wm_1 wm_230 hd_H_error ⟨Nat.le_of_ble_eq_true rfl, Nat.le_of_ble_eq_true rfl⟩) ⟨Nat.le_of_ble_eq_true rfl, Nat.le_of_ble_eq_true rfl⟩) (.intro (ok_iret 129 rfl) trivial)))))))))))))
set_option maxRecDepth 20000 in
theorem ko_H_ofChild (E : xE) : xOks E (xR 3 0 0) "HomeCalls" prog_1_method_6_code 3 (some FieldType.int) false pg_H_ofChild :=
  .intro (ok_aload_n 0 rfl) (.intro (ok_iload_n 1 rfl) (.intro (ok_core 2 (run_V 2 (T := TX5) (N := 8) snd_H_isChild rfl wm_263 wm_265 wp_1 wm_1 wm_266 hd_H_isChild ⟨Nat.le_of_ble_eq_true rfl, Nat.le_of_ble_eq_true rfl⟩) ⟨Nat.le_of_ble_eq_true rfl, Nat.le_of_ble_eq_true rfl⟩) (.intro (ok_if_ne 5 rfl) (.intro (ok_aload_n 8 rfl) (.intro (ok_iconst 9 rfl) (.intro (ok_core 10 (run_V 10 (T := TX5) (N := 8) snd_H_error rfl wm_227 wm_229 wp_0 wm_1 wm_230 hd_H_error ⟨Nat.le_of_ble_eq_true rfl, Nat.le_of_ble_eq_true rfl⟩) ⟨Nat.le_of_ble_eq_true rfl, Nat.le_of_ble_eq_true rfl⟩) (.intro (ok_iret 13 rfl) (.intro (ok_iload_n 14 rfl) (.intro (ok_table 15 rfl rfl rfl) (.intro (ok_aload_n 56 rfl) (.intro (ok_gf 57 (T := TX5) (N := 8) rfl inX5 (Nat.le_of_ble_eq_true rfl) wm_195) (.intro (ok_gf 60 (T := TX4) (N := 18) rfl inX4 (Nat.le_of_ble_eq_true rfl) wm_56) (.intro (ok_iload_n 63 rfl) (.intro (ok_iald 64) (.intro (ok_iret 65 rfl) (.intro (ok_aload_n 66 rfl) (.intro (ok_gf 67 (T := TX5) (N := 8) rfl inX5 (Nat.le_of_ble_eq_true rfl) wm_195) (.intro (ok_gf 70 (T := TX4) (N := 18) rfl inX4 (Nat.le_of_ble_eq_true rfl) wm_58) (.intro (ok_iload_n 73 rfl) (.intro (ok_iald 74) (.intro (ok_iret 75 rfl) (.intro (ok_aload_n 76 rfl) (.intro (ok_gf 77 (T := TX5) (N := 8) rfl inX5 (Nat.le_of_ble_eq_true rfl) wm_195) (.intro (ok_gf 80 (T := TX4) (N := 18) rfl inX4 (Nat.le_of_ble_eq_true rfl) wm_60) (.intro (ok_iload_n 83 rfl) (.intro (ok_iald 84) (.intro (ok_iret 85 rfl) (.intro (ok_aload_n 86 rfl) (.intro (ok_gf 87 (T := TX5) (N := 8) rfl inX5 (Nat.le_of_ble_eq_true rfl) wm_195) (.intro (ok_gf 90 (T := TX4) (N := 18) rfl inX4 (Nat.le_of_ble_eq_true rfl) wm_62) (.intro (ok_iload_n 93 rfl) (.intro (ok_iald 94) (.intro (ok_iret 95 rfl) (.intro (ok_aload_n 96 rfl) (.intro (ok_gf 97 (T := TX5) (N := 8) rfl inX5 (Nat.le_of_ble_eq_true rfl) wm_195) (.intro (ok_gf 100 (T := TX4) (N := 18) rfl inX4 (Nat.le_of_ble_eq_true rfl) wm_64) (.intro (ok_iload_n 103 rfl) (.intro (ok_iald 104) (.intro (ok_iret 105 rfl) ((ko_H_ofChild_1 E)))))))))))))))))))))))))))))))))))))))))
theorem snd_H_ofChild : xSnd y_H_ofChild prog_1_method_6_code 3 (some FieldType.int) 3 0 0 C_H_ofChild := xSnd_of (init := false) (by decide +kernel) (by decide +kernel) (by decide +kernel) (fun h => by cases h) (fun E => xOks_all (ko_H_ofChild E))
def pg_H_change : List xEl := [(0, .aload_n 0, 1, xs_al 0), (1, .iload_n 1, 1, xs_il 1), (2, .invokevirtual 77, 3, xs_call false 0 0 0 0 (some 5) 2 C_H_isChild), (5, .ifCond .eq 11, 3, xs_if (fun x => x = 0) 16), (8, .iload_n 2, 1, xs_il 2), (9, .iconst 3, 1, xs_push (.int 3)), (10, .invokestatic 47, 3, xs_call false 0 0 0 0 none 2 C_H_isBelow), (13, .ifCond .ne 9, 3, xs_ifn (fun x => x = 0) 22), (16, .aload_n 0, 1, xs_al 0), (17, .iconst 1, 1, xs_push (.int 1)), (18, .invokevirtual 51, 3, xs_call false 0 0 0 0 (some 5) 2 C_H_error), (21, .ireturn, 1, xs_iret false), (22, .iload_n 3, 1, xs_il 3), (23, .iload_n 2, 1, xs_il 2), (24, .ifCond .ne 8, 3, xs_ifn (fun x => x = 0) 32), (27, .bipush 12, 2, xs_push (.int 12)), (29, .goto 6, 3, xs_goto 35), (32, .sipush 1000, 3, xs_push (.int 1000)), (35, .invokestatic 47, 3, xs_call false 0 0 0 0 none 2 C_H_isBelow), (38, .ifCond .ne 9, 3, xs_ifn (fun x => x = 0) 47), (41, .aload_n 0, 1, xs_al 0), (42, .iconst 1, 1, xs_push (.int 1)), (43, .invokevirtual 51, 3, xs_call false 0 0 0 0 (some 5) 2 C_H_error), (46, .ireturn, 1, xs_iret false), (47, .iload_n 2, 1, xs_il 2), (48, .ifCond .ne 13, 3, xs_ifn (fun x => x = 0) 61), (51, .aload_n 0, 1, xs_al 0), (52, .getfield 10, 3, xs_gf 5 0), (55, .getfield 87, 3, xs_gf 4 5), (58, .goto 25, 3, xs_goto 83), (61, .iload_n 2, 1, xs_il 2), (62, .iconst 1, 1, xs_push (.int 1)), (63, .if_icmp .ne 13, 3, xs_icn (fun x y => x = y) 76), (66, .aload_n 0, 1, xs_al 0), (67, .getfield 10, 3, xs_gf 5 0), (70, .getfield 90, 3, xs_gf 4 6), (73, .goto 10, 3, xs_goto 83), (76, .aload_n 0, 1, xs_al 0), (77, .getfield 10, 3, xs_gf 5 0), (80, .getfield 93, 3, xs_gf 4 7), (83, .iload_n 1, 1, xs_il 1), (84, .iload_n 3, 1, xs_il 3), (85, .invokestatic 67, 3, xs_call false 0 0 0 0 none 3 C_H_replace), (88, .ireturn, 1, xs_iret false)]
def C_H_change : xPT := xM 4 pg_H_change
set_option maxRecDepth 20000 in
theorem ko_H_change_1 (E : xE) : xOks E (xR 3 0 0) "HomeCalls" prog_1_method_7_code 4 (some FieldType.int) false (List.drop 40 pg_H_change) :=
  .intro (ok_iload_n 83 rfl) (.intro (ok_iload_n 84 rfl) (.intro (ok_core 85 (run_S 85 snd_H_replace wm_248 wm_249 wm_1 wm_250 hd_H_replace.2 ⟨Nat.le_of_ble_eq_true rfl, Nat.le_of_ble_eq_true rfl⟩) ⟨Nat.le_of_ble_eq_true rfl, Nat.le_of_ble_eq_true rfl⟩) (.intro (ok_iret 88 rfl) trivial)))
set_option maxRecDepth 20000 in
theorem ko_H_change (E : xE) : xOks E (xR 3 0 0) "HomeCalls" prog_1_method_7_code 4 (some FieldType.int) false pg_H_change :=
  .intro (ok_aload_n 0 rfl) (.intro (ok_iload_n 1 rfl) (.intro (ok_core 2 (run_V 2 (T := TX5) (N := 8) snd_H_isChild rfl wm_263 wm_265 wp_1 wm_1 wm_266 hd_H_isChild ⟨Nat.le_of_ble_eq_true rfl, Nat.le_of_ble_eq_true rfl⟩) ⟨Nat.le_of_ble_eq_true rfl, Nat.le_of_ble_eq_true rfl⟩) (.intro (ok_if_eq 5 rfl) (.intro (ok_iload_n 8 rfl) (.intro (ok_iconst 9 rfl) (.intro (ok_core 10 (run_S 10 snd_H_isBelow wm_224 wm_225 wm_1 wm_226 hd_H_isBelow.2 ⟨Nat.le_of_ble_eq_true rfl, Nat.le_of_ble_eq_true rfl⟩) ⟨Nat.le_of_ble_eq_true rfl, Nat.le_of_ble_eq_true rfl⟩) (.intro (ok_if_ne 13 rfl) (.intro (ok_aload_n 16 rfl) (.intro (ok_iconst 17 rfl) (.intro (ok_core 18 (run_V 18 (T := TX5) (N := 8) snd_H_error rfl wm_227 wm_229 wp_0 wm_1 wm_230 hd_H_error ⟨Nat.le_of_ble_eq_true rfl, Nat.le_of_ble_eq_true rfl⟩) ⟨Nat.le_of_ble_eq_true rfl, Nat.le_of_ble_eq_true rfl⟩) (.intro (ok_iret 21 rfl) (.intro (ok_iload_n 22 rfl) (.intro (ok_iload_n 23 rfl) (.intro (ok_if_ne 24 rfl) (.intro (ok_bipush 27 rfl) (.intro (ok_goto 29 rfl) (.intro (ok_sipush 32 rfl) (.intro (ok_core 35 (run_S 35 snd_H_isBelow wm_224 wm_225 wm_1 wm_226 hd_H_isBelow.2 ⟨Nat.le_of_ble_eq_true rfl, Nat.le_of_ble_eq_true rfl⟩) ⟨Nat.le_of_ble_eq_true rfl, Nat.le_of_ble_eq_true rfl⟩) (.intro (ok_if_ne 38 rfl) (.intro (ok_aload_n 41 rfl) (.intro (ok_iconst 42 rfl) (.intro (ok_core 43 (run_V 43 (T := TX5) (N := 8) snd_H_error rfl wm_227 wm_229 wp_0 wm_1 wm_230 hd_H_error ⟨Nat.le_of_ble_eq_true rfl, Nat.le_of_ble_eq_true rfl⟩) ⟨Nat.le_of_ble_eq_true rfl, Nat.le_of_ble_eq_true rfl⟩) (.intro (ok_iret 46 rfl) (.intro (ok_iload_n 47 rfl) (.intro (ok_if_ne 48 rfl) (.intro (ok_aload_n 51 rfl) (.intro (ok_gf 52 (T := TX5) (N := 8) rfl inX5 (Nat.le_of_ble_eq_true rfl) wm_195) (.intro (ok_gf 55 (T := TX4) (N := 18) rfl inX4 (Nat.le_of_ble_eq_true rfl) wm_60) (.intro (ok_goto 58 rfl) (.intro (ok_iload_n 61 rfl) (.intro (ok_iconst 62 rfl) (.intro (ok_ic_ne 63 rfl) (.intro (ok_aload_n 66 rfl) (.intro (ok_gf 67 (T := TX5) (N := 8) rfl inX5 (Nat.le_of_ble_eq_true rfl) wm_195) (.intro (ok_gf 70 (T := TX4) (N := 18) rfl inX4 (Nat.le_of_ble_eq_true rfl) wm_62) (.intro (ok_goto 73 rfl) (.intro (ok_aload_n 76 rfl) (.intro (ok_gf 77 (T := TX5) (N := 8) rfl inX5 (Nat.le_of_ble_eq_true rfl) wm_195) (.intro (ok_gf 80 (T := TX4) (N := 18) rfl inX4 (Nat.le_of_ble_eq_true rfl) wm_64) ((ko_H_change_1 E)))))))))))))))))))))))))))))))))))))))))
theorem snd_H_change : xSnd y_H_change prog_1_method_7_code 4 (some FieldType.int) 3 0 0 C_H_change := xSnd_of (init := false) (by decide +kernel) (by decide +kernel) (by decide +kernel) (fun h => by cases h) (fun E => xOks_all (ko_H_change E))
def pg_H_it : List xEl := [(0, .iload_n 1, 1, xs_il 1), (1, .iconst (-1), 1, xs_push (.int (-1))), (2, .if_icmp .eq 17, 3, xs_ic (fun x y => x = y) 19), (5, .aload_n 0, 1, xs_al 0), (6, .iload_n 1, 1, xs_il 1), (7, .invokevirtual 77, 3, xs_call false 0 0 0 0 (some 5) 2 C_H_isChild), (10, .ifCond .ne 9, 3, xs_ifn (fun x => x = 0) 19), (13, .aload_n 0, 1, xs_al 0), (14, .iconst 1, 1, xs_push (.int 1)), (15, .invokevirtual 51, 3, xs_call false 0 0 0 0 (some 5) 2 C_H_error), (18, .ireturn, 1, xs_iret false), (19, .aload_n 0, 1, xs_al 0), (20, .getfield 10, 3, xs_gf 5 0), (23, .getfield 102, 3, xs_gf 4 9), (26, .istore_n 2, 1, xs_is 2), (27, .aload_n 0, 1, xs_al 0), (28, .getfield 10, 3, xs_gf 5 0), (31, .iload_n 1, 1, xs_il 1), (32, .putfield 102, 3, xs_pf false 4 9), (35, .iload_n 2, 1, xs_il 2), (36, .ireturn, 1, xs_iret false)]
def C_H_it : xPT := xM 3 pg_H_it
set_option maxRecDepth 20000 in
theorem ko_H_it (E : xE) : xOks E (xR 3 0 0) "HomeCalls" prog_1_method_8_code 3 (some FieldType.int) false pg_H_it :=
  .intro (ok_iload_n 0 rfl) (.intro (ok_iconst 1 rfl) (.intro (ok_ic_eq 2 rfl) (.intro (ok_aload_n 5 rfl) (.intro (ok_iload_n 6 rfl) (.intro (ok_core 7 (run_V 7 (T := TX5) (N := 8) snd_H_isChild rfl wm_263 wm_265 wp_1 wm_1 wm_266 hd_H_isChild ⟨Nat.le_of_ble_eq_true rfl, Nat.le_of_ble_eq_true rfl⟩) ⟨Nat.le_of_ble_eq_true rfl, Nat.le_of_ble_eq_true rfl⟩) (.intro (ok_if_ne 10 rfl) (.intro (ok_aload_n 13 rfl) (.intro (ok_iconst 14 rfl) (.intro (ok_core 15 (run_V 15 (T := TX5) (N := 8) snd_H_error rfl wm_227 wm_229 wp_0 wm_1 wm_230 hd_H_error ⟨Nat.le_of_ble_eq_true rfl, Nat.le_of_ble_eq_true rfl⟩) ⟨Nat.le_of_ble_eq_true rfl, Nat.le_of_ble_eq_true rfl⟩) (.intro (ok_iret 18 rfl) (.intro (ok_aload_n 19 rfl) (.intro (ok_gf 20 (T := TX5) (N := 8) rfl inX5 (Nat.le_of_ble_eq_true rfl) wm_195) (.intro (ok_gf 23 (T := TX4) (N := 18) rfl inX4 (Nat.le_of_ble_eq_true rfl) wm_68) (.intro (ok_istore_n 26 rfl (Nat.le_of_ble_eq_true rfl)) (.intro (ok_aload_n 27 rfl) (.intro (ok_gf 28 (T := TX5) (N := 8) rfl inX5 (Nat.le_of_ble_eq_true rfl) wm_195) (.intro (ok_iload_n 31 rfl) (.intro (ok_pf 32 (T := TX4) (N := 18) rfl inX4 tyX4_ok nmX4 (Nat.le_of_ble_eq_true rfl) wm_68 rfl rfl) (.intro (ok_iload_n 35 rfl) (.intro (ok_iret 36 rfl) trivial))))))))))))))))))))
theorem snd_H_it : xSnd y_H_it prog_1_method_8_code 3 (some FieldType.int) 3 0 0 C_H_it := xSnd_of (init := false) (by decide +kernel) (by decide +kernel) (by decide +kernel) (fun h => by cases h) (fun E => xOks_all (ko_H_it E))
def pg_H_become : List xEl := [(0, .aload_n 0, 1, xs_al 0), (1, .iload_n 1, 1, xs_il 1), (2, .invokevirtual 77, 3, xs_call false 0 0 0 0 (some 5) 2 C_H_isChild), (5, .ifCond .eq 12, 3, xs_if (fun x => x = 0) 17), (8, .iload_n 2, 1, xs_il 2), (9, .bipush 70, 2, xs_push (.int 70)), (11, .invokestatic 47, 3, xs_call false 0 0 0 0 none 2 C_H_isBelow), (14, .ifCond .ne 9, 3, xs_ifn (fun x => x = 0) 23), (17, .aload_n 0, 1, xs_al 0), (18, .iconst 1, 1, xs_push (.int 1)), (19, .invokevirtual 51, 3, xs_call false 0 0 0 0 (some 5) 2 C_H_error), (22, .ireturn, 1, xs_iret false), (23, .aload_n 0, 1, xs_al 0), (24, .getfield 10, 3, xs_gf 5 0), (27, .getfield 84, 3, xs_gf 4 4), (30, .iload_n 1, 1, xs_il 1), (31, .iload_n 2, 1, xs_il 2), (32, .bipush 10, 2, xs_push (.int 10)), (34, .irem, 1, xs_rem), (35, .iastore, 1, xs_iast), (36, .aload_n 0, 1, xs_al 0), (37, .getfield 10, 3, xs_gf 5 0), (40, .getfield 81, 3, xs_gf 4 3), (43, .iload_n 1, 1, xs_il 1), (44, .iload_n 2, 1, xs_il 2), (45, .bipush 10, 2, xs_push (.int 10)), (47, .idiv, 1, xs_div), (48, .invokestatic 67, 3, xs_call false 0 0 0 0 none 3 C_H_replace), (51, .ireturn, 1, xs_iret false)]
def C_H_become : xPT := xM 3 pg_H_become
set_option maxRecDepth 20000 in
theorem ko_H_become (E : xE) : xOks E (xR 3 0 0) "HomeCalls" prog_1_method_9_code 3 (some FieldType.int) false pg_H_become :=
  .intro (ok_aload_n 0 rfl) (.intro (ok_iload_n 1 rfl) (.intro (ok_core 2 (run_V 2 (T := TX5) (N := 8) snd_H_isChild rfl wm_263 wm_265 wp_1 wm_1 wm_266 hd_H_isChild ⟨Nat.le_of_ble_eq_true rfl, Nat.le_of_ble_eq_true rfl⟩) ⟨Nat.le_of_ble_eq_true rfl, Nat.le_of_ble_eq_true rfl⟩) (.intro (ok_if_eq 5 rfl) (.intro (ok_iload_n 8 rfl) (.intro (ok_bipush 9 rfl) (.intro (ok_core 11 (run_S 11 snd_H_isBelow wm_224 wm_225 wm_1 wm_226 hd_H_isBelow.2 ⟨Nat.le_of_ble_eq_true rfl, Nat.le_of_ble_eq_true rfl⟩) ⟨Nat.le_of_ble_eq_true rfl, Nat.le_of_ble_eq_true rfl⟩) (.intro (ok_if_ne 14 rfl) (.intro (ok_aload_n 17 rfl) (.intro (ok_iconst 18 rfl) (.intro (ok_core 19 (run_V 19 (T := TX5) (N := 8) snd_H_error rfl wm_227 wm_229 wp_0 wm_1 wm_230 hd_H_error ⟨Nat.le_of_ble_eq_true rfl, Nat.le_of_ble_eq_true rfl⟩) ⟨Nat.le_of_ble_eq_true rfl, Nat.le_of_ble_eq_true rfl⟩) (.intro (ok_iret 22 rfl) (.intro (ok_aload_n 23 rfl) (.intro (ok_gf 24 (T := TX5) (N := 8) rfl inX5 (Nat.le_of_ble_eq_true rfl) wm_195) (.intro (ok_gf 27 (T := TX4) (N := 18) rfl inX4 (Nat.le_of_ble_eq_true rfl) wm_58) (.intro (ok_iload_n 30 rfl) (.intro (ok_iload_n 31 rfl) (.intro (ok_bipush 32 rfl) (.intro (ok_irem 34) (.intro (ok_iast 35) (.intro (ok_aload_n 36 rfl) (.intro (ok_gf 37 (T := TX5) (N := 8) rfl inX5 (Nat.le_of_ble_eq_true rfl) wm_195) (.intro (ok_gf 40 (T := TX4) (N := 18) rfl inX4 (Nat.le_of_ble_eq_true rfl) wm_56) (.intro (ok_iload_n 43 rfl) (.intro (ok_iload_n 44 rfl) (.intro (ok_bipush 45 rfl) (.intro (ok_idiv 47) (.intro (ok_core 48 (run_S 48 snd_H_replace wm_248 wm_249 wm_1 wm_250 hd_H_replace.2 ⟨Nat.le_of_ble_eq_true rfl, Nat.le_of_ble_eq_true rfl⟩) ⟨Nat.le_of_ble_eq_true rfl, Nat.le_of_ble_eq_true rfl⟩) (.intro (ok_iret 51 rfl) trivial))))))))))))))))))))))))))))
theorem snd_H_become : xSnd y_H_become prog_1_method_9_code 3 (some FieldType.int) 3 0 0 C_H_become := xSnd_of (init := false) (by decide +kernel) (by decide +kernel) (by decide +kernel) (fun h => by cases h) (fun E => xOks_all (ko_H_become E))
def pg_H_isIn : List xEl := [(0, .iload_n 1, 1, xs_il 1), (1, .iload_n 0, 1, xs_il 0), (2, .ishr, 1, xs_b2 (fun x y => x >>> (y &&& 31))), (3, .iconst 1, 1, xs_push (.int 1)), (4, .iand, 1, xs_b2 (fun x y => x &&& y)), (5, .iconst 1, 1, xs_push (.int 1)), (6, .if_icmp .ne 7, 3, xs_icn (fun x y => x = y) 13), (9, .iconst 1, 1, xs_push (.int 1)), (10, .goto 4, 3, xs_goto 14), (13, .iconst 0, 1, xs_push (.int 0)), (14, .ireturn, 1, xs_iret true)]
def C_H_isIn : xPT := xM 2 pg_H_isIn
set_option maxRecDepth 20000 in
theorem ko_H_isIn (E : xE) : xOks E (xR 1 0 0) "HomeCalls" prog_1_method_45_code 2 (some FieldType.boolean) false pg_H_isIn :=
  .intro (ok_iload_n 0 rfl) (.intro (ok_iload_n 1 rfl) (.intro (ok_ishr 2) (.intro (ok_iconst 3 rfl) (.intro (ok_iand 4) (.intro (ok_iconst 5 rfl) (.intro (ok_ic_ne 6 rfl) (.intro (ok_iconst 9 rfl) (.intro (ok_goto 10 rfl) (.intro (ok_iconst 13 rfl) (.intro (ok_iret 14 rfl) trivial))))))))))
theorem snd_H_isIn : xSnd y_H_isIn prog_1_method_45_code 2 (some FieldType.boolean) 1 0 0 C_H_isIn := xSnd_of (init := false) (by decide +kernel) (by decide +kernel) (by decide +kernel) (fun h => by cases h) (fun E => xOks_all (ko_H_isIn E))
def pg_H_as : List xEl := [(0, .aload_n 0, 1, xs_al 0), (1, .iload_n 1, 1, xs_il 1), (2, .invokevirtual 77, 3, xs_call false 0 0 0 0 (some 5) 2 C_H_isChild), (5, .ifCond .eq 12, 3, xs_if (fun x => x = 0) 17), (8, .iload_n 2, 1, xs_il 2), (9, .bipush 7, 2, xs_push (.int 7)), (11, .invokestatic 47, 3, xs_call false 0 0 0 0 none 2 C_H_isBelow), (14, .ifCond .ne 9, 3, xs_ifn (fun x => x = 0) 23), (17, .aload_n 0, 1, xs_al 0), (18, .iconst 1, 1, xs_push (.int 1)), (19, .invokevirtual 51, 3, xs_call false 0 0 0 0 (some 5) 2 C_H_error), (22, .ireturn, 1, xs_iret false), (23, .iload_n 2, 1, xs_il 2), (24, .getstatic 105, 3, xs_push (.float 0)), (27, .aload_n 0, 1, xs_al 0), (28, .getfield 10, 3, xs_gf 5 0), (31, .getfield 81, 3, xs_gf 4 3), (34, .iload_n 1, 1, xs_il 1), (35, .iaload, 1, xs_iald), (36, .iaload, 1, xs_tld 0 7 xIS), (37, .invokestatic 108, 3, xs_call false 0 0 0 0 none 2 C_H_isIn), (40, .ifCond .ne 9, 3, xs_ifn (fun x => x = 0) 49), (43, .aload_n 0, 1, xs_al 0), (44, .iconst 5, 1, xs_push (.int 5)), (45, .invokevirtual 51, 3, xs_call false 0 0 0 0 (some 5) 2 C_H_error), (48, .ireturn, 1, xs_iret false), (49, .aload_n 0, 1, xs_al 0), (50, .getfield 10, 3, xs_gf 5 0), (53, .getfield 84, 3, xs_gf 4 4), (56, .iload_n 1, 1, xs_il 1), (57, .iaload, 1, xs_iald), (58, .ireturn, 1, xs_iret false)]
def C_H_as : xPT := xM 3 pg_H_as
set_option maxRecDepth 20000 in
theorem ko_H_as (E : xE) : xOks E (xR 3 0 0) "HomeCalls" prog_1_method_10_code 3 (some FieldType.int) false pg_H_as :=
  .intro (ok_aload_n 0 rfl) (.intro (ok_iload_n 1 rfl) (.intro (ok_core 2 (run_V 2 (T := TX5) (N := 8) snd_H_isChild rfl wm_263 wm_265 wp_1 wm_1 wm_266 hd_H_isChild ⟨Nat.le_of_ble_eq_true rfl, Nat.le_of_ble_eq_true rfl⟩) ⟨Nat.le_of_ble_eq_true rfl, Nat.le_of_ble_eq_true rfl⟩) (.intro (ok_if_eq 5 rfl) (.intro (ok_iload_n 8 rfl) (.intro (ok_bipush 9 rfl) (.intro (ok_core 11 (run_S 11 snd_H_isBelow wm_224 wm_225 wm_1 wm_226 hd_H_isBelow.2 ⟨Nat.le_of_ble_eq_true rfl, Nat.le_of_ble_eq_true rfl⟩) ⟨Nat.le_of_ble_eq_true rfl, Nat.le_of_ble_eq_true rfl⟩) (.intro (ok_if_ne 14 rfl) (.intro (ok_aload_n 17 rfl) (.intro (ok_iconst 18 rfl) (.intro (ok_core 19 (run_V 19 (T := TX5) (N := 8) snd_H_error rfl wm_227 wm_229 wp_0 wm_1 wm_230 hd_H_error ⟨Nat.le_of_ble_eq_true rfl, Nat.le_of_ble_eq_true rfl⟩) ⟨Nat.le_of_ble_eq_true rfl, Nat.le_of_ble_eq_true rfl⟩) (.intro (ok_iret 22 rfl) (.intro (ok_iload_n 23 rfl) (.intro (ok_gs0 24 wm_291) (.intro (ok_aload_n 27 rfl) (.intro (ok_gf 28 (T := TX5) (N := 8) rfl inX5 (Nat.le_of_ble_eq_true rfl) wm_195) (.intro (ok_gf 31 (T := TX4) (N := 18) rfl inX4 (Nat.le_of_ble_eq_true rfl) wm_56) (.intro (ok_iload_n 34 rfl) (.intro (ok_iald 35) (.intro (ok_tldi 36 (List.mem_of_getElem? (i := 0) rfl)) (.intro (ok_core 37 (run_S 37 snd_H_isIn wm_293 wm_294 wm_1 wm_295 hd_H_isIn.2 ⟨Nat.le_of_ble_eq_true rfl, Nat.le_of_ble_eq_true rfl⟩) ⟨Nat.le_of_ble_eq_true rfl, Nat.le_of_ble_eq_true rfl⟩) (.intro (ok_if_ne 40 rfl) (.intro (ok_aload_n 43 rfl) (.intro (ok_iconst 44 rfl) (.intro (ok_core 45 (run_V 45 (T := TX5) (N := 8) snd_H_error rfl wm_227 wm_229 wp_0 wm_1 wm_230 hd_H_error ⟨Nat.le_of_ble_eq_true rfl, Nat.le_of_ble_eq_true rfl⟩) ⟨Nat.le_of_ble_eq_true rfl, Nat.le_of_ble_eq_true rfl⟩) (.intro (ok_iret 48 rfl) (.intro (ok_aload_n 49 rfl) (.intro (ok_gf 50 (T := TX5) (N := 8) rfl inX5 (Nat.le_of_ble_eq_true rfl) wm_195) (.intro (ok_gf 53 (T := TX4) (N := 18) rfl inX4 (Nat.le_of_ble_eq_true rfl) wm_58) (.intro (ok_iload_n 56 rfl) (.intro (ok_iald 57) (.intro (ok_iret 58 rfl) trivial)))))))))))))))))))))))))))))))
theorem snd_H_as : xSnd y_H_as prog_1_method_10_code 3 (some FieldType.int) 3 0 0 C_H_as := xSnd_of (init := false) (by decide +kernel) (by decide +kernel) (by decide +kernel) (fun h => by cases h) (fun E => xOks_all (ko_H_as E))
def pg_T_addBytes : List xEl := [(0, .iconst 0, 1, xs_push (.int 0)), (1, .istore 4, 2, xs_is 4), (3, .iload 4, 2, xs_il 4), (5, .iload_n 3, 1, xs_il 3), (6, .if_icmp .ge 40, 3, xs_ic (fun x y => y ≤ x) 46), (9, .aload_n 0, 1, xs_al 0), (10, .getfield 47, 3, xs_gf 4 13), (13, .aload_n 0, 1, xs_al 0), (14, .getfield 79, 3, xs_gf 4 14), (17, .lload_n 1, 1, xs_ll 1), (18, .bipush 8, 2, xs_push (.int 8)), (20, .iload 4, 2, xs_il 4), (22, .imul, 1, xs_b2 (fun x y => x * y)), (23, .lushr, 1, xs_lsh (fun x y => (x.toUInt64 >>> (y.toInt64.toUInt64 &&& Int64.toUInt64 63)).toInt64)), (24, .ldc2_w 97, 3, xs_push (.long 255)), (27, .land, 1, xs_l2 (fun x y => x &&& y)), (28, .l2i, 1, xs_l2i), (29, .iastore, 1, xs_iast), (30, .aload_n 0, 1, xs_al 0), (31, .dup, 1, xs_dup), (32, .getfield 79, 3, xs_gf 4 14), (35, .iconst 1, 1, xs_push (.int 1)), (36, .iadd, 1, xs_b2 (fun x y => x + y)), (37, .putfield 79, 3, xs_pf false 4 14), (40, .iinc 4 1, 3, xs_iinc 4 1), (43, .goto (-40), 3, xs_goto 3), (46, .aload_n 0, 1, xs_al 0), (47, .getfield 79, 3, xs_gf 4 14), (50, .ireturn, 1, xs_iret false)]
def C_T_addBytes : xPT := xM 5 pg_T_addBytes
set_option maxRecDepth 20000 in
theorem ko_T_addBytes (E : xE) : xOks E (xR 1 0 0) "HomeCalls$Street" prog_6_method_7_code 5 (some FieldType.int) false pg_T_addBytes :=
  .intro (ok_iconst 0 rfl) (.intro (ok_istore 1 (Nat.le_of_ble_eq_true rfl)) (.intro (ok_iload 3) (.intro (ok_iload_n 5 rfl) (.intro (ok_ic_ge 6 rfl) (.intro (ok_aload_n 9 rfl) (.intro (ok_gf 10 (T := TX4) (N := 18) rfl inX4 (Nat.le_of_ble_eq_true rfl) wm_75) (.intro (ok_aload_n 13 rfl) (.intro (ok_gf 14 (T := TX4) (N := 18) rfl inX4 (Nat.le_of_ble_eq_true rfl) wm_77) (.intro (ok_lload_n 17 rfl) (.intro (ok_bipush 18 rfl) (.intro (ok_iload 20) (.intro (ok_imul 22) (.intro (ok_lushr 23) (.intro (ok_ldc2 24 wm_304) (.intro (ok_land 27) (.intro (ok_l2i 28) (.intro (ok_iast 29) (.intro (ok_aload_n 30 rfl) (.intro (ok_dup 31) (.intro (ok_gf 32 (T := TX4) (N := 18) rfl inX4 (Nat.le_of_ble_eq_true rfl) wm_77) (.intro (ok_iconst 35 rfl) (.intro (ok_iadd 36) (.intro (ok_pf 37 (T := TX4) (N := 18) rfl inX4 tyX4_ok nmX4 (Nat.le_of_ble_eq_true rfl) wm_77 rfl rfl) (.intro (ok_iinc 40 rfl (Nat.le_of_ble_eq_true rfl)) (.intro (ok_goto 43 rfl) (.intro (ok_aload_n 46 rfl) (.intro (ok_gf 47 (T := TX4) (N := 18) rfl inX4 (Nat.le_of_ble_eq_true rfl) wm_77) (.intro (ok_iret 50 rfl) trivial))))))))))))))))))))))))))))
theorem snd_T_addBytes : xSnd y_T_addBytes prog_6_method_7_code 5 (some FieldType.int) 1 0 0 C_T_addBytes := xSnd_of (init := false) (by decide +kernel) (by decide +kernel) (by decide +kernel) (fun h => by cases h) (fun E => xOks_all (ko_T_addBytes E))
def pg_H_feed : List xEl := [(0, .iload_n 3, 1, xs_il 3), (1, .iconst 1, 1, xs_push (.int 1)), (2, .if_icmp .lt 9, 3, xs_ic (fun x y => x < y) 11), (5, .iload_n 3, 1, xs_il 3), (6, .bipush 8, 2, xs_push (.int 8)), (8, .if_icmp .le 9, 3, xs_ic (fun x y => x ≤ y) 17), (11, .aload_n 0, 1, xs_al 0), (12, .iconst 1, 1, xs_push (.int 1)), (13, .invokevirtual 51, 3, xs_call false 0 0 0 0 (some 5) 2 C_H_error), (16, .ireturn, 1, xs_iret false), (17, .aload_n 0, 1, xs_al 0), (18, .getfield 10, 3, xs_gf 5 0), (21, .getfield 111, 3, xs_gf 4 14), (24, .iload_n 3, 1, xs_il 3), (25, .iadd, 1, xs_b2 (fun x y => x + y)), (26, .bipush 50, 2, xs_push (.int 50)), (28, .if_icmp .le 9, 3, xs_ic (fun x y => x ≤ y) 37), (31, .aload_n 0, 1, xs_al 0), (32, .iconst 4, 1, xs_push (.int 4)), (33, .invokevirtual 51, 3, xs_call false 0 0 0 0 (some 5) 2 C_H_error), (36, .ireturn, 1, xs_iret false), (37, .aload_n 0, 1, xs_al 0), (38, .getfield 10, 3, xs_gf 5 0), (41, .lload_n 1, 1, xs_ll 1), (42, .iload_n 3, 1, xs_il 3), (43, .invokevirtual 114, 3, xs_call false 0 0 0 0 (some 4) 3 C_T_addBytes), (46, .ireturn, 1, xs_iret false)]
def C_H_feed : xPT := xM 4 pg_H_feed
set_option maxRecDepth 20000 in
theorem ko_H_feed (E : xE) : xOks E (xR 2 0 0) "HomeCalls" prog_1_method_11_code 4 (some FieldType.int) false pg_H_feed :=
  .intro (ok_iload_n 0 rfl) (.intro (ok_iconst 1 rfl) (.intro (ok_ic_lt 2 rfl) (.intro (ok_iload_n 5 rfl) (.intro (ok_bipush 6 rfl) (.intro (ok_ic_le 8 rfl) (.intro (ok_aload_n 11 rfl) (.intro (ok_iconst 12 rfl) (.intro (ok_core 13 (run_V 13 (T := TX5) (N := 8) snd_H_error rfl wm_227 wm_229 wp_0 wm_1 wm_230 hd_H_error ⟨Nat.le_of_ble_eq_true rfl, Nat.le_of_ble_eq_true rfl⟩) ⟨Nat.le_of_ble_eq_true rfl, Nat.le_of_ble_eq_true rfl⟩) (.intro (ok_iret 16 rfl) (.intro (ok_aload_n 17 rfl) (.intro (ok_gf 18 (T := TX5) (N := 8) rfl inX5 (Nat.le_of_ble_eq_true rfl) wm_195) (.intro (ok_gf 21 (T := TX4) (N := 18) rfl inX4 (Nat.le_of_ble_eq_true rfl) wm_78) (.intro (ok_iload_n 24 rfl) (.intro (ok_iadd 25) (.intro (ok_bipush 26 rfl) (.intro (ok_ic_le 28 rfl) (.intro (ok_aload_n 31 rfl) (.intro (ok_iconst 32 rfl) (.intro (ok_core 33 (run_V 33 (T := TX5) (N := 8) snd_H_error rfl wm_227 wm_229 wp_0 wm_1 wm_230 hd_H_error ⟨Nat.le_of_ble_eq_true rfl, Nat.le_of_ble_eq_true rfl⟩) ⟨Nat.le_of_ble_eq_true rfl, Nat.le_of_ble_eq_true rfl⟩) (.intro (ok_iret 36 rfl) (.intro (ok_aload_n 37 rfl) (.intro (ok_gf 38 (T := TX5) (N := 8) rfl inX5 (Nat.le_of_ble_eq_true rfl) wm_195) (.intro (ok_lload_n 41 rfl) (.intro (ok_iload_n 42 rfl) (.intro (ok_core 43 (run_V 43 (T := TX4) (N := 18) snd_T_addBytes rfl wm_300 wm_301 wm_302 wm_2 wm_303 hd_T_addBytes ⟨Nat.le_of_ble_eq_true rfl, Nat.le_of_ble_eq_true rfl⟩) ⟨Nat.le_of_ble_eq_true rfl, Nat.le_of_ble_eq_true rfl⟩) (.intro (ok_iret 46 rfl) trivial))))))))))))))))))))))))))
theorem snd_H_feed : xSnd y_H_feed prog_1_method_11_code 4 (some FieldType.int) 2 0 0 C_H_feed := xSnd_of (init := false) (by decide +kernel) (by decide +kernel) (by decide +kernel) (fun h => by cases h) (fun E => xOks_all (ko_H_feed E))
def pg_A_min : List xEl := [(0, .iload_n 0, 1, xs_il 0), (1, .iload_n 1, 1, xs_il 1), (2, .if_icmp .gt 7, 3, xs_ic (fun x y => y < x) 9), (5, .iload_n 0, 1, xs_il 0), (6, .goto 4, 3, xs_goto 10), (9, .iload_n 1, 1, xs_il 1), (10, .ireturn, 1, xs_iret false)]
def C_A_min : xPT := xM 2 pg_A_min
set_option maxRecDepth 20000 in
theorem ko_A_min (E : xE) : xOks E (xR 1 0 0) "java/lang/Math" prog_10_method_69_code 2 (some FieldType.int) false pg_A_min :=
  .intro (ok_iload_n 0 rfl) (.intro (ok_iload_n 1 rfl) (.intro (ok_ic_gt 2 rfl) (.intro (ok_iload_n 5 rfl) (.intro (ok_goto 6 rfl) (.intro (ok_iload_n 9 rfl) (.intro (ok_iret 10 rfl) trivial))))))
theorem snd_A_min : xSnd y_A_min prog_10_method_69_code 2 (some FieldType.int) 1 0 0 C_A_min := xSnd_of (init := false) (by decide +kernel) (by decide +kernel) (by decide +kernel) (fun h => by cases h) (fun E => xOks_all (ko_A_min E))
def pg_R_emit : List xEl := [(0, .aload_n 0, 1, xs_al 0), (1, .getfield 18, 3, xs_gf 1 1), (4, .aload_n 0, 1, xs_al 0), (5, .getfield 9, 3, xs_gf 1 0), (8, .arraylength, 1, xs_alen), (9, .if_icmp .ge 23, 3, xs_ic (fun x y => y ≤ x) 32), (12, .aload_n 0, 1, xs_al 0), (13, .getfield 9, 3, xs_gf 1 0), (16, .aload_n 0, 1, xs_al 0), (17, .getfield 18, 3, xs_gf 1 1), (20, .iload_n 1, 1, xs_il 1), (21, .iastore, 1, xs_iast), (22, .aload_n 0, 1, xs_al 0), (23, .dup, 1, xs_dup), (24, .getfield 18, 3, xs_gf 1 1), (27, .iconst 1, 1, xs_push (.int 1)), (28, .iadd, 1, xs_b2 (fun x y => x + y)), (29, .putfield 18, 3, xs_pf false 1 1), (32, .return_, 1, xs_ret)]
def C_R_emit : xPT := xM 2 pg_R_emit
set_option maxRecDepth 20000 in
theorem ko_R_emit (E : xE) : xOks E (xR 1 0 0) "HomeCalls$Reader" prog_3_method_12_code 2 none false pg_R_emit :=
  .intro (ok_aload_n 0 rfl) (.intro (ok_gf 1 (T := TX1) (N := 7) rfl inX1 (Nat.le_of_ble_eq_true rfl) wm_129) (.intro (ok_aload_n 4 rfl) (.intro (ok_gf 5 (T := TX1) (N := 7) rfl inX1 (Nat.le_of_ble_eq_true rfl) wm_127) (.intro (ok_alen 8) (.intro (ok_ic_ge 9 rfl) (.intro (ok_aload_n 12 rfl) (.intro (ok_gf 13 (T := TX1) (N := 7) rfl inX1 (Nat.le_of_ble_eq_true rfl) wm_127) (.intro (ok_aload_n 16 rfl) (.intro (ok_gf 17 (T := TX1) (N := 7) rfl inX1 (Nat.le_of_ble_eq_true rfl) wm_129) (.intro (ok_iload_n 20 rfl) (.intro (ok_iast 21) (.intro (ok_aload_n 22 rfl) (.intro (ok_dup 23) (.intro (ok_gf 24 (T := TX1) (N := 7) rfl inX1 (Nat.le_of_ble_eq_true rfl) wm_129) (.intro (ok_iconst 27 rfl) (.intro (ok_iadd 28) (.intro (ok_pf 29 (T := TX1) (N := 7) rfl inX1 tyX1_ok nmX1 (Nat.le_of_ble_eq_true rfl) wm_129 rfl rfl) (.intro (ok_ret 32 rfl) trivial))))))))))))))))))
theorem snd_R_emit : xSnd y_R_emit prog_3_method_12_code 2 none 1 0 0 C_R_emit := xSnd_of (init := false) (by decide +kernel) (by decide +kernel) (by decide +kernel) (fun h => by cases h) (fun E => xOks_all (ko_R_emit E))
def pg_R_readDigit : List xEl := [(0, .aload_n 0, 1, xs_al 0), (1, .getfield 31, 3, xs_gf 1 6), (4, .ifCond .eq 20, 3, xs_if (fun x => x = 0) 24), (7, .aload_n 0, 1, xs_al 0), (8, .iload_n 1, 1, xs_il 1), (9, .invokevirtual 59, 3, xs_call false 0 0 0 0 (some 1) 2 C_R_emit), (12, .aload_n 0, 1, xs_al 0), (13, .iconst 0, 1, xs_push (.int 0)), (14, .putfield 31, 3, xs_pf true 1 6), (17, .aload_n 0, 1, xs_al 0), (18, .iconst 1, 1, xs_push (.int 1)), (19, .putfield 28, 3, xs_pf false 1 5), (22, .iconst 1, 1, xs_push (.int 1)), (23, .ireturn, 1, xs_iret true), (24, .aload_n 0, 1, xs_al 0), (25, .getfield 28, 3, xs_gf 1 5), (28, .ifCond .eq 18, 3, xs_if (fun x => x = 0) 46), (31, .aload_n 0, 1, xs_al 0), (32, .getfield 28, 3, xs_gf 1 5), (35, .iconst 4, 1, xs_push (.int 4)), (36, .if_icmp .eq 10, 3, xs_ic (fun x y => x = y) 46), (39, .aload_n 0, 1, xs_al 0), (40, .getfield 18, 3, xs_gf 1 1), (43, .ifCond .ne 5, 3, xs_ifn (fun x => x = 0) 48), (46, .iconst 0, 1, xs_push (.int 0)), (47, .ireturn, 1, xs_iret true), (48, .aload_n 0, 1, xs_al 0), (49, .getfield 9, 3, xs_gf 1 0), (52, .aload_n 0, 1, xs_al 0), (53, .getfield 18, 3, xs_gf 1 1), (56, .iconst 1, 1, xs_push (.int 1)), (57, .isub, 1, xs_b2 (fun x y => x - y)), (58, .aload_n 0, 1, xs_al 0), (59, .getfield 9, 3, xs_gf 1 0), (62, .aload_n 0, 1, xs_al 0), (63, .getfield 18, 3, xs_gf 1 1), (66, .iconst 1, 1, xs_push (.int 1)), (67, .isub, 1, xs_b2 (fun x y => x - y)), (68, .iaload, 1, xs_iald), (69, .bipush 10, 2, xs_push (.int 10)), (71, .imul, 1, xs_b2 (fun x y => x * y)), (72, .iload_n 1, 1, xs_il 1), (73, .iadd, 1, xs_b2 (fun x y => x + y)), (74, .iastore, 1, xs_iast), (75, .aload_n 0, 1, xs_al 0), (76, .dup, 1, xs_dup), (77, .getfield 28, 3, xs_gf 1 5), (80, .iconst 1, 1, xs_push (.int 1)), (81, .iadd, 1, xs_b2 (fun x y => x + y)), (82, .putfield 28, 3, xs_pf false 1 5), (85, .iconst 1, 1, xs_push (.int 1)), (86, .ireturn, 1, xs_iret true)]
def C_R_readDigit : xPT := xM 2 pg_R_readDigit
set_option maxRecDepth 20000 in
theorem ko_R_readDigit_1 (E : xE) : xOks E (xR 2 0 0) "HomeCalls$Reader" prog_3_method_4_code 2 (some FieldType.boolean) false (List.drop 40 pg_R_readDigit) :=
  .intro (ok_imul 71) (.intro (ok_iload_n 72 rfl) (.intro (ok_iadd 73) (.intro (ok_iast 74) (.intro (ok_aload_n 75 rfl) (.intro (ok_dup 76) (.intro (ok_gf 77 (T := TX1) (N := 7) rfl inX1 (Nat.le_of_ble_eq_true rfl) wm_134) (.intro (ok_iconst 80 rfl) (.intro (ok_iadd 81) (.intro (ok_pf 82 (T := TX1) (N := 7) rfl inX1 tyX1_ok nmX1 (Nat.le_of_ble_eq_true rfl) wm_134 rfl rfl) (.intro (ok_iconst 85 rfl) (.intro (ok_iret 86 rfl) trivial)))))))))))
set_option maxRecDepth 20000 in
theorem ko_R_readDigit (E : xE) : xOks E (xR 2 0 0) "HomeCalls$Reader" prog_3_method_4_code 2 (some FieldType.boolean) false pg_R_readDigit :=
  .intro (ok_aload_n 0 rfl) (.intro (ok_gf 1 (T := TX1) (N := 7) rfl inX1 (Nat.le_of_ble_eq_true rfl) wm_135) (.intro (ok_if_eq 4 rfl) (.intro (ok_aload_n 7 rfl) (.intro (ok_iload_n 8 rfl) (.intro (ok_core 9 (run_V 9 (T := TX1) (N := 7) snd_R_emit rfl wm_324 wm_326 wp_4 wm_4 wm_327 hd_R_emit ⟨Nat.le_of_ble_eq_true rfl, Nat.le_of_ble_eq_true rfl⟩) ⟨Nat.le_of_ble_eq_true rfl, Nat.le_of_ble_eq_true rfl⟩) (.intro (ok_aload_n 12 rfl) (.intro (ok_iconst 13 rfl) (.intro (ok_pf 14 (T := TX1) (N := 7) rfl inX1 tyX1_ok nmX1 (Nat.le_of_ble_eq_true rfl) wm_135 rfl rfl) (.intro (ok_aload_n 17 rfl) (.intro (ok_iconst 18 rfl) (.intro (ok_pf 19 (T := TX1) (N := 7) rfl inX1 tyX1_ok nmX1 (Nat.le_of_ble_eq_true rfl) wm_134 rfl rfl) (.intro (ok_iconst 22 rfl) (.intro (ok_iret 23 rfl) (.intro (ok_aload_n 24 rfl) (.intro (ok_gf 25 (T := TX1) (N := 7) rfl inX1 (Nat.le_of_ble_eq_true rfl) wm_134) (.intro (ok_if_eq 28 rfl) (.intro (ok_aload_n 31 rfl) (.intro (ok_gf 32 (T := TX1) (N := 7) rfl inX1 (Nat.le_of_ble_eq_true rfl) wm_134) (.intro (ok_iconst 35 rfl) (.intro (ok_ic_eq 36 rfl) (.intro (ok_aload_n 39 rfl) (.intro (ok_gf 40 (T := TX1) (N := 7) rfl inX1 (Nat.le_of_ble_eq_true rfl) wm_129) (.intro (ok_if_ne 43 rfl) (.intro (ok_iconst 46 rfl) (.intro (ok_iret 47 rfl) (.intro (ok_aload_n 48 rfl) (.intro (ok_gf 49 (T := TX1) (N := 7) rfl inX1 (Nat.le_of_ble_eq_true rfl) wm_127) (.intro (ok_aload_n 52 rfl) (.intro (ok_gf 53 (T := TX1) (N := 7) rfl inX1 (Nat.le_of_ble_eq_true rfl) wm_129) (.intro (ok_iconst 56 rfl) (.intro (ok_isub 57) (.intro (ok_aload_n 58 rfl) (.intro (ok_gf 59 (T := TX1) (N := 7) rfl inX1 (Nat.le_of_ble_eq_true rfl) wm_127) (.intro (ok_aload_n 62 rfl) (.intro (ok_gf 63 (T := TX1) (N := 7) rfl inX1 (Nat.le_of_ble_eq_true rfl) wm_129) (.intro (ok_iconst 66 rfl) (.intro (ok_isub 67) (.intro (ok_iald 68) (.intro (ok_bipush 69 rfl) ((ko_R_readDigit_1 E)))))))))))))))))))))))))))))))))))))))))
theorem snd_R_readDigit : xSnd y_R_readDigit prog_3_method_4_code 2 (some FieldType.boolean) 2 0 0 C_R_readDigit := xSnd_of (init := false) (by decide +kernel) (by decide +kernel) (by decide +kernel) (fun h => by cases h) (fun E => xOks_all (ko_R_readDigit E))
def pg_R_hold : List xEl := [(0, .aload_n 0, 1, xs_al 0), (1, .getfield 22, 3, xs_gf 1 3), (4, .aload_n 0, 1, xs_al 0), (5, .getfield 15, 3, xs_gf 1 2), (8, .arraylength, 1, xs_alen), (9, .if_icmp .ge 23, 3, xs_ic (fun x y => y ≤ x) 32), (12, .aload_n 0, 1, xs_al 0), (13, .getfield 15, 3, xs_gf 1 2), (16, .aload_n 0, 1, xs_al 0), (17, .getfield 22, 3, xs_gf 1 3), (20, .iload_n 1, 1, xs_il 1), (21, .iastore, 1, xs_iast), (22, .aload_n 0, 1, xs_al 0), (23, .dup, 1, xs_dup), (24, .getfield 22, 3, xs_gf 1 3), (27, .iconst 1, 1, xs_push (.int 1)), (28, .iadd, 1, xs_b2 (fun x y => x + y)), (29, .putfield 22, 3, xs_pf false 1 3), (32, .return_, 1, xs_ret)]
def C_R_hold : xPT := xM 2 pg_R_hold
set_option maxRecDepth 20000 in
theorem ko_R_hold (E : xE) : xOks E (xR 1 0 0) "HomeCalls$Reader" prog_3_method_11_code 2 none false pg_R_hold :=
  .intro (ok_aload_n 0 rfl) (.intro (ok_gf 1 (T := TX1) (N := 7) rfl inX1 (Nat.le_of_ble_eq_true rfl) wm_132) (.intro (ok_aload_n 4 rfl) (.intro (ok_gf 5 (T := TX1) (N := 7) rfl inX1 (Nat.le_of_ble_eq_true rfl) wm_131) (.intro (ok_alen 8) (.intro (ok_ic_ge 9 rfl) (.intro (ok_aload_n 12 rfl) (.intro (ok_gf 13 (T := TX1) (N := 7) rfl inX1 (Nat.le_of_ble_eq_true rfl) wm_131) (.intro (ok_aload_n 16 rfl) (.intro (ok_gf 17 (T := TX1) (N := 7) rfl inX1 (Nat.le_of_ble_eq_true rfl) wm_132) (.intro (ok_iload_n 20 rfl) (.intro (ok_iast 21) (.intro (ok_aload_n 22 rfl) (.intro (ok_dup 23) (.intro (ok_gf 24 (T := TX1) (N := 7) rfl inX1 (Nat.le_of_ble_eq_true rfl) wm_132) (.intro (ok_iconst 27 rfl) (.intro (ok_iadd 28) (.intro (ok_pf 29 (T := TX1) (N := 7) rfl inX1 tyX1_ok nmX1 (Nat.le_of_ble_eq_true rfl) wm_132 rfl rfl) (.intro (ok_ret 32 rfl) trivial))))))))))))))))))
theorem snd_R_hold : xSnd y_R_hold prog_3_method_11_code 2 none 1 0 0 C_R_hold := xSnd_of (init := false) (by decide +kernel) (by decide +kernel) (by decide +kernel) (fun h => by cases h) (fun E => xOks_all (ko_R_hold E))
def pg_R_readStart : List xEl := [(0, .iconst 0, 1, xs_push (.int 0)), (1, .istore_n 3, 1, xs_is 3), (2, .iload_n 3, 1, xs_il 3), (3, .iconst 3, 1, xs_push (.int 3)), (4, .if_icmp .ge 38, 3, xs_ic (fun x y => y ≤ x) 42), (7, .iload_n 1, 1, xs_il 1), (8, .getstatic 63, 3, xs_push (.float 1)), (11, .iconst 3, 1, xs_push (.int 3)), (12, .iload_n 2, 1, xs_il 2), (13, .imul, 1, xs_b2 (fun x y => x * y)), (14, .iload_n 3, 1, xs_il 3), (15, .iadd, 1, xs_b2 (fun x y => x + y)), (16, .caload, 1, xs_tld 1 6 xNM), (17, .if_icmp .ne 19, 3, xs_icn (fun x y => x = y) 36), (20, .aload_n 0, 1, xs_al 0), (21, .sipush 10000, 3, xs_push (.int 10000)), (24, .iload_n 3, 1, xs_il 3), (25, .iadd, 1, xs_b2 (fun x y => x + y)), (26, .invokevirtual 59, 3, xs_call false 0 0 0 0 (some 1) 2 C_R_emit), (29, .aload_n 0, 1, xs_al 0), (30, .iconst 0, 1, xs_push (.int 0)), (31, .putfield 31, 3, xs_pf true 1 6), (34, .iconst 1, 1, xs_push (.int 1)), (35, .ireturn, 1, xs_iret true), (36, .iinc 3 1, 3, xs_iinc 3 1), (39, .goto (-37), 3, xs_goto 2), (42, .iload_n 1, 1, xs_il 1), (43, .bipush 33, 2, xs_push (.int 33)), (45, .if_icmp .eq 9, 3, xs_ic (fun x y => x = y) 54), (48, .iload_n 1, 1, xs_il 1), (49, .bipush 40, 2, xs_push (.int 40)), (51, .if_icmp .ne 11, 3, xs_icn (fun x y => x = y) 62), (54, .aload_n 0, 1, xs_al 0), (55, .getfield 25, 3, xs_gf 1 4), (58, .iconst 5, 1, xs_push (.int 5)), (59, .if_icmp .ne 5, 3, xs_icn (fun x y => x = y) 64), (62, .iconst 0, 1, xs_push (.int 0)), (63, .ireturn, 1, xs_iret true), (64, .aload_n 0, 1, xs_al 0), (65, .iload_n 1, 1, xs_il 1), (66, .invokevirtual 69, 3, xs_call false 0 0 0 0 (some 1) 2 C_R_hold), (69, .aload_n 0, 1, xs_al 0), (70, .dup, 1, xs_dup), (71, .getfield 25, 3, xs_gf 1 4), (74, .iconst 1, 1, xs_push (.int 1)), (75, .iadd, 1, xs_b2 (fun x y => x + y)), (76, .putfield 25, 3, xs_pf false 1 4), (79, .iconst 1, 1, xs_push (.int 1)), (80, .ireturn, 1, xs_iret true)]
def C_R_readStart : xPT := xM 4 pg_R_readStart
set_option maxRecDepth 20000 in
theorem ko_R_readStart_1 (E : xE) : xOks E (xR 2 0 0) "HomeCalls$Reader" prog_3_method_5_code 4 (some FieldType.boolean) false (List.drop 40 pg_R_readStart) :=
  .intro (ok_core 66 (run_V 66 (T := TX1) (N := 7) snd_R_hold rfl wm_334 wm_336 wp_6 wm_4 wm_337 hd_R_hold ⟨Nat.le_of_ble_eq_true rfl, Nat.le_of_ble_eq_true rfl⟩) ⟨Nat.le_of_ble_eq_true rfl, Nat.le_of_ble_eq_true rfl⟩) (.intro (ok_aload_n 69 rfl) (.intro (ok_dup 70) (.intro (ok_gf 71 (T := TX1) (N := 7) rfl inX1 (Nat.le_of_ble_eq_true rfl) wm_133) (.intro (ok_iconst 74 rfl) (.intro (ok_iadd 75) (.intro (ok_pf 76 (T := TX1) (N := 7) rfl inX1 tyX1_ok nmX1 (Nat.le_of_ble_eq_true rfl) wm_133 rfl rfl) (.intro (ok_iconst 79 rfl) (.intro (ok_iret 80 rfl) trivial))))))))
set_option maxRecDepth 20000 in
theorem ko_R_readStart (E : xE) : xOks E (xR 2 0 0) "HomeCalls$Reader" prog_3_method_5_code 4 (some FieldType.boolean) false pg_R_readStart :=
  .intro (ok_iconst 0 rfl) (.intro (ok_istore_n 1 rfl (Nat.le_of_ble_eq_true rfl)) (.intro (ok_iload_n 2 rfl) (.intro (ok_iconst 3 rfl) (.intro (ok_ic_ge 4 rfl) (.intro (ok_iload_n 7 rfl) (.intro (ok_gs1 8 wm_332) (.intro (ok_iconst 11 rfl) (.intro (ok_iload_n 12 rfl) (.intro (ok_imul 13) (.intro (ok_iload_n 14 rfl) (.intro (ok_iadd 15) (.intro (ok_tldc 16 (List.mem_of_getElem? (i := 1) rfl)) (.intro (ok_ic_ne 17 rfl) (.intro (ok_aload_n 20 rfl) (.intro (ok_sipush 21 rfl) (.intro (ok_iload_n 24 rfl) (.intro (ok_iadd 25) (.intro (ok_core 26 (run_V 26 (T := TX1) (N := 7) snd_R_emit rfl wm_324 wm_326 wp_4 wm_4 wm_327 hd_R_emit ⟨Nat.le_of_ble_eq_true rfl, Nat.le_of_ble_eq_true rfl⟩) ⟨Nat.le_of_ble_eq_true rfl, Nat.le_of_ble_eq_true rfl⟩) (.intro (ok_aload_n 29 rfl) (.intro (ok_iconst 30 rfl) (.intro (ok_pf 31 (T := TX1) (N := 7) rfl inX1 tyX1_ok nmX1 (Nat.le_of_ble_eq_true rfl) wm_135 rfl rfl) (.intro (ok_iconst 34 rfl) (.intro (ok_iret 35 rfl) (.intro (ok_iinc 36 rfl (Nat.le_of_ble_eq_true rfl)) (.intro (ok_goto 39 rfl) (.intro (ok_iload_n 42 rfl) (.intro (ok_bipush 43 rfl) (.intro (ok_ic_eq 45 rfl) (.intro (ok_iload_n 48 rfl) (.intro (ok_bipush 49 rfl) (.intro (ok_ic_ne 51 rfl) (.intro (ok_aload_n 54 rfl) (.intro (ok_gf 55 (T := TX1) (N := 7) rfl inX1 (Nat.le_of_ble_eq_true rfl) wm_133) (.intro (ok_iconst 58 rfl) (.intro (ok_ic_ne 59 rfl) (.intro (ok_iconst 62 rfl) (.intro (ok_iret 63 rfl) (.intro (ok_aload_n 64 rfl) (.intro (ok_iload_n 65 rfl) ((ko_R_readStart_1 E)))))))))))))))))))))))))))))))))))))))))
theorem snd_R_readStart : xSnd y_R_readStart prog_3_method_5_code 4 (some FieldType.boolean) 2 0 0 C_R_readStart := xSnd_of (init := false) (by decide +kernel) (by decide +kernel) (by decide +kernel) (fun h => by cases h) (fun E => xOks_all (ko_R_readStart E))
def pg_R_closeNots : List xEl := [(0, .aload_n 0, 1, xs_al 0), (1, .getfield 22, 3, xs_gf 1 3), (4, .ifCond .le 49, 3, xs_if (fun x => x ≤ 0) 53), (7, .aload_n 0, 1, xs_al 0), (8, .getfield 15, 3, xs_gf 1 2), (11, .aload_n 0, 1, xs_al 0), (12, .getfield 22, 3, xs_gf 1 3), (15, .iconst 1, 1, xs_push (.int 1)), (16, .isub, 1, xs_b2 (fun x y => x - y)), (17, .iaload, 1, xs_iald), (18, .bipush 33, 2, xs_push (.int 33)), (20, .if_icmp .ne 33, 3, xs_icn (fun x y => x = y) 53), (23, .aload_n 0, 1, xs_al 0), (24, .sipush 20033, 3, xs_push (.int 20033)), (27, .invokevirtual 59, 3, xs_call false 0 0 0 0 (some 1) 2 C_R_emit), (30, .aload_n 0, 1, xs_al 0), (31, .dup, 1, xs_dup), (32, .getfield 25, 3, xs_gf 1 4), (35, .iconst 1, 1, xs_push (.int 1)), (36, .isub, 1, xs_b2 (fun x y => x - y)), (37, .putfield 25, 3, xs_pf false 1 4), (40, .aload_n 0, 1, xs_al 0), (41, .dup, 1, xs_dup), (42, .getfield 22, 3, xs_gf 1 3), (45, .iconst 1, 1, xs_push (.int 1)), (46, .isub, 1, xs_b2 (fun x y => x - y)), (47, .putfield 22, 3, xs_pf false 1 3), (50, .goto (-50), 3, xs_goto 0), (53, .return_, 1, xs_ret)]
def C_R_closeNots : xPT := xM 1 pg_R_closeNots
set_option maxRecDepth 20000 in
theorem ko_R_closeNots (E : xE) : xOks E (xR 2 0 0) "HomeCalls$Reader" prog_3_method_9_code 1 none false pg_R_closeNots :=
  .intro (ok_aload_n 0 rfl) (.intro (ok_gf 1 (T := TX1) (N := 7) rfl inX1 (Nat.le_of_ble_eq_true rfl) wm_132) (.intro (ok_if_le 4 rfl) (.intro (ok_aload_n 7 rfl) (.intro (ok_gf 8 (T := TX1) (N := 7) rfl inX1 (Nat.le_of_ble_eq_true rfl) wm_131) (.intro (ok_aload_n 11 rfl) (.intro (ok_gf 12 (T := TX1) (N := 7) rfl inX1 (Nat.le_of_ble_eq_true rfl) wm_132) (.intro (ok_iconst 15 rfl) (.intro (ok_isub 16) (.intro (ok_iald 17) (.intro (ok_bipush 18 rfl) (.intro (ok_ic_ne 20 rfl) (.intro (ok_aload_n 23 rfl) (.intro (ok_sipush 24 rfl) (.intro (ok_core 27 (run_V 27 (T := TX1) (N := 7) snd_R_emit rfl wm_324 wm_326 wp_4 wm_4 wm_327 hd_R_emit ⟨Nat.le_of_ble_eq_true rfl, Nat.le_of_ble_eq_true rfl⟩) ⟨Nat.le_of_ble_eq_true rfl, Nat.le_of_ble_eq_true rfl⟩) (.intro (ok_aload_n 30 rfl) (.intro (ok_dup 31) (.intro (ok_gf 32 (T := TX1) (N := 7) rfl inX1 (Nat.le_of_ble_eq_true rfl) wm_133) (.intro (ok_iconst 35 rfl) (.intro (ok_isub 36) (.intro (ok_pf 37 (T := TX1) (N := 7) rfl inX1 tyX1_ok nmX1 (Nat.le_of_ble_eq_true rfl) wm_133 rfl rfl) (.intro (ok_aload_n 40 rfl) (.intro (ok_dup 41) (.intro (ok_gf 42 (T := TX1) (N := 7) rfl inX1 (Nat.le_of_ble_eq_true rfl) wm_132) (.intro (ok_iconst 45 rfl) (.intro (ok_isub 46) (.intro (ok_pf 47 (T := TX1) (N := 7) rfl inX1 tyX1_ok nmX1 (Nat.le_of_ble_eq_true rfl) wm_132 rfl rfl) (.intro (ok_goto 50 rfl) (.intro (ok_ret 53 rfl) trivial))))))))))))))))))))))))))))
theorem snd_R_closeNots : xSnd y_R_closeNots prog_3_method_9_code 1 none 2 0 0 C_R_closeNots := xSnd_of (init := false) (by decide +kernel) (by decide +kernel) (by decide +kernel) (fun h => by cases h) (fun E => xOks_all (ko_R_closeNots E))
def pg_R_rankOf : List xEl := [(0, .iload_n 0, 1, xs_il 0), (1, .lookupswitch 101 #[(37, 99), (38, 93), (42, 99), (43, 97), (45, 97), (47, 99), (60, 95), (61, 95), (62, 95), (124, 91)], 91, xs_sw [(37, 100), (38, 94), (42, 100), (43, 98), (45, 98), (47, 100), (60, 96), (61, 96), (62, 96), (124, 92)] 102), (92, .iconst 1, 1, xs_push (.int 1)), (93, .ireturn, 1, xs_iret false), (94, .iconst 2, 1, xs_push (.int 2)), (95, .ireturn, 1, xs_iret false), (96, .iconst 3, 1, xs_push (.int 3)), (97, .ireturn, 1, xs_iret false), (98, .iconst 4, 1, xs_push (.int 4)), (99, .ireturn, 1, xs_iret false), (100, .iconst 5, 1, xs_push (.int 5)), (101, .ireturn, 1, xs_iret false), (102, .iconst 0, 1, xs_push (.int 0)), (103, .ireturn, 1, xs_iret false)]
def C_R_rankOf : xPT := xM 1 pg_R_rankOf
set_option maxRecDepth 20000 in
theorem ko_R_rankOf (E : xE) : xOks E (xR 1 0 0) "HomeCalls$Reader" prog_3_method_13_code 1 (some FieldType.int) false pg_R_rankOf :=
  .intro (ok_iload_n 0 rfl) (.intro (ok_look 1 rfl rfl rfl) (.intro (ok_iconst 92 rfl) (.intro (ok_iret 93 rfl) (.intro (ok_iconst 94 rfl) (.intro (ok_iret 95 rfl) (.intro (ok_iconst 96 rfl) (.intro (ok_iret 97 rfl) (.intro (ok_iconst 98 rfl) (.intro (ok_iret 99 rfl) (.intro (ok_iconst 100 rfl) (.intro (ok_iret 101 rfl) (.intro (ok_iconst 102 rfl) (.intro (ok_iret 103 rfl) trivial)))))))))))))
theorem snd_R_rankOf : xSnd y_R_rankOf prog_3_method_13_code 1 (some FieldType.int) 1 0 0 C_R_rankOf := xSnd_of (init := false) (by decide +kernel) (by decide +kernel) (by decide +kernel) (fun h => by cases h) (fun E => xOks_all (ko_R_rankOf E))
def pg_R_release : List xEl := [(0, .aload_n 0, 1, xs_al 0), (1, .getfield 22, 3, xs_gf 1 3), (4, .ifCond .le 53, 3, xs_if (fun x => x ≤ 0) 57), (7, .aload_n 0, 1, xs_al 0), (8, .getfield 15, 3, xs_gf 1 2), (11, .aload_n 0, 1, xs_al 0), (12, .getfield 22, 3, xs_gf 1 3), (15, .iconst 1, 1, xs_push (.int 1)), (16, .isub, 1, xs_b2 (fun x y => x - y)), (17, .iaload, 1, xs_iald), (18, .invokestatic 78, 3, xs_call false 0 0 0 0 none 1 C_R_rankOf), (21, .iload_n 1, 1, xs_il 1), (22, .if_icmp .lt 35, 3, xs_ic (fun x y => x < y) 57), (25, .aload_n 0, 1, xs_al 0), (26, .sipush 20000, 3, xs_push (.int 20000)), (29, .aload_n 0, 1, xs_al 0), (30, .getfield 15, 3, xs_gf 1 2), (33, .aload_n 0, 1, xs_al 0), (34, .getfield 22, 3, xs_gf 1 3), (37, .iconst 1, 1, xs_push (.int 1)), (38, .isub, 1, xs_b2 (fun x y => x - y)), (39, .iaload, 1, xs_iald), (40, .iadd, 1, xs_b2 (fun x y => x + y)), (41, .invokevirtual 59, 3, xs_call false 0 0 0 0 (some 1) 2 C_R_emit), (44, .aload_n 0, 1, xs_al 0), (45, .dup, 1, xs_dup), (46, .getfield 22, 3, xs_gf 1 3), (49, .iconst 1, 1, xs_push (.int 1)), (50, .isub, 1, xs_b2 (fun x y => x - y)), (51, .putfield 22, 3, xs_pf false 1 3), (54, .goto (-54), 3, xs_goto 0), (57, .return_, 1, xs_ret)]
def C_R_release : xPT := xM 2 pg_R_release
set_option maxRecDepth 20000 in
theorem ko_R_release (E : xE) : xOks E (xR 2 0 0) "HomeCalls$Reader" prog_3_method_10_code 2 none false pg_R_release :=
  .intro (ok_aload_n 0 rfl) (.intro (ok_gf 1 (T := TX1) (N := 7) rfl inX1 (Nat.le_of_ble_eq_true rfl) wm_132) (.intro (ok_if_le 4 rfl) (.intro (ok_aload_n 7 rfl) (.intro (ok_gf 8 (T := TX1) (N := 7) rfl inX1 (Nat.le_of_ble_eq_true rfl) wm_131) (.intro (ok_aload_n 11 rfl) (.intro (ok_gf 12 (T := TX1) (N := 7) rfl inX1 (Nat.le_of_ble_eq_true rfl) wm_132) (.intro (ok_iconst 15 rfl) (.intro (ok_isub 16) (.intro (ok_iald 17) (.intro (ok_core 18 (run_S 18 snd_R_rankOf wm_354 wm_355 wm_4 wm_356 hd_R_rankOf.2 ⟨Nat.le_of_ble_eq_true rfl, Nat.le_of_ble_eq_true rfl⟩) ⟨Nat.le_of_ble_eq_true rfl, Nat.le_of_ble_eq_true rfl⟩) (.intro (ok_iload_n 21 rfl) (.intro (ok_ic_lt 22 rfl) (.intro (ok_aload_n 25 rfl) (.intro (ok_sipush 26 rfl) (.intro (ok_aload_n 29 rfl) (.intro (ok_gf 30 (T := TX1) (N := 7) rfl inX1 (Nat.le_of_ble_eq_true rfl) wm_131) (.intro (ok_aload_n 33 rfl) (.intro (ok_gf 34 (T := TX1) (N := 7) rfl inX1 (Nat.le_of_ble_eq_true rfl) wm_132) (.intro (ok_iconst 37 rfl) (.intro (ok_isub 38) (.intro (ok_iald 39) (.intro (ok_iadd 40) (.intro (ok_core 41 (run_V 41 (T := TX1) (N := 7) snd_R_emit rfl wm_324 wm_326 wp_4 wm_4 wm_327 hd_R_emit ⟨Nat.le_of_ble_eq_true rfl, Nat.le_of_ble_eq_true rfl⟩) ⟨Nat.le_of_ble_eq_true rfl, Nat.le_of_ble_eq_true rfl⟩) (.intro (ok_aload_n 44 rfl) (.intro (ok_dup 45) (.intro (ok_gf 46 (T := TX1) (N := 7) rfl inX1 (Nat.le_of_ble_eq_true rfl) wm_132) (.intro (ok_iconst 49 rfl) (.intro (ok_isub 50) (.intro (ok_pf 51 (T := TX1) (N := 7) rfl inX1 tyX1_ok nmX1 (Nat.le_of_ble_eq_true rfl) wm_132 rfl rfl) (.intro (ok_goto 54 rfl) (.intro (ok_ret 57 rfl) trivial)))))))))))))))))))))))))))))))
theorem snd_R_release : xSnd y_R_release prog_3_method_10_code 2 none 2 0 0 C_R_release := xSnd_of (init := false) (by decide +kernel) (by decide +kernel) (by decide +kernel) (fun h => by cases h) (fun E => xOks_all (ko_R_release E))
def pg_R_closeRound : List xEl := [(0, .aload_n 0, 1, xs_al 0), (1, .iconst 1, 1, xs_push (.int 1)), (2, .invokevirtual 82, 3, xs_call false 0 0 0 0 (some 1) 2 C_R_release), (5, .aload_n 0, 1, xs_al 0), (6, .getfield 22, 3, xs_gf 1 3), (9, .ifCond .ne 5, 3, xs_ifn (fun x => x = 0) 14), (12, .iconst 0, 1, xs_push (.int 0)), (13, .ireturn, 1, xs_iret true), (14, .aload_n 0, 1, xs_al 0), (15, .dup, 1, xs_dup), (16, .getfield 22, 3, xs_gf 1 3), (19, .iconst 1, 1, xs_push (.int 1)), (20, .isub, 1, xs_b2 (fun x y => x - y)), (21, .putfield 22, 3, xs_pf false 1 3), (24, .aload_n 0, 1, xs_al 0), (25, .dup, 1, xs_dup), (26, .getfield 25, 3, xs_gf 1 4), (29, .iconst 1, 1, xs_push (.int 1)), (30, .isub, 1, xs_b2 (fun x y => x - y)), (31, .putfield 25, 3, xs_pf false 1 4), (34, .iconst 1, 1, xs_push (.int 1)), (35, .ireturn, 1, xs_iret true)]
def C_R_closeRound : xPT := xM 1 pg_R_closeRound
set_option maxRecDepth 20000 in
theorem ko_R_closeRound (E : xE) : xOks E (xR 3 0 0) "HomeCalls$Reader" prog_3_method_7_code 1 (some FieldType.boolean) false pg_R_closeRound :=
  .intro (ok_aload_n 0 rfl) (.intro (ok_iconst 1 rfl) (.intro (ok_core 2 (run_V 2 (T := TX1) (N := 7) snd_R_release rfl wm_350 wm_352 wp_10 wm_4 wm_353 hd_R_release ⟨Nat.le_of_ble_eq_true rfl, Nat.le_of_ble_eq_true rfl⟩) ⟨Nat.le_of_ble_eq_true rfl, Nat.le_of_ble_eq_true rfl⟩) (.intro (ok_aload_n 5 rfl) (.intro (ok_gf 6 (T := TX1) (N := 7) rfl inX1 (Nat.le_of_ble_eq_true rfl) wm_132) (.intro (ok_if_ne 9 rfl) (.intro (ok_iconst 12 rfl) (.intro (ok_iret 13 rfl) (.intro (ok_aload_n 14 rfl) (.intro (ok_dup 15) (.intro (ok_gf 16 (T := TX1) (N := 7) rfl inX1 (Nat.le_of_ble_eq_true rfl) wm_132) (.intro (ok_iconst 19 rfl) (.intro (ok_isub 20) (.intro (ok_pf 21 (T := TX1) (N := 7) rfl inX1 tyX1_ok nmX1 (Nat.le_of_ble_eq_true rfl) wm_132 rfl rfl) (.intro (ok_aload_n 24 rfl) (.intro (ok_dup 25) (.intro (ok_gf 26 (T := TX1) (N := 7) rfl inX1 (Nat.le_of_ble_eq_true rfl) wm_133) (.intro (ok_iconst 29 rfl) (.intro (ok_isub 30) (.intro (ok_pf 31 (T := TX1) (N := 7) rfl inX1 tyX1_ok nmX1 (Nat.le_of_ble_eq_true rfl) wm_133 rfl rfl) (.intro (ok_iconst 34 rfl) (.intro (ok_iret 35 rfl) trivial)))))))))))))))))))))
theorem snd_R_closeRound : xSnd y_R_closeRound prog_3_method_7_code 1 (some FieldType.boolean) 3 0 0 C_R_closeRound := xSnd_of (init := false) (by decide +kernel) (by decide +kernel) (by decide +kernel) (fun h => by cases h) (fun E => xOks_all (ko_R_closeRound E))
def pg_R_readNext : List xEl := [(0, .aload_n 0, 1, xs_al 0), (1, .invokevirtual 72, 3, xs_call false 0 0 0 0 (some 1) 1 C_R_closeNots), (4, .iload_n 1, 1, xs_il 1), (5, .bipush 41, 2, xs_push (.int 41)), (7, .if_icmp .ne 8, 3, xs_icn (fun x y => x = y) 15), (10, .aload_n 0, 1, xs_al 0), (11, .invokevirtual 75, 3, xs_call false 0 0 0 0 (some 1) 1 C_R_closeRound), (14, .ireturn, 1, xs_iret true), (15, .iload_n 1, 1, xs_il 1), (16, .invokestatic 78, 3, xs_call false 0 0 0 0 none 1 C_R_rankOf), (19, .istore_n 2, 1, xs_is 2), (20, .iload_n 2, 1, xs_il 2), (21, .iconst 1, 1, xs_push (.int 1)), (22, .if_icmp .ge 5, 3, xs_ic (fun x y => y ≤ x) 27), (25, .iconst 0, 1, xs_push (.int 0)), (26, .ireturn, 1, xs_iret true), (27, .iload_n 2, 1, xs_il 2), (28, .iconst 3, 1, xs_push (.int 3)), (29, .if_icmp .ne 37, 3, xs_icn (fun x y => x = y) 66), (32, .aload_n 0, 1, xs_al 0), (33, .iload_n 2, 1, xs_il 2), (34, .iconst 1, 1, xs_push (.int 1)), (35, .iadd, 1, xs_b2 (fun x y => x + y)), (36, .invokevirtual 82, 3, xs_call false 0 0 0 0 (some 1) 2 C_R_release), (39, .aload_n 0, 1, xs_al 0), (40, .getfield 22, 3, xs_gf 1 3), (43, .ifCond .le 28, 3, xs_if (fun x => x ≤ 0) 71), (46, .aload_n 0, 1, xs_al 0), (47, .getfield 15, 3, xs_gf 1 2), (50, .aload_n 0, 1, xs_al 0), (51, .getfield 22, 3, xs_gf 1 3), (54, .iconst 1, 1, xs_push (.int 1)), (55, .isub, 1, xs_b2 (fun x y => x - y)), (56, .iaload, 1, xs_iald), (57, .invokestatic 78, 3, xs_call false 0 0 0 0 none 1 C_R_rankOf), (60, .iconst 3, 1, xs_push (.int 3)), (61, .if_icmp .ne 10, 3, xs_icn (fun x y => x = y) 71), (64, .iconst 0, 1, xs_push (.int 0)), (65, .ireturn, 1, xs_iret true), (66, .aload_n 0, 1, xs_al 0), (67, .iload_n 2, 1, xs_il 2), (68, .invokevirtual 82, 3, xs_call false 0 0 0 0 (some 1) 2 C_R_release), (71, .aload_n 0, 1, xs_al 0), (72, .iload_n 1, 1, xs_il 1), (73, .invokevirtual 69, 3, xs_call false 0 0 0 0 (some 1) 2 C_R_hold), (76, .aload_n 0, 1, xs_al 0), (77, .iconst 1, 1, xs_push (.int 1)), (78, .putfield 31, 3, xs_pf true 1 6), (81, .iconst 1, 1, xs_push (.int 1)), (82, .ireturn, 1, xs_iret true)]
def C_R_readNext : xPT := xM 3 pg_R_readNext
set_option maxRecDepth 20000 in
theorem ko_R_readNext_1 (E : xE) : xOks E (xR 4 0 0) "HomeCalls$Reader" prog_3_method_6_code 3 (some FieldType.boolean) false (List.drop 40 pg_R_readNext) :=
  .intro (ok_iload_n 67 rfl) (.intro (ok_core 68 (run_V 68 (T := TX1) (N := 7) snd_R_release rfl wm_350 wm_352 wp_10 wm_4 wm_353 hd_R_release ⟨Nat.le_of_ble_eq_true rfl, Nat.le_of_ble_eq_true rfl⟩) ⟨Nat.le_of_ble_eq_true rfl, Nat.le_of_ble_eq_true rfl⟩) (.intro (ok_aload_n 71 rfl) (.intro (ok_iload_n 72 rfl) (.intro (ok_core 73 (run_V 73 (T := TX1) (N := 7) snd_R_hold rfl wm_334 wm_336 wp_6 wm_4 wm_337 hd_R_hold ⟨Nat.le_of_ble_eq_true rfl, Nat.le_of_ble_eq_true rfl⟩) ⟨Nat.le_of_ble_eq_true rfl, Nat.le_of_ble_eq_true rfl⟩) (.intro (ok_aload_n 76 rfl) (.intro (ok_iconst 77 rfl) (.intro (ok_pf 78 (T := TX1) (N := 7) rfl inX1 tyX1_ok nmX1 (Nat.le_of_ble_eq_true rfl) wm_135 rfl rfl) (.intro (ok_iconst 81 rfl) (.intro (ok_iret 82 rfl) trivial)))))))))
set_option maxRecDepth 20000 in
theorem ko_R_readNext (E : xE) : xOks E (xR 4 0 0) "HomeCalls$Reader" prog_3_method_6_code 3 (some FieldType.boolean) false pg_R_readNext :=
  .intro (ok_aload_n 0 rfl) (.intro (ok_core 1 (run_V 1 (T := TX1) (N := 7) snd_R_closeNots rfl wm_342 wm_344 wp_8 wm_4 wm_345 hd_R_closeNots ⟨Nat.le_of_ble_eq_true rfl, Nat.le_of_ble_eq_true rfl⟩) ⟨Nat.le_of_ble_eq_true rfl, Nat.le_of_ble_eq_true rfl⟩) (.intro (ok_iload_n 4 rfl) (.intro (ok_bipush 5 rfl) (.intro (ok_ic_ne 7 rfl) (.intro (ok_aload_n 10 rfl) (.intro (ok_core 11 (run_V 11 (T := TX1) (N := 7) snd_R_closeRound rfl wm_346 wm_348 wp_9 wm_4 wm_349 hd_R_closeRound ⟨Nat.le_of_ble_eq_true rfl, Nat.le_of_ble_eq_true rfl⟩) ⟨Nat.le_of_ble_eq_true rfl, Nat.le_of_ble_eq_true rfl⟩) (.intro (ok_iret 14 rfl) (.intro (ok_iload_n 15 rfl) (.intro (ok_core 16 (run_S 16 snd_R_rankOf wm_354 wm_355 wm_4 wm_356 hd_R_rankOf.2 ⟨Nat.le_of_ble_eq_true rfl, Nat.le_of_ble_eq_true rfl⟩) ⟨Nat.le_of_ble_eq_true rfl, Nat.le_of_ble_eq_true rfl⟩) (.intro (ok_istore_n 19 rfl (Nat.le_of_ble_eq_true rfl)) (.intro (ok_iload_n 20 rfl) (.intro (ok_iconst 21 rfl) (.intro (ok_ic_ge 22 rfl) (.intro (ok_iconst 25 rfl) (.intro (ok_iret 26 rfl) (.intro (ok_iload_n 27 rfl) (.intro (ok_iconst 28 rfl) (.intro (ok_ic_ne 29 rfl) (.intro (ok_aload_n 32 rfl) (.intro (ok_iload_n 33 rfl) (.intro (ok_iconst 34 rfl) (.intro (ok_iadd 35) (.intro (ok_core 36 (run_V 36 (T := TX1) (N := 7) snd_R_release rfl wm_350 wm_352 wp_10 wm_4 wm_353 hd_R_release ⟨Nat.le_of_ble_eq_true rfl, Nat.le_of_ble_eq_true rfl⟩) ⟨Nat.le_of_ble_eq_true rfl, Nat.le_of_ble_eq_true rfl⟩) (.intro (ok_aload_n 39 rfl) (.intro (ok_gf 40 (T := TX1) (N := 7) rfl inX1 (Nat.le_of_ble_eq_true rfl) wm_132) (.intro (ok_if_le 43 rfl) (.intro (ok_aload_n 46 rfl) (.intro (ok_gf 47 (T := TX1) (N := 7) rfl inX1 (Nat.le_of_ble_eq_true rfl) wm_131) (.intro (ok_aload_n 50 rfl) (.intro (ok_gf 51 (T := TX1) (N := 7) rfl inX1 (Nat.le_of_ble_eq_true rfl) wm_132) (.intro (ok_iconst 54 rfl) (.intro (ok_isub 55) (.intro (ok_iald 56) (.intro (ok_core 57 (run_S 57 snd_R_rankOf wm_354 wm_355 wm_4 wm_356 hd_R_rankOf.2 ⟨Nat.le_of_ble_eq_true rfl, Nat.le_of_ble_eq_true rfl⟩) ⟨Nat.le_of_ble_eq_true rfl, Nat.le_of_ble_eq_true rfl⟩) (.intro (ok_iconst 60 rfl) (.intro (ok_ic_ne 61 rfl) (.intro (ok_iconst 64 rfl) (.intro (ok_iret 65 rfl) (.intro (ok_aload_n 66 rfl) ((ko_R_readNext_1 E)))))))))))))))))))))))))))))))))))))))))
theorem snd_R_readNext : xSnd y_R_readNext prog_3_method_6_code 3 (some FieldType.boolean) 4 0 0 C_R_readNext := xSnd_of (init := false) (by decide +kernel) (by decide +kernel) (by decide +kernel) (fun h => by cases h) (fun E => xOks_all (ko_R_readNext E))
def pg_R_goesOn : List xEl := [(0, .iload_n 1, 1, xs_il 1), (1, .bipush 48, 2, xs_push (.int 48)), (3, .if_icmp .lt 18, 3, xs_ic (fun x y => x < y) 21), (6, .iload_n 1, 1, xs_il 1), (7, .bipush 57, 2, xs_push (.int 57)), (9, .if_icmp .gt 12, 3, xs_ic (fun x y => y < x) 21), (12, .aload_n 0, 1, xs_al 0), (13, .iload_n 1, 1, xs_il 1), (14, .bipush 48, 2, xs_push (.int 48)), (16, .isub, 1, xs_b2 (fun x y => x - y)), (17, .invokevirtual 49, 3, xs_call false 0 0 0 0 (some 1) 2 C_R_readDigit), (20, .ireturn, 1, xs_iret true), (21, .aload_n 0, 1, xs_al 0), (22, .iconst 0, 1, xs_push (.int 0)), (23, .putfield 28, 3, xs_pf false 1 5), (26, .aload_n 0, 1, xs_al 0), (27, .getfield 31, 3, xs_gf 1 6), (30, .ifCond .eq 12, 3, xs_if (fun x => x = 0) 42), (33, .aload_n 0, 1, xs_al 0), (34, .iload_n 1, 1, xs_il 1), (35, .iload_n 2, 1, xs_il 2), (36, .invokevirtual 53, 3, xs_call false 0 0 0 0 (some 1) 3 C_R_readStart), (39, .goto 8, 3, xs_goto 47), (42, .aload_n 0, 1, xs_al 0), (43, .iload_n 1, 1, xs_il 1), (44, .invokevirtual 56, 3, xs_call false 0 0 0 0 (some 1) 2 C_R_readNext), (47, .ireturn, 1, xs_iret true)]
def C_R_goesOn : xPT := xM 3 pg_R_goesOn
set_option maxRecDepth 20000 in
theorem ko_R_goesOn (E : xE) : xOks E (xR 5 0 0) "HomeCalls$Reader" prog_3_method_3_code 3 (some FieldType.boolean) false pg_R_goesOn :=
  .intro (ok_iload_n 0 rfl) (.intro (ok_bipush 1 rfl) (.intro (ok_ic_lt 3 rfl) (.intro (ok_iload_n 6 rfl) (.intro (ok_bipush 7 rfl) (.intro (ok_ic_gt 9 rfl) (.intro (ok_aload_n 12 rfl) (.intro (ok_iload_n 13 rfl) (.intro (ok_bipush 14 rfl) (.intro (ok_isub 16) (.intro (ok_core 17 (run_V 17 (T := TX1) (N := 7) snd_R_readDigit rfl wm_320 wm_322 wp_3 wm_4 wm_323 hd_R_readDigit ⟨Nat.le_of_ble_eq_true rfl, Nat.le_of_ble_eq_true rfl⟩) ⟨Nat.le_of_ble_eq_true rfl, Nat.le_of_ble_eq_true rfl⟩) (.intro (ok_iret 20 rfl) (.intro (ok_aload_n 21 rfl) (.intro (ok_iconst 22 rfl) (.intro (ok_pf 23 (T := TX1) (N := 7) rfl inX1 tyX1_ok nmX1 (Nat.le_of_ble_eq_true rfl) wm_134 rfl rfl) (.intro (ok_aload_n 26 rfl) (.intro (ok_gf 27 (T := TX1) (N := 7) rfl inX1 (Nat.le_of_ble_eq_true rfl) wm_135) (.intro (ok_if_eq 30 rfl) (.intro (ok_aload_n 33 rfl) (.intro (ok_iload_n 34 rfl) (.intro (ok_iload_n 35 rfl) (.intro (ok_core 36 (run_V 36 (T := TX1) (N := 7) snd_R_readStart rfl wm_328 wm_330 wp_5 wm_4 wm_331 hd_R_readStart ⟨Nat.le_of_ble_eq_true rfl, Nat.le_of_ble_eq_true rfl⟩) ⟨Nat.le_of_ble_eq_true rfl, Nat.le_of_ble_eq_true rfl⟩) (.intro (ok_goto 39 rfl) (.intro (ok_aload_n 42 rfl) (.intro (ok_iload_n 43 rfl) (.intro (ok_core 44 (run_V 44 (T := TX1) (N := 7) snd_R_readNext rfl wm_338 wm_340 wp_7 wm_4 wm_341 hd_R_readNext ⟨Nat.le_of_ble_eq_true rfl, Nat.le_of_ble_eq_true rfl⟩) ⟨Nat.le_of_ble_eq_true rfl, Nat.le_of_ble_eq_true rfl⟩) (.intro (ok_iret 47 rfl) trivial))))))))))))))))))))))))))
theorem snd_R_goesOn : xSnd y_R_goesOn prog_3_method_3_code 3 (some FieldType.boolean) 5 0 0 C_R_goesOn := xSnd_of (init := false) (by decide +kernel) (by decide +kernel) (by decide +kernel) (fun h => by cases h) (fun E => xOks_all (ko_R_goesOn E))
def pg_R_isWhole : List xEl := [(0, .aload_n 0, 1, xs_al 0), (1, .getfield 31, 3, xs_gf 1 6), (4, .ifCond .eq 5, 3, xs_if (fun x => x = 0) 9), (7, .iconst 0, 1, xs_push (.int 0)), (8, .ireturn, 1, xs_iret true), (9, .aload_n 0, 1, xs_al 0), (10, .invokevirtual 72, 3, xs_call false 0 0 0 0 (some 1) 1 C_R_closeNots), (13, .aload_n 0, 1, xs_al 0), (14, .iconst 1, 1, xs_push (.int 1)), (15, .invokevirtual 82, 3, xs_call false 0 0 0 0 (some 1) 2 C_R_release), (18, .aload_n 0, 1, xs_al 0), (19, .getfield 22, 3, xs_gf 1 3), (22, .ifCond .ne 7, 3, xs_ifn (fun x => x = 0) 29), (25, .iconst 1, 1, xs_push (.int 1)), (26, .goto 4, 3, xs_goto 30), (29, .iconst 0, 1, xs_push (.int 0)), (30, .ireturn, 1, xs_iret true)]
def C_R_isWhole : xPT := xM 1 pg_R_isWhole
set_option maxRecDepth 20000 in
theorem ko_R_isWhole (E : xE) : xOks E (xR 3 0 0) "HomeCalls$Reader" prog_3_method_8_code 1 (some FieldType.boolean) false pg_R_isWhole :=
  .intro (ok_aload_n 0 rfl) (.intro (ok_gf 1 (T := TX1) (N := 7) rfl inX1 (Nat.le_of_ble_eq_true rfl) wm_135) (.intro (ok_if_eq 4 rfl) (.intro (ok_iconst 7 rfl) (.intro (ok_iret 8 rfl) (.intro (ok_aload_n 9 rfl) (.intro (ok_core 10 (run_V 10 (T := TX1) (N := 7) snd_R_closeNots rfl wm_342 wm_344 wp_8 wm_4 wm_345 hd_R_closeNots ⟨Nat.le_of_ble_eq_true rfl, Nat.le_of_ble_eq_true rfl⟩) ⟨Nat.le_of_ble_eq_true rfl, Nat.le_of_ble_eq_true rfl⟩) (.intro (ok_aload_n 13 rfl) (.intro (ok_iconst 14 rfl) (.intro (ok_core 15 (run_V 15 (T := TX1) (N := 7) snd_R_release rfl wm_350 wm_352 wp_10 wm_4 wm_353 hd_R_release ⟨Nat.le_of_ble_eq_true rfl, Nat.le_of_ble_eq_true rfl⟩) ⟨Nat.le_of_ble_eq_true rfl, Nat.le_of_ble_eq_true rfl⟩) (.intro (ok_aload_n 18 rfl) (.intro (ok_gf 19 (T := TX1) (N := 7) rfl inX1 (Nat.le_of_ble_eq_true rfl) wm_132) (.intro (ok_if_ne 22 rfl) (.intro (ok_iconst 25 rfl) (.intro (ok_goto 26 rfl) (.intro (ok_iconst 29 rfl) (.intro (ok_iret 30 rfl) trivial))))))))))))))))
theorem snd_R_isWhole : xSnd y_R_isWhole prog_3_method_8_code 1 (some FieldType.boolean) 3 0 0 C_R_isWhole := xSnd_of (init := false) (by decide +kernel) (by decide +kernel) (by decide +kernel) (fun h => by cases h) (fun E => xOks_all (ko_R_isWhole E))
def pg_R_faultOf : List xEl := [(0, .aload_n 0, 1, xs_al 0), (1, .iconst 0, 1, xs_push (.int 0)), (2, .putfield 18, 3, xs_pf false 1 1), (5, .aload_n 0, 1, xs_al 0), (6, .iconst 0, 1, xs_push (.int 0)), (7, .putfield 22, 3, xs_pf false 1 3), (10, .aload_n 0, 1, xs_al 0), (11, .iconst 0, 1, xs_push (.int 0)), (12, .putfield 25, 3, xs_pf false 1 4), (15, .aload_n 0, 1, xs_al 0), (16, .iconst 0, 1, xs_push (.int 0)), (17, .putfield 28, 3, xs_pf false 1 5), (20, .aload_n 0, 1, xs_al 0), (21, .iconst 1, 1, xs_push (.int 1)), (22, .putfield 31, 3, xs_pf true 1 6), (25, .iload_n 2, 1, xs_il 2), (26, .aload_n 1, 1, xs_al 1), (27, .arraylength, 1, xs_alen), (28, .invokestatic 35, 3, xs_call false 0 0 0 0 none 2 C_A_min), (31, .istore 4, 2, xs_is 4), (33, .iconst 0, 1, xs_push (.int 0)), (34, .istore 5, 2, xs_is 5), (36, .iload 5, 2, xs_il 5), (38, .iload 4, 2, xs_il 4), (40, .if_icmp .ge 24, 3, xs_ic (fun x y => y ≤ x) 64), (43, .aload_n 0, 1, xs_al 0), (44, .aload_n 1, 1, xs_al 1), (45, .iload 5, 2, xs_il 5), (47, .iaload, 1, xs_iald), (48, .iload_n 3, 1, xs_il 3), (49, .invokevirtual 41, 3, xs_call false 0 0 0 0 (some 1) 3 C_R_goesOn), (52, .ifCond .ne 6, 3, xs_ifn (fun x => x = 0) 58), (55, .iload 5, 2, xs_il 5), (57, .ireturn, 1, xs_iret false), (58, .iinc 5 1, 3, xs_iinc 5 1), (61, .goto (-25), 3, xs_goto 36), (64, .aload_n 0, 1, xs_al 0), (65, .invokevirtual 45, 3, xs_call false 0 0 0 0 (some 1) 1 C_R_isWhole), (68, .ifCond .eq 7, 3, xs_if (fun x => x = 0) 75), (71, .iconst (-1), 1, xs_push (.int (-1))), (72, .goto 5, 3, xs_goto 77), (75, .iload 4, 2, xs_il 4), (77, .ireturn, 1, xs_iret false)]
def C_R_faultOf : xPT := xM 6 pg_R_faultOf
set_option maxRecDepth 20000 in
theorem ko_R_faultOf_1 (E : xE) : xOks E (xR 6 0 0) "HomeCalls$Reader" prog_3_method_2_code 6 (some FieldType.int) false (List.drop 40 pg_R_faultOf) :=
  .intro (ok_goto 72 rfl) (.intro (ok_iload 75) (.intro (ok_iret 77 rfl) trivial))
set_option maxRecDepth 20000 in
theorem ko_R_faultOf (E : xE) : xOks E (xR 6 0 0) "HomeCalls$Reader" prog_3_method_2_code 6 (some FieldType.int) false pg_R_faultOf :=
  .intro (ok_aload_n 0 rfl) (.intro (ok_iconst 1 rfl) (.intro (ok_pf 2 (T := TX1) (N := 7) rfl inX1 tyX1_ok nmX1 (Nat.le_of_ble_eq_true rfl) wm_129 rfl rfl) (.intro (ok_aload_n 5 rfl) (.intro (ok_iconst 6 rfl) (.intro (ok_pf 7 (T := TX1) (N := 7) rfl inX1 tyX1_ok nmX1 (Nat.le_of_ble_eq_true rfl) wm_132 rfl rfl) (.intro (ok_aload_n 10 rfl) (.intro (ok_iconst 11 rfl) (.intro (ok_pf 12 (T := TX1) (N := 7) rfl inX1 tyX1_ok nmX1 (Nat.le_of_ble_eq_true rfl) wm_133 rfl rfl) (.intro (ok_aload_n 15 rfl) (.intro (ok_iconst 16 rfl) (.intro (ok_pf 17 (T := TX1) (N := 7) rfl inX1 tyX1_ok nmX1 (Nat.le_of_ble_eq_true rfl) wm_134 rfl rfl) (.intro (ok_aload_n 20 rfl) (.intro (ok_iconst 21 rfl) (.intro (ok_pf 22 (T := TX1) (N := 7) rfl inX1 tyX1_ok nmX1 (Nat.le_of_ble_eq_true rfl) wm_135 rfl rfl) (.intro (ok_iload_n 25 rfl) (.intro (ok_aload_n 26 rfl) (.intro (ok_alen 27) (.intro (ok_core 28 (run_S 28 snd_A_min wm_313 wm_314 wm_8 wm_315 hd_A_min.2 ⟨Nat.le_of_ble_eq_true rfl, Nat.le_of_ble_eq_true rfl⟩) ⟨Nat.le_of_ble_eq_true rfl, Nat.le_of_ble_eq_true rfl⟩) (.intro (ok_istore 31 (Nat.le_of_ble_eq_true rfl)) (.intro (ok_iconst 33 rfl) (.intro (ok_istore 34 (Nat.le_of_ble_eq_true rfl)) (.intro (ok_iload 36) (.intro (ok_iload 38) (.intro (ok_ic_ge 40 rfl) (.intro (ok_aload_n 43 rfl) (.intro (ok_aload_n 44 rfl) (.intro (ok_iload 45) (.intro (ok_iald 47) (.intro (ok_iload_n 48 rfl) (.intro (ok_core 49 (run_V 49 (T := TX1) (N := 7) snd_R_goesOn rfl wm_316 wm_318 wp_2 wm_4 wm_319 hd_R_goesOn ⟨Nat.le_of_ble_eq_true rfl, Nat.le_of_ble_eq_true rfl⟩) ⟨Nat.le_of_ble_eq_true rfl, Nat.le_of_ble_eq_true rfl⟩) (.intro (ok_if_ne 52 rfl) (.intro (ok_iload 55) (.intro (ok_iret 57 rfl) (.intro (ok_iinc 58 rfl (Nat.le_of_ble_eq_true rfl)) (.intro (ok_goto 61 rfl) (.intro (ok_aload_n 64 rfl) (.intro (ok_core 65 (run_V 65 (T := TX1) (N := 7) snd_R_isWhole rfl wm_357 wm_359 wp_11 wm_4 wm_360 hd_R_isWhole ⟨Nat.le_of_ble_eq_true rfl, Nat.le_of_ble_eq_true rfl⟩) ⟨Nat.le_of_ble_eq_true rfl, Nat.le_of_ble_eq_true rfl⟩) (.intro (ok_if_eq 68 rfl) (.intro (ok_iconst 71 rfl) ((ko_R_faultOf_1 E)))))))))))))))))))))))))))))))))))))))))
theorem snd_R_faultOf : xSnd y_R_faultOf prog_3_method_2_code 6 (some FieldType.int) 6 0 0 C_R_faultOf := xSnd_of (init := false) (by decide +kernel) (by decide +kernel) (by decide +kernel) (fun h => by cases h) (fun E => xOks_all (ko_R_faultOf E))
def pg_L_adopt : List xEl := [(0, .aload_n 0, 1, xs_al 0), (1, .iload_n 2, 1, xs_il 2), (2, .aload_n 1, 1, xs_al 1), (3, .arraylength, 1, xs_alen), (4, .aload_n 0, 1, xs_al 0), (5, .getfield 9, 3, xs_gf 0 0), (8, .arraylength, 1, xs_alen), (9, .invokestatic 18, 3, xs_call false 0 0 0 0 none 2 C_A_min), (12, .invokestatic 18, 3, xs_call false 0 0 0 0 none 2 C_A_min), (15, .putfield 24, 3, xs_pf false 0 1), (18, .aload_n 1, 1, xs_al 1), (19, .iconst 0, 1, xs_push (.int 0)), (20, .aload_n 0, 1, xs_al 0), (21, .getfield 9, 3, xs_gf 0 0), (24, .iconst 0, 1, xs_push (.int 0)), (25, .aload_n 0, 1, xs_al 0), (26, .getfield 24, 3, xs_gf 0 1), (29, .invokestatic 28, 3, xs_acopy), (32, .return_, 1, xs_ret)]
def C_L_adopt : xPT := xM 3 pg_L_adopt
set_option maxRecDepth 20000 in
theorem ko_L_adopt (E : xE) : xOks E (xR 2 0 0) "HomeCalls$Law" prog_2_method_2_code 3 none false pg_L_adopt :=
  .intro (ok_aload_n 0 rfl) (.intro (ok_iload_n 1 rfl) (.intro (ok_aload_n 2 rfl) (.intro (ok_alen 3) (.intro (ok_aload_n 4 rfl) (.intro (ok_gf 5 (T := TX0) (N := 4) rfl inX0 (Nat.le_of_ble_eq_true rfl) wm_33) (.intro (ok_alen 8) (.intro (ok_core 9 (run_S 9 snd_A_min wm_365 wm_314 wm_8 wm_315 hd_A_min.2 ⟨Nat.le_of_ble_eq_true rfl, Nat.le_of_ble_eq_true rfl⟩) ⟨Nat.le_of_ble_eq_true rfl, Nat.le_of_ble_eq_true rfl⟩) (.intro (ok_core 12 (run_S 12 snd_A_min wm_365 wm_314 wm_8 wm_315 hd_A_min.2 ⟨Nat.le_of_ble_eq_true rfl, Nat.le_of_ble_eq_true rfl⟩) ⟨Nat.le_of_ble_eq_true rfl, Nat.le_of_ble_eq_true rfl⟩) (.intro (ok_pf 15 (T := TX0) (N := 4) rfl inX0 tyX0_ok nmX0 (Nat.le_of_ble_eq_true rfl) wm_35 rfl rfl) (.intro (ok_aload_n 18 rfl) (.intro (ok_iconst 19 rfl) (.intro (ok_aload_n 20 rfl) (.intro (ok_gf 21 (T := TX0) (N := 4) rfl inX0 (Nat.le_of_ble_eq_true rfl) wm_33) (.intro (ok_iconst 24 rfl) (.intro (ok_aload_n 25 rfl) (.intro (ok_gf 26 (T := TX0) (N := 4) rfl inX0 (Nat.le_of_ble_eq_true rfl) wm_35) (.intro (ok_acopy 29 wm_366 wm_368 wm_367 wm_9 ⟨Nat.le_of_ble_eq_true rfl, Nat.le_of_ble_eq_true rfl⟩) (.intro (ok_ret 32 rfl) trivial))))))))))))))))))
theorem snd_L_adopt : xSnd y_L_adopt prog_2_method_2_code 3 none 2 0 0 C_L_adopt := xSnd_of (init := false) (by decide +kernel) (by decide +kernel) (by decide +kernel) (fun h => by cases h) (fun E => xOks_all (ko_L_adopt E))
def pg_H_text : List xEl := [(0, .iload_n 1, 1, xs_il 1), (1, .iconst 2, 1, xs_push (.int 2)), (2, .invokestatic 47, 3, xs_call false 0 0 0 0 none 2 C_H_isBelow), (5, .ifCond .ne 9, 3, xs_ifn (fun x => x = 0) 14), (8, .aload_n 0, 1, xs_al 0), (9, .iconst 1, 1, xs_push (.int 1)), (10, .invokevirtual 51, 3, xs_call false 0 0 0 0 (some 5) 2 C_H_error), (13, .ireturn, 1, xs_iret false), (14, .aload_n 0, 1, xs_al 0), (15, .getfield 25, 3, xs_gf 5 3), (18, .aload_n 0, 1, xs_al 0), (19, .getfield 10, 3, xs_gf 5 0), (22, .getfield 118, 3, xs_gf 4 13), (25, .aload_n 0, 1, xs_al 0), (26, .getfield 10, 3, xs_gf 5 0), (29, .getfield 111, 3, xs_gf 4 14), (32, .iload_n 1, 1, xs_il 1), (33, .invokevirtual 121, 3, xs_call false 0 0 0 0 (some 1) 4 C_R_faultOf), (36, .istore_n 2, 1, xs_is 2), (37, .aload_n 0, 1, xs_al 0), (38, .getfield 10, 3, xs_gf 5 0), (41, .iconst 0, 1, xs_push (.int 0)), (42, .putfield 111, 3, xs_pf false 4 14), (45, .iload_n 2, 1, xs_il 2), (46, .iconst (-1), 1, xs_push (.int (-1))), (47, .if_icmp .eq 8, 3, xs_ic (fun x y => x = y) 55), (50, .bipush (-10), 2, xs_push (.int (-10))), (52, .iload_n 2, 1, xs_il 2), (53, .isub, 1, xs_b2 (fun x y => x - y)), (54, .ireturn, 1, xs_iret false), (55, .aload_n 0, 1, xs_al 0), (56, .getfield 10, 3, xs_gf 5 0), (59, .getfield 124, 3, xs_gf 4 12), (62, .iload_n 1, 1, xs_il 1), (63, .aaload, 1, xs_aald 0), (64, .aload_n 0, 1, xs_al 0), (65, .getfield 25, 3, xs_gf 5 3), (68, .getfield 128, 3, xs_gf 1 0), (71, .aload_n 0, 1, xs_al 0), (72, .getfield 25, 3, xs_gf 5 3), (75, .getfield 131, 3, xs_gf 1 1), (78, .invokevirtual 134, 3, xs_call false 0 0 0 0 (some 0) 3 C_L_adopt), (81, .iconst 1, 1, xs_push (.int 1)), (82, .ireturn, 1, xs_iret false)]
def C_H_text : xPT := xM 3 pg_H_text
set_option maxRecDepth 20000 in
theorem ko_H_text_1 (E : xE) : xOks E (xR 7 0 0) "HomeCalls" prog_1_method_12_code 3 (some FieldType.int) false (List.drop 40 pg_H_text) :=
  .intro (ok_gf 75 (T := TX1) (N := 7) rfl inX1 (Nat.le_of_ble_eq_true rfl) wm_130) (.intro (ok_core 78 (run_V 78 (T := TX0) (N := 4) snd_L_adopt rfl wm_361 wm_362 wm_363 wm_3 wm_364 hd_L_adopt ⟨Nat.le_of_ble_eq_true rfl, Nat.le_of_ble_eq_true rfl⟩) ⟨Nat.le_of_ble_eq_true rfl, Nat.le_of_ble_eq_true rfl⟩) (.intro (ok_iconst 81 rfl) (.intro (ok_iret 82 rfl) trivial)))
set_option maxRecDepth 20000 in
theorem ko_H_text (E : xE) : xOks E (xR 7 0 0) "HomeCalls" prog_1_method_12_code 3 (some FieldType.int) false pg_H_text :=
  .intro (ok_iload_n 0 rfl) (.intro (ok_iconst 1 rfl) (.intro (ok_core 2 (run_S 2 snd_H_isBelow wm_224 wm_225 wm_1 wm_226 hd_H_isBelow.2 ⟨Nat.le_of_ble_eq_true rfl, Nat.le_of_ble_eq_true rfl⟩) ⟨Nat.le_of_ble_eq_true rfl, Nat.le_of_ble_eq_true rfl⟩) (.intro (ok_if_ne 5 rfl) (.intro (ok_aload_n 8 rfl) (.intro (ok_iconst 9 rfl) (.intro (ok_core 10 (run_V 10 (T := TX5) (N := 8) snd_H_error rfl wm_227 wm_229 wp_0 wm_1 wm_230 hd_H_error ⟨Nat.le_of_ble_eq_true rfl, Nat.le_of_ble_eq_true rfl⟩) ⟨Nat.le_of_ble_eq_true rfl, Nat.le_of_ble_eq_true rfl⟩) (.intro (ok_iret 13 rfl) (.intro (ok_aload_n 14 rfl) (.intro (ok_gf 15 (T := TX5) (N := 8) rfl inX5 (Nat.le_of_ble_eq_true rfl) wm_198) (.intro (ok_aload_n 18 rfl) (.intro (ok_gf 19 (T := TX5) (N := 8) rfl inX5 (Nat.le_of_ble_eq_true rfl) wm_195) (.intro (ok_gf 22 (T := TX4) (N := 18) rfl inX4 (Nat.le_of_ble_eq_true rfl) wm_76) (.intro (ok_aload_n 25 rfl) (.intro (ok_gf 26 (T := TX5) (N := 8) rfl inX5 (Nat.le_of_ble_eq_true rfl) wm_195) (.intro (ok_gf 29 (T := TX4) (N := 18) rfl inX4 (Nat.le_of_ble_eq_true rfl) wm_78) (.intro (ok_iload_n 32 rfl) (.intro (ok_core 33 (run_V 33 (T := TX1) (N := 7) snd_R_faultOf rfl wm_309 wm_310 wm_311 wm_4 wm_312 hd_R_faultOf ⟨Nat.le_of_ble_eq_true rfl, Nat.le_of_ble_eq_true rfl⟩) ⟨Nat.le_of_ble_eq_true rfl, Nat.le_of_ble_eq_true rfl⟩) (.intro (ok_istore_n 36 rfl (Nat.le_of_ble_eq_true rfl)) (.intro (ok_aload_n 37 rfl) (.intro (ok_gf 38 (T := TX5) (N := 8) rfl inX5 (Nat.le_of_ble_eq_true rfl) wm_195) (.intro (ok_iconst 41 rfl) (.intro (ok_pf 42 (T := TX4) (N := 18) rfl inX4 tyX4_ok nmX4 (Nat.le_of_ble_eq_true rfl) wm_78 rfl rfl) (.intro (ok_iload_n 45 rfl) (.intro (ok_iconst 46 rfl) (.intro (ok_ic_eq 47 rfl) (.intro (ok_bipush 50 rfl) (.intro (ok_iload_n 52 rfl) (.intro (ok_isub 53) (.intro (ok_iret 54 rfl) (.intro (ok_aload_n 55 rfl) (.intro (ok_gf 56 (T := TX5) (N := 8) rfl inX5 (Nat.le_of_ble_eq_true rfl) wm_195) (.intro (ok_gf 59 (T := TX4) (N := 18) rfl inX4 (Nat.le_of_ble_eq_true rfl) wm_74) (.intro (ok_iload_n 62 rfl) (.intro (ok_aald 63 (Or.inl rfl)) (.intro (ok_aload_n 64 rfl) (.intro (ok_gf 65 (T := TX5) (N := 8) rfl inX5 (Nat.le_of_ble_eq_true rfl) wm_198) (.intro (ok_gf 68 (T := TX1) (N := 7) rfl inX1 (Nat.le_of_ble_eq_true rfl) wm_128) (.intro (ok_aload_n 71 rfl) (.intro (ok_gf 72 (T := TX5) (N := 8) rfl inX5 (Nat.le_of_ble_eq_true rfl) wm_198) ((ko_H_text_1 E)))))))))))))))))))))))))))))))))))))))))
theorem snd_H_text : xSnd y_H_text prog_1_method_12_code 3 (some FieldType.int) 7 0 0 C_H_text := xSnd_of (init := false) (by decide +kernel) (by decide +kernel) (by decide +kernel) (fun h => by cases h) (fun E => xOks_all (ko_H_text E))
end
