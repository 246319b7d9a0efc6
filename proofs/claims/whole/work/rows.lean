section
-- ===== PART A: goes FIRST, ahead of the names: the tables' words, and 'selects' of the private methods out of them =====
/-- a private method of a class that the tables say can be made, by its rows of tables_1 -/
def lw_okq (q : MethodName × Nat) : Prop := (q.1.cls ≠ "java/lang/invoke/MethodHandle" ∧ q.1.cls ≠ "java/lang/invoke/VarHandle") ∧ Cond.instantiable q.1.cls q.2 ∈ tables_1 ∧ Cond.privateMethod q.1 ∈ tables_1 ∧ Cond.instanceMethod q.1 ∈ tables_1
theorem lw_p0 : lw_okq (⟨"HealBench$Graph", "renew", "(II)V"⟩, 6) := ⟨⟨by decide +kernel, by decide +kernel⟩, List.mem_of_getElem? (i := 32) (by decide +kernel), List.mem_of_getElem? (i := 38) (by decide +kernel), List.mem_of_getElem? (i := 39) (by decide +kernel)⟩
theorem lw_p1 : lw_okq (⟨"HealBench$Rules", "clear", "()V"⟩, 5) := ⟨⟨by decide +kernel, by decide +kernel⟩, List.mem_of_getElem? (i := 116) (by decide +kernel), List.mem_of_getElem? (i := 248) (by decide +kernel), List.mem_of_getElem? (i := 249) (by decide +kernel)⟩
theorem lw_p2 : lw_okq (⟨"HealBench$Rules", "aimAt", "(ILHealBench$Test;)V"⟩, 5) := ⟨⟨by decide +kernel, by decide +kernel⟩, List.mem_of_getElem? (i := 116) (by decide +kernel), List.mem_of_getElem? (i := 252) (by decide +kernel), List.mem_of_getElem? (i := 253) (by decide +kernel)⟩
theorem lw_p3 : lw_okq (⟨"HealBench$Search", "forgetMoves", "()V"⟩, 18) := ⟨⟨by decide +kernel, by decide +kernel⟩, List.mem_of_getElem? (i := 143) (by decide +kernel), List.mem_of_getElem? (i := 256) (by decide +kernel), List.mem_of_getElem? (i := 257) (by decide +kernel)⟩
theorem lw_p4 : lw_okq (⟨"HealBench", "startCounts", "()V"⟩, 9) := ⟨⟨by decide +kernel, by decide +kernel⟩, List.mem_of_getElem? (i := 24) (by decide +kernel), List.mem_of_getElem? (i := 260) (by decide +kernel), List.mem_of_getElem? (i := 261) (by decide +kernel)⟩
theorem lw_p5 : lw_okq (⟨"HealBench$Graph", "has", "(I)Z"⟩, 6) := ⟨⟨by decide +kernel, by decide +kernel⟩, List.mem_of_getElem? (i := 32) (by decide +kernel), List.mem_of_getElem? (i := 268) (by decide +kernel), List.mem_of_getElem? (i := 269) (by decide +kernel)⟩
theorem lw_p6 : lw_okq (⟨"HealBench$Graph", "linked", "(II)Z"⟩, 6) := ⟨⟨by decide +kernel, by decide +kernel⟩, List.mem_of_getElem? (i := 32) (by decide +kernel), List.mem_of_getElem? (i := 272) (by decide +kernel), List.mem_of_getElem? (i := 273) (by decide +kernel)⟩
theorem lw_p7 : lw_okq (⟨"HealBench$Graph", "link", "(II)V"⟩, 6) := ⟨⟨by decide +kernel, by decide +kernel⟩, List.mem_of_getElem? (i := 32) (by decide +kernel), List.mem_of_getElem? (i := 276) (by decide +kernel), List.mem_of_getElem? (i := 277) (by decide +kernel)⟩
theorem lw_p8 : lw_okq (⟨"HealBench", "takeText", "()LHealBench$Reader;"⟩, 9) := ⟨⟨by decide +kernel, by decide +kernel⟩, List.mem_of_getElem? (i := 24) (by decide +kernel), List.mem_of_getElem? (i := 288) (by decide +kernel), List.mem_of_getElem? (i := 289) (by decide +kernel)⟩
theorem lw_p9 : lw_okq (⟨"HealBench$Reader", "readGuard", "(IZ)LHealBench$Test;"⟩, 3) := ⟨⟨by decide +kernel, by decide +kernel⟩, List.mem_of_getElem? (i := 295) (by decide +kernel), List.mem_of_getElem? (i := 312) (by decide +kernel), List.mem_of_getElem? (i := 313) (by decide +kernel)⟩
theorem lw_p10 : lw_okq (⟨"HealBench$Reader", "readBoth", "(IZ)LHealBench$Test;"⟩, 3) := ⟨⟨by decide +kernel, by decide +kernel⟩, List.mem_of_getElem? (i := 295) (by decide +kernel), List.mem_of_getElem? (i := 316) (by decide +kernel), List.mem_of_getElem? (i := 317) (by decide +kernel)⟩
theorem lw_p11 : lw_okq (⟨"HealBench$Reader", "readTest", "(IZ)LHealBench$Test;"⟩, 3) := ⟨⟨by decide +kernel, by decide +kernel⟩, List.mem_of_getElem? (i := 295) (by decide +kernel), List.mem_of_getElem? (i := 320) (by decide +kernel), List.mem_of_getElem? (i := 321) (by decide +kernel)⟩
theorem lw_p12 : lw_okq (⟨"HealBench$Reader", "take", "(C)Z"⟩, 3) := ⟨⟨by decide +kernel, by decide +kernel⟩, List.mem_of_getElem? (i := 295) (by decide +kernel), List.mem_of_getElem? (i := 324) (by decide +kernel), List.mem_of_getElem? (i := 325) (by decide +kernel)⟩
theorem lw_p13 : lw_okq (⟨"HealBench$Reader", "next", "()C"⟩, 3) := ⟨⟨by decide +kernel, by decide +kernel⟩, List.mem_of_getElem? (i := 295) (by decide +kernel), List.mem_of_getElem? (i := 328) (by decide +kernel), List.mem_of_getElem? (i := 329) (by decide +kernel)⟩
theorem lw_p14 : lw_okq (⟨"HealBench$Reader", "need", "(C)V"⟩, 3) := ⟨⟨by decide +kernel, by decide +kernel⟩, List.mem_of_getElem? (i := 295) (by decide +kernel), List.mem_of_getElem? (i := 346) (by decide +kernel), List.mem_of_getElem? (i := 347) (by decide +kernel)⟩
theorem lw_p15 : lw_okq (⟨"HealBench$Reader", "refuse", "()V"⟩, 3) := ⟨⟨by decide +kernel, by decide +kernel⟩, List.mem_of_getElem? (i := 295) (by decide +kernel), List.mem_of_getElem? (i := 350) (by decide +kernel), List.mem_of_getElem? (i := 351) (by decide +kernel)⟩
def lw_privs_1 : List (MethodName × Nat) := [(⟨"HealBench$Graph", "renew", "(II)V"⟩, 6), (⟨"HealBench$Rules", "clear", "()V"⟩, 5), (⟨"HealBench$Rules", "aimAt", "(ILHealBench$Test;)V"⟩, 5), (⟨"HealBench$Search", "forgetMoves", "()V"⟩, 18), (⟨"HealBench", "startCounts", "()V"⟩, 9), (⟨"HealBench$Graph", "has", "(I)Z"⟩, 6), (⟨"HealBench$Graph", "linked", "(II)Z"⟩, 6), (⟨"HealBench$Graph", "link", "(II)V"⟩, 6), (⟨"HealBench", "takeText", "()LHealBench$Reader;"⟩, 9), (⟨"HealBench$Reader", "readGuard", "(IZ)LHealBench$Test;"⟩, 3), (⟨"HealBench$Reader", "readBoth", "(IZ)LHealBench$Test;"⟩, 3), (⟨"HealBench$Reader", "readTest", "(IZ)LHealBench$Test;"⟩, 3), (⟨"HealBench$Reader", "take", "(C)Z"⟩, 3), (⟨"HealBench$Reader", "next", "()C"⟩, 3), (⟨"HealBench$Reader", "need", "(C)V"⟩, 3), (⟨"HealBench$Reader", "refuse", "()V"⟩, 3)]
theorem lw_r1 : ∀ q ∈ lw_privs_1, lw_okq q := List.forall_mem_cons.mpr ⟨lw_p0, List.forall_mem_cons.mpr ⟨lw_p1, List.forall_mem_cons.mpr ⟨lw_p2, List.forall_mem_cons.mpr ⟨lw_p3, List.forall_mem_cons.mpr ⟨lw_p4, List.forall_mem_cons.mpr ⟨lw_p5, List.forall_mem_cons.mpr ⟨lw_p6, List.forall_mem_cons.mpr ⟨lw_p7, List.forall_mem_cons.mpr ⟨lw_p8, List.forall_mem_cons.mpr ⟨lw_p9, List.forall_mem_cons.mpr ⟨lw_p10, List.forall_mem_cons.mpr ⟨lw_p11, List.forall_mem_cons.mpr ⟨lw_p12, List.forall_mem_cons.mpr ⟨lw_p13, List.forall_mem_cons.mpr ⟨lw_p14, List.forall_mem_cons.mpr ⟨lw_p15, fun _ h => absurd h List.not_mem_nil⟩⟩⟩⟩⟩⟩⟩⟩⟩⟩⟩⟩⟩⟩⟩⟩
theorem lw_p16 : lw_okq (⟨"HealBench$Reader", "readComparison", "(Z)LHealBench$Test;"⟩, 3) := ⟨⟨by decide +kernel, by decide +kernel⟩, List.mem_of_getElem? (i := 295) (by decide +kernel), List.mem_of_getElem? (i := 367) (by decide +kernel), List.mem_of_getElem? (i := 368) (by decide +kernel)⟩
theorem lw_p17 : lw_okq (⟨"HealBench$Reader", "readSum", "(Z)LHealBench$Sum;"⟩, 3) := ⟨⟨by decide +kernel, by decide +kernel⟩, List.mem_of_getElem? (i := 295) (by decide +kernel), List.mem_of_getElem? (i := 371) (by decide +kernel), List.mem_of_getElem? (i := 372) (by decide +kernel)⟩
theorem lw_p18 : lw_okq (⟨"HealBench$Reader", "readPart", "(Z)V"⟩, 3) := ⟨⟨by decide +kernel, by decide +kernel⟩, List.mem_of_getElem? (i := 295) (by decide +kernel), List.mem_of_getElem? (i := 375) (by decide +kernel), List.mem_of_getElem? (i := 376) (by decide +kernel)⟩
theorem lw_p19 : lw_okq (⟨"HealBench$Reader", "needEnd", "()V"⟩, 3) := ⟨⟨by decide +kernel, by decide +kernel⟩, List.mem_of_getElem? (i := 295) (by decide +kernel), List.mem_of_getElem? (i := 521) (by decide +kernel), List.mem_of_getElem? (i := 522) (by decide +kernel)⟩
theorem lw_p20 : lw_okq (⟨"HealBench$Rules", "add", "(LHealBench$Test;LHealBench$Sum;)V"⟩, 5) := ⟨⟨by decide +kernel, by decide +kernel⟩, List.mem_of_getElem? (i := 116) (by decide +kernel), List.mem_of_getElem? (i := 525) (by decide +kernel), List.mem_of_getElem? (i := 526) (by decide +kernel)⟩
theorem lw_p21 : lw_okq (⟨"HealBench$Rules", "removeLast", "()V"⟩, 5) := ⟨⟨by decide +kernel, by decide +kernel⟩, List.mem_of_getElem? (i := 116) (by decide +kernel), List.mem_of_getElem? (i := 533) (by decide +kernel), List.mem_of_getElem? (i := 534) (by decide +kernel)⟩
theorem lw_p22 : lw_okq (⟨"HealBench$Search", "forgetVerdict", "()V"⟩, 18) := ⟨⟨by decide +kernel, by decide +kernel⟩, List.mem_of_getElem? (i := 143) (by decide +kernel), List.mem_of_getElem? (i := 542) (by decide +kernel), List.mem_of_getElem? (i := 543) (by decide +kernel)⟩
theorem lw_p23 : lw_okq (⟨"HealBench$Graph", "digit", "(II)I"⟩, 6) := ⟨⟨by decide +kernel, by decide +kernel⟩, List.mem_of_getElem? (i := 32) (by decide +kernel), List.mem_of_getElem? (i := 554) (by decide +kernel), List.mem_of_getElem? (i := 555) (by decide +kernel)⟩
theorem lw_p24 : lw_okq (⟨"HealBench$View", "load", "(I)V"⟩, 6) := ⟨⟨by decide +kernel, by decide +kernel⟩, List.mem_of_getElem? (i := 80) (by decide +kernel), List.mem_of_getElem? (i := 566) (by decide +kernel), List.mem_of_getElem? (i := 567) (by decide +kernel)⟩
theorem lw_p25 : lw_okq (⟨"HealBench$View", "standAt", "(I)V"⟩, 6) := ⟨⟨by decide +kernel, by decide +kernel⟩, List.mem_of_getElem? (i := 80) (by decide +kernel), List.mem_of_getElem? (i := 571) (by decide +kernel), List.mem_of_getElem? (i := 572) (by decide +kernel)⟩
theorem lw_p26 : lw_okq (⟨"HealBench$Rules", "first", "(LHealBench$View;)I"⟩, 5) := ⟨⟨by decide +kernel, by decide +kernel⟩, List.mem_of_getElem? (i := 116) (by decide +kernel), List.mem_of_getElem? (i := 584) (by decide +kernel), List.mem_of_getElem? (i := 585) (by decide +kernel)⟩
theorem lw_p27 : lw_okq (⟨"HealBench$Sum", "total", "(LHealBench$View;)I"⟩, 4) := ⟨⟨by decide +kernel, by decide +kernel⟩, List.mem_of_getElem? (i := 467) (by decide +kernel), List.mem_of_getElem? (i := 594) (by decide +kernel), List.mem_of_getElem? (i := 595) (by decide +kernel)⟩
theorem lw_p28 : lw_okq (⟨"HealBench$View", "lookAt", "(I)V"⟩, 6) := ⟨⟨by decide +kernel, by decide +kernel⟩, List.mem_of_getElem? (i := 80) (by decide +kernel), List.mem_of_getElem? (i := 605) (by decide +kernel), List.mem_of_getElem? (i := 606) (by decide +kernel)⟩
theorem lw_p29 : lw_okq (⟨"HealBench", "lookAround", "()V"⟩, 9) := ⟨⟨by decide +kernel, by decide +kernel⟩, List.mem_of_getElem? (i := 24) (by decide +kernel), List.mem_of_getElem? (i := 622) (by decide +kernel), List.mem_of_getElem? (i := 623) (by decide +kernel)⟩
theorem lw_p30 : lw_okq (⟨"HealBench$Rules", "findMoves", "(LHealBench$View;)V"⟩, 5) := ⟨⟨by decide +kernel, by decide +kernel⟩, List.mem_of_getElem? (i := 116) (by decide +kernel), List.mem_of_getElem? (i := 626) (by decide +kernel), List.mem_of_getElem? (i := 627) (by decide +kernel)⟩
theorem lw_p31 : lw_okq (⟨"HealBench$Search", "allows", "(II)Z"⟩, 18) := ⟨⟨by decide +kernel, by decide +kernel⟩, List.mem_of_getElem? (i := 143) (by decide +kernel), List.mem_of_getElem? (i := 634) (by decide +kernel), List.mem_of_getElem? (i := 635) (by decide +kernel)⟩
def lw_privs_2 : List (MethodName × Nat) := [(⟨"HealBench$Reader", "readComparison", "(Z)LHealBench$Test;"⟩, 3), (⟨"HealBench$Reader", "readSum", "(Z)LHealBench$Sum;"⟩, 3), (⟨"HealBench$Reader", "readPart", "(Z)V"⟩, 3), (⟨"HealBench$Reader", "needEnd", "()V"⟩, 3), (⟨"HealBench$Rules", "add", "(LHealBench$Test;LHealBench$Sum;)V"⟩, 5), (⟨"HealBench$Rules", "removeLast", "()V"⟩, 5), (⟨"HealBench$Search", "forgetVerdict", "()V"⟩, 18), (⟨"HealBench$Graph", "digit", "(II)I"⟩, 6), (⟨"HealBench$View", "load", "(I)V"⟩, 6), (⟨"HealBench$View", "standAt", "(I)V"⟩, 6), (⟨"HealBench$Rules", "first", "(LHealBench$View;)I"⟩, 5), (⟨"HealBench$Sum", "total", "(LHealBench$View;)I"⟩, 4), (⟨"HealBench$View", "lookAt", "(I)V"⟩, 6), (⟨"HealBench", "lookAround", "()V"⟩, 9), (⟨"HealBench$Rules", "findMoves", "(LHealBench$View;)V"⟩, 5), (⟨"HealBench$Search", "allows", "(II)Z"⟩, 18)]
theorem lw_r2 : ∀ q ∈ lw_privs_2, lw_okq q := List.forall_mem_cons.mpr ⟨lw_p16, List.forall_mem_cons.mpr ⟨lw_p17, List.forall_mem_cons.mpr ⟨lw_p18, List.forall_mem_cons.mpr ⟨lw_p19, List.forall_mem_cons.mpr ⟨lw_p20, List.forall_mem_cons.mpr ⟨lw_p21, List.forall_mem_cons.mpr ⟨lw_p22, List.forall_mem_cons.mpr ⟨lw_p23, List.forall_mem_cons.mpr ⟨lw_p24, List.forall_mem_cons.mpr ⟨lw_p25, List.forall_mem_cons.mpr ⟨lw_p26, List.forall_mem_cons.mpr ⟨lw_p27, List.forall_mem_cons.mpr ⟨lw_p28, List.forall_mem_cons.mpr ⟨lw_p29, List.forall_mem_cons.mpr ⟨lw_p30, List.forall_mem_cons.mpr ⟨lw_p31, fun _ h => absurd h List.not_mem_nil⟩⟩⟩⟩⟩⟩⟩⟩⟩⟩⟩⟩⟩⟩⟩⟩
theorem lw_p32 : lw_okq (⟨"HealBench$Rules", "meetAim", "(LHealBench$View;)Z"⟩, 5) := ⟨⟨by decide +kernel, by decide +kernel⟩, List.mem_of_getElem? (i := 116) (by decide +kernel), List.mem_of_getElem? (i := 643) (by decide +kernel), List.mem_of_getElem? (i := 644) (by decide +kernel)⟩
theorem lw_p33 : lw_okq (⟨"HealBench$Search", "judge", "()V"⟩, 18) := ⟨⟨by decide +kernel, by decide +kernel⟩, List.mem_of_getElem? (i := 143) (by decide +kernel), List.mem_of_getElem? (i := 660) (by decide +kernel), List.mem_of_getElem? (i := 661) (by decide +kernel)⟩
theorem lw_p34 : lw_okq (⟨"HealBench$Search", "findAllMoves", "()V"⟩, 18) := ⟨⟨by decide +kernel, by decide +kernel⟩, List.mem_of_getElem? (i := 143) (by decide +kernel), List.mem_of_getElem? (i := 664) (by decide +kernel), List.mem_of_getElem? (i := 665) (by decide +kernel)⟩
theorem lw_p35 : lw_okq (⟨"HealBench$Search", "findGoodStates", "()V"⟩, 18) := ⟨⟨by decide +kernel, by decide +kernel⟩, List.mem_of_getElem? (i := 143) (by decide +kernel), List.mem_of_getElem? (i := 671) (by decide +kernel), List.mem_of_getElem? (i := 672) (by decide +kernel)⟩
theorem lw_p36 : lw_okq (⟨"HealBench$Search", "findVerdict", "()I"⟩, 18) := ⟨⟨by decide +kernel, by decide +kernel⟩, List.mem_of_getElem? (i := 143) (by decide +kernel), List.mem_of_getElem? (i := 676) (by decide +kernel), List.mem_of_getElem? (i := 677) (by decide +kernel)⟩
theorem lw_p37 : lw_okq (⟨"HealBench$Search", "findStepOutOfGood", "()Z"⟩, 18) := ⟨⟨by decide +kernel, by decide +kernel⟩, List.mem_of_getElem? (i := 143) (by decide +kernel), List.mem_of_getElem? (i := 680) (by decide +kernel), List.mem_of_getElem? (i := 681) (by decide +kernel)⟩
theorem lw_p38 : lw_okq (⟨"HealBench$Search", "after", "(II)I"⟩, 18) := ⟨⟨by decide +kernel, by decide +kernel⟩, List.mem_of_getElem? (i := 143) (by decide +kernel), List.mem_of_getElem? (i := 685) (by decide +kernel), List.mem_of_getElem? (i := 686) (by decide +kernel)⟩
theorem lw_p39 : lw_okq (⟨"HealBench$Search", "addToRun", "(I)V"⟩, 18) := ⟨⟨by decide +kernel, by decide +kernel⟩, List.mem_of_getElem? (i := 143) (by decide +kernel), List.mem_of_getElem? (i := 689) (by decide +kernel), List.mem_of_getElem? (i := 690) (by decide +kernel)⟩
theorem lw_p40 : lw_okq (⟨"HealBench$Search", "findStandstill", "()Z"⟩, 18) := ⟨⟨by decide +kernel, by decide +kernel⟩, List.mem_of_getElem? (i := 143) (by decide +kernel), List.mem_of_getElem? (i := 693) (by decide +kernel), List.mem_of_getElem? (i := 694) (by decide +kernel)⟩
theorem lw_p41 : lw_okq (⟨"HealBench$Search", "measure", "()V"⟩, 18) := ⟨⟨by decide +kernel, by decide +kernel⟩, List.mem_of_getElem? (i := 143) (by decide +kernel), List.mem_of_getElem? (i := 697) (by decide +kernel), List.mem_of_getElem? (i := 698) (by decide +kernel)⟩
theorem lw_p42 : lw_okq (⟨"HealBench$Search", "measureFrom", "(I)V"⟩, 18) := ⟨⟨by decide +kernel, by decide +kernel⟩, List.mem_of_getElem? (i := 143) (by decide +kernel), List.mem_of_getElem? (i := 701) (by decide +kernel), List.mem_of_getElem? (i := 702) (by decide +kernel)⟩
theorem lw_p43 : lw_okq (⟨"HealBench$Search", "learn", "(II)V"⟩, 18) := ⟨⟨by decide +kernel, by decide +kernel⟩, List.mem_of_getElem? (i := 143) (by decide +kernel), List.mem_of_getElem? (i := 706) (by decide +kernel), List.mem_of_getElem? (i := 707) (by decide +kernel)⟩
theorem lw_p44 : lw_okq (⟨"HealBench$Search", "findEndlessRun", "()Z"⟩, 18) := ⟨⟨by decide +kernel, by decide +kernel⟩, List.mem_of_getElem? (i := 143) (by decide +kernel), List.mem_of_getElem? (i := 712) (by decide +kernel), List.mem_of_getElem? (i := 713) (by decide +kernel)⟩
theorem lw_p45 : lw_okq (⟨"HealBench$Search", "endlessAfter", "(I)I"⟩, 18) := ⟨⟨by decide +kernel, by decide +kernel⟩, List.mem_of_getElem? (i := 143) (by decide +kernel), List.mem_of_getElem? (i := 716) (by decide +kernel), List.mem_of_getElem? (i := 717) (by decide +kernel)⟩
theorem lw_p46 : lw_okq (⟨"HealBenchModel", "states", "()I"⟩, 40) := ⟨⟨by decide +kernel, by decide +kernel⟩, List.mem_of_getElem? (i := 736) (by decide +kernel), List.mem_of_getElem? (i := 867) (by decide +kernel), List.mem_of_getElem? (i := 868) (by decide +kernel)⟩
theorem lw_p47 : lw_okq (⟨"HealBenchModel", "isNode", "(I)Z"⟩, 40) := ⟨⟨by decide +kernel, by decide +kernel⟩, List.mem_of_getElem? (i := 736) (by decide +kernel), List.mem_of_getElem? (i := 878) (by decide +kernel), List.mem_of_getElem? (i := 879) (by decide +kernel)⟩
def lw_privs_3 : List (MethodName × Nat) := [(⟨"HealBench$Rules", "meetAim", "(LHealBench$View;)Z"⟩, 5), (⟨"HealBench$Search", "judge", "()V"⟩, 18), (⟨"HealBench$Search", "findAllMoves", "()V"⟩, 18), (⟨"HealBench$Search", "findGoodStates", "()V"⟩, 18), (⟨"HealBench$Search", "findVerdict", "()I"⟩, 18), (⟨"HealBench$Search", "findStepOutOfGood", "()Z"⟩, 18), (⟨"HealBench$Search", "after", "(II)I"⟩, 18), (⟨"HealBench$Search", "addToRun", "(I)V"⟩, 18), (⟨"HealBench$Search", "findStandstill", "()Z"⟩, 18), (⟨"HealBench$Search", "measure", "()V"⟩, 18), (⟨"HealBench$Search", "measureFrom", "(I)V"⟩, 18), (⟨"HealBench$Search", "learn", "(II)V"⟩, 18), (⟨"HealBench$Search", "findEndlessRun", "()Z"⟩, 18), (⟨"HealBench$Search", "endlessAfter", "(I)I"⟩, 18), (⟨"HealBenchModel", "states", "()I"⟩, 40), (⟨"HealBenchModel", "isNode", "(I)Z"⟩, 40)]
theorem lw_r3 : ∀ q ∈ lw_privs_3, lw_okq q := List.forall_mem_cons.mpr ⟨lw_p32, List.forall_mem_cons.mpr ⟨lw_p33, List.forall_mem_cons.mpr ⟨lw_p34, List.forall_mem_cons.mpr ⟨lw_p35, List.forall_mem_cons.mpr ⟨lw_p36, List.forall_mem_cons.mpr ⟨lw_p37, List.forall_mem_cons.mpr ⟨lw_p38, List.forall_mem_cons.mpr ⟨lw_p39, List.forall_mem_cons.mpr ⟨lw_p40, List.forall_mem_cons.mpr ⟨lw_p41, List.forall_mem_cons.mpr ⟨lw_p42, List.forall_mem_cons.mpr ⟨lw_p43, List.forall_mem_cons.mpr ⟨lw_p44, List.forall_mem_cons.mpr ⟨lw_p45, List.forall_mem_cons.mpr ⟨lw_p46, List.forall_mem_cons.mpr ⟨lw_p47, fun _ h => absurd h List.not_mem_nil⟩⟩⟩⟩⟩⟩⟩⟩⟩⟩⟩⟩⟩⟩⟩⟩
theorem lw_p48 : lw_okq (⟨"HealBenchModel", "read", "(Z)I"⟩, 40) := ⟨⟨by decide +kernel, by decide +kernel⟩, List.mem_of_getElem? (i := 736) (by decide +kernel), List.mem_of_getElem? (i := 890) (by decide +kernel), List.mem_of_getElem? (i := 891) (by decide +kernel)⟩
theorem lw_p49 : lw_okq (⟨"HealBenchModel", "start", "(IZ)I"⟩, 40) := ⟨⟨by decide +kernel, by decide +kernel⟩, List.mem_of_getElem? (i := 736) (by decide +kernel), List.mem_of_getElem? (i := 894) (by decide +kernel), List.mem_of_getElem? (i := 895) (by decide +kernel)⟩
theorem lw_p50 : lw_okq (⟨"HealBenchModel", "isPart", "(I)Z"⟩, 40) := ⟨⟨by decide +kernel, by decide +kernel⟩, List.mem_of_getElem? (i := 736) (by decide +kernel), List.mem_of_getElem? (i := 898) (by decide +kernel), List.mem_of_getElem? (i := 899) (by decide +kernel)⟩
theorem lw_p51 : lw_okq (⟨"HealBenchModel", "sign", "(I)V"⟩, 40) := ⟨⟨by decide +kernel, by decide +kernel⟩, List.mem_of_getElem? (i := 736) (by decide +kernel), List.mem_of_getElem? (i := 902) (by decide +kernel), List.mem_of_getElem? (i := 903) (by decide +kernel)⟩
theorem lw_p52 : lw_okq (⟨"HealBenchModel", "begins", "(I)Z"⟩, 40) := ⟨⟨by decide +kernel, by decide +kernel⟩, List.mem_of_getElem? (i := 736) (by decide +kernel), List.mem_of_getElem? (i := 906) (by decide +kernel), List.mem_of_getElem? (i := 907) (by decide +kernel)⟩
theorem lw_p53 : lw_okq (⟨"HealBenchModel", "follow", "(IIZ)I"⟩, 40) := ⟨⟨by decide +kernel, by decide +kernel⟩, List.mem_of_getElem? (i := 736) (by decide +kernel), List.mem_of_getElem? (i := 910) (by decide +kernel), List.mem_of_getElem? (i := 911) (by decide +kernel)⟩
theorem lw_p54 : lw_okq (⟨"HealBenchModel", "endComparison", "()V"⟩, 40) := ⟨⟨by decide +kernel, by decide +kernel⟩, List.mem_of_getElem? (i := 736) (by decide +kernel), List.mem_of_getElem? (i := 914) (by decide +kernel), List.mem_of_getElem? (i := 915) (by decide +kernel)⟩
theorem lw_p55 : lw_okq (⟨"HealBenchModel", "endTest", "()V"⟩, 40) := ⟨⟨by decide +kernel, by decide +kernel⟩, List.mem_of_getElem? (i := 736) (by decide +kernel), List.mem_of_getElem? (i := 918) (by decide +kernel), List.mem_of_getElem? (i := 919) (by decide +kernel)⟩
theorem lw_p56 : lw_okq (⟨"HealBenchModel", "goOn", "(IZ)I"⟩, 40) := ⟨⟨by decide +kernel, by decide +kernel⟩, List.mem_of_getElem? (i := 736) (by decide +kernel), List.mem_of_getElem? (i := 922) (by decide +kernel), List.mem_of_getElem? (i := 923) (by decide +kernel)⟩
theorem lw_p57 : lw_okq (⟨"HealBenchModel", "endBoth", "()V"⟩, 40) := ⟨⟨by decide +kernel, by decide +kernel⟩, List.mem_of_getElem? (i := 736) (by decide +kernel), List.mem_of_getElem? (i := 926) (by decide +kernel), List.mem_of_getElem? (i := 927) (by decide +kernel)⟩
theorem lw_p58 : lw_okq (⟨"HealBenchModel", "keep", "(I)V"⟩, 40) := ⟨⟨by decide +kernel, by decide +kernel⟩, List.mem_of_getElem? (i := 736) (by decide +kernel), List.mem_of_getElem? (i := 930) (by decide +kernel), List.mem_of_getElem? (i := 931) (by decide +kernel)⟩
theorem lw_p59 : lw_okq (⟨"HealBenchModel", "findOut", "()V"⟩, 40) := ⟨⟨by decide +kernel, by decide +kernel⟩, List.mem_of_getElem? (i := 736) (by decide +kernel), List.mem_of_getElem? (i := 950) (by decide +kernel), List.mem_of_getElem? (i := 951) (by decide +kernel)⟩
theorem lw_p60 : lw_okq (⟨"HealBenchModel", "layTables", "()V"⟩, 40) := ⟨⟨by decide +kernel, by decide +kernel⟩, List.mem_of_getElem? (i := 736) (by decide +kernel), List.mem_of_getElem? (i := 954) (by decide +kernel), List.mem_of_getElem? (i := 955) (by decide +kernel)⟩
theorem lw_p61 : lw_okq (⟨"HealBenchModel", "lookAt", "(I)V"⟩, 40) := ⟨⟨by decide +kernel, by decide +kernel⟩, List.mem_of_getElem? (i := 736) (by decide +kernel), List.mem_of_getElem? (i := 958) (by decide +kernel), List.mem_of_getElem? (i := 959) (by decide +kernel)⟩
theorem lw_p62 : lw_okq (⟨"HealBenchModel", "ruleFor", "(I)I"⟩, 40) := ⟨⟨by decide +kernel, by decide +kernel⟩, List.mem_of_getElem? (i := 736) (by decide +kernel), List.mem_of_getElem? (i := 962) (by decide +kernel), List.mem_of_getElem? (i := 963) (by decide +kernel)⟩
theorem lw_p63 : lw_okq (⟨"HealBenchModel", "holds", "(II)Z"⟩, 40) := ⟨⟨by decide +kernel, by decide +kernel⟩, List.mem_of_getElem? (i := 736) (by decide +kernel), List.mem_of_getElem? (i := 966) (by decide +kernel), List.mem_of_getElem? (i := 967) (by decide +kernel)⟩
def lw_privs_4 : List (MethodName × Nat) := [(⟨"HealBenchModel", "read", "(Z)I"⟩, 40), (⟨"HealBenchModel", "start", "(IZ)I"⟩, 40), (⟨"HealBenchModel", "isPart", "(I)Z"⟩, 40), (⟨"HealBenchModel", "sign", "(I)V"⟩, 40), (⟨"HealBenchModel", "begins", "(I)Z"⟩, 40), (⟨"HealBenchModel", "follow", "(IIZ)I"⟩, 40), (⟨"HealBenchModel", "endComparison", "()V"⟩, 40), (⟨"HealBenchModel", "endTest", "()V"⟩, 40), (⟨"HealBenchModel", "goOn", "(IZ)I"⟩, 40), (⟨"HealBenchModel", "endBoth", "()V"⟩, 40), (⟨"HealBenchModel", "keep", "(I)V"⟩, 40), (⟨"HealBenchModel", "findOut", "()V"⟩, 40), (⟨"HealBenchModel", "layTables", "()V"⟩, 40), (⟨"HealBenchModel", "lookAt", "(I)V"⟩, 40), (⟨"HealBenchModel", "ruleFor", "(I)I"⟩, 40), (⟨"HealBenchModel", "holds", "(II)Z"⟩, 40)]
theorem lw_r4 : ∀ q ∈ lw_privs_4, lw_okq q := List.forall_mem_cons.mpr ⟨lw_p48, List.forall_mem_cons.mpr ⟨lw_p49, List.forall_mem_cons.mpr ⟨lw_p50, List.forall_mem_cons.mpr ⟨lw_p51, List.forall_mem_cons.mpr ⟨lw_p52, List.forall_mem_cons.mpr ⟨lw_p53, List.forall_mem_cons.mpr ⟨lw_p54, List.forall_mem_cons.mpr ⟨lw_p55, List.forall_mem_cons.mpr ⟨lw_p56, List.forall_mem_cons.mpr ⟨lw_p57, List.forall_mem_cons.mpr ⟨lw_p58, List.forall_mem_cons.mpr ⟨lw_p59, List.forall_mem_cons.mpr ⟨lw_p60, List.forall_mem_cons.mpr ⟨lw_p61, List.forall_mem_cons.mpr ⟨lw_p62, List.forall_mem_cons.mpr ⟨lw_p63, fun _ h => absurd h List.not_mem_nil⟩⟩⟩⟩⟩⟩⟩⟩⟩⟩⟩⟩⟩⟩⟩⟩
theorem lw_p64 : lw_okq (⟨"HealBenchModel", "around", "(IIII)I"⟩, 40) := ⟨⟨by decide +kernel, by decide +kernel⟩, List.mem_of_getElem? (i := 736) (by decide +kernel), List.mem_of_getElem? (i := 970) (by decide +kernel), List.mem_of_getElem? (i := 971) (by decide +kernel)⟩
theorem lw_p65 : lw_okq (⟨"HealBenchModel", "work", "(III)V"⟩, 40) := ⟨⟨by decide +kernel, by decide +kernel⟩, List.mem_of_getElem? (i := 736) (by decide +kernel), List.mem_of_getElem? (i := 974) (by decide +kernel), List.mem_of_getElem? (i := 975) (by decide +kernel)⟩
theorem lw_p66 : lw_okq (⟨"HealBenchModel", "modulo", "(I)I"⟩, 40) := ⟨⟨by decide +kernel, by decide +kernel⟩, List.mem_of_getElem? (i := 736) (by decide +kernel), List.mem_of_getElem? (i := 978) (by decide +kernel), List.mem_of_getElem? (i := 979) (by decide +kernel)⟩
theorem lw_p67 : lw_okq (⟨"HealBenchModel", "part", "(III)I"⟩, 40) := ⟨⟨by decide +kernel, by decide +kernel⟩, List.mem_of_getElem? (i := 736) (by decide +kernel), List.mem_of_getElem? (i := 988) (by decide +kernel), List.mem_of_getElem? (i := 989) (by decide +kernel)⟩
theorem lw_p68 : lw_okq (⟨"HealBenchModel", "neighbours", "(I)I"⟩, 40) := ⟨⟨by decide +kernel, by decide +kernel⟩, List.mem_of_getElem? (i := 736) (by decide +kernel), List.mem_of_getElem? (i := 992) (by decide +kernel), List.mem_of_getElem? (i := 993) (by decide +kernel)⟩
theorem lw_p69 : lw_okq (⟨"HealBenchModel", "extreme", "(IZ)I"⟩, 40) := ⟨⟨by decide +kernel, by decide +kernel⟩, List.mem_of_getElem? (i := 736) (by decide +kernel), List.mem_of_getElem? (i := 996) (by decide +kernel), List.mem_of_getElem? (i := 997) (by decide +kernel)⟩
theorem lw_p70 : lw_okq (⟨"HealBenchModel", "sumFor", "(II)I"⟩, 40) := ⟨⟨by decide +kernel, by decide +kernel⟩, List.mem_of_getElem? (i := 736) (by decide +kernel), List.mem_of_getElem? (i := 1000) (by decide +kernel), List.mem_of_getElem? (i := 1001) (by decide +kernel)⟩
theorem lw_p71 : lw_okq (⟨"HealBenchModel", "leavesGood", "()Z"⟩, 40) := ⟨⟨by decide +kernel, by decide +kernel⟩, List.mem_of_getElem? (i := 736) (by decide +kernel), List.mem_of_getElem? (i := 1004) (by decide +kernel), List.mem_of_getElem? (i := 1005) (by decide +kernel)⟩
theorem lw_p72 : lw_okq (⟨"HealBenchModel", "choiceTo", "(IZZ)I"⟩, 40) := ⟨⟨by decide +kernel, by decide +kernel⟩, List.mem_of_getElem? (i := 736) (by decide +kernel), List.mem_of_getElem? (i := 1008) (by decide +kernel), List.mem_of_getElem? (i := 1009) (by decide +kernel)⟩
theorem lw_p73 : lw_okq (⟨"HealBenchModel", "isChoice", "(II)Z"⟩, 40) := ⟨⟨by decide +kernel, by decide +kernel⟩, List.mem_of_getElem? (i := 736) (by decide +kernel), List.mem_of_getElem? (i := 1012) (by decide +kernel), List.mem_of_getElem? (i := 1013) (by decide +kernel)⟩
theorem lw_p74 : lw_okq (⟨"HealBenchModel", "behind", "(II)I"⟩, 40) := ⟨⟨by decide +kernel, by decide +kernel⟩, List.mem_of_getElem? (i := 736) (by decide +kernel), List.mem_of_getElem? (i := 1016) (by decide +kernel), List.mem_of_getElem? (i := 1017) (by decide +kernel)⟩
theorem lw_p75 : lw_okq (⟨"HealBenchModel", "isStuck", "()Z"⟩, 40) := ⟨⟨by decide +kernel, by decide +kernel⟩, List.mem_of_getElem? (i := 736) (by decide +kernel), List.mem_of_getElem? (i := 1020) (by decide +kernel), List.mem_of_getElem? (i := 1021) (by decide +kernel)⟩
theorem lw_p76 : lw_okq (⟨"HealBenchModel", "goesRound", "()Z"⟩, 40) := ⟨⟨by decide +kernel, by decide +kernel⟩, List.mem_of_getElem? (i := 736) (by decide +kernel), List.mem_of_getElem? (i := 1024) (by decide +kernel), List.mem_of_getElem? (i := 1025) (by decide +kernel)⟩
theorem lw_p77 : lw_okq (⟨"HealBenchModel", "layFars", "()V"⟩, 40) := ⟨⟨by decide +kernel, by decide +kernel⟩, List.mem_of_getElem? (i := 736) (by decide +kernel), List.mem_of_getElem? (i := 1028) (by decide +kernel), List.mem_of_getElem? (i := 1029) (by decide +kernel)⟩
def lw_privs_5 : List (MethodName × Nat) := [(⟨"HealBenchModel", "around", "(IIII)I"⟩, 40), (⟨"HealBenchModel", "work", "(III)V"⟩, 40), (⟨"HealBenchModel", "modulo", "(I)I"⟩, 40), (⟨"HealBenchModel", "part", "(III)I"⟩, 40), (⟨"HealBenchModel", "neighbours", "(I)I"⟩, 40), (⟨"HealBenchModel", "extreme", "(IZ)I"⟩, 40), (⟨"HealBenchModel", "sumFor", "(II)I"⟩, 40), (⟨"HealBenchModel", "leavesGood", "()Z"⟩, 40), (⟨"HealBenchModel", "choiceTo", "(IZZ)I"⟩, 40), (⟨"HealBenchModel", "isChoice", "(II)Z"⟩, 40), (⟨"HealBenchModel", "behind", "(II)I"⟩, 40), (⟨"HealBenchModel", "isStuck", "()Z"⟩, 40), (⟨"HealBenchModel", "goesRound", "()Z"⟩, 40), (⟨"HealBenchModel", "layFars", "()V"⟩, 40)]
theorem lw_r5 : ∀ q ∈ lw_privs_5, lw_okq q := List.forall_mem_cons.mpr ⟨lw_p64, List.forall_mem_cons.mpr ⟨lw_p65, List.forall_mem_cons.mpr ⟨lw_p66, List.forall_mem_cons.mpr ⟨lw_p67, List.forall_mem_cons.mpr ⟨lw_p68, List.forall_mem_cons.mpr ⟨lw_p69, List.forall_mem_cons.mpr ⟨lw_p70, List.forall_mem_cons.mpr ⟨lw_p71, List.forall_mem_cons.mpr ⟨lw_p72, List.forall_mem_cons.mpr ⟨lw_p73, List.forall_mem_cons.mpr ⟨lw_p74, List.forall_mem_cons.mpr ⟨lw_p75, List.forall_mem_cons.mpr ⟨lw_p76, List.forall_mem_cons.mpr ⟨lw_p77, fun _ h => absurd h List.not_mem_nil⟩⟩⟩⟩⟩⟩⟩⟩⟩⟩⟩⟩⟩⟩
def lw_privs : List (MethodName × Nat) := lw_privs_1 ++ (lw_privs_2 ++ (lw_privs_3 ++ (lw_privs_4 ++ (lw_privs_5))))
def lw_tbl : List Cond := k2_sels lw_privs ++ tables_1
theorem lw_privs_ok : ∀ q ∈ lw_privs, lw_okq q := by
  show ∀ q ∈ lw_privs_1 ++ (lw_privs_2 ++ (lw_privs_3 ++ (lw_privs_4 ++ (lw_privs_5)))), lw_okq q
  exact List.forall_mem_append.mpr ⟨lw_r1, List.forall_mem_append.mpr ⟨lw_r2, List.forall_mem_append.mpr ⟨lw_r3, List.forall_mem_append.mpr ⟨lw_r4, lw_r5⟩⟩⟩⟩
-- ===== end of PART A; then your names; then what follows =====
end
section
/-! The tables of the small machine, by a program (gen2.py) out of the claim's own words: classes, fields, methods. -/
def mj_isNest : Cond → Bool
  | .fieldLinkNest .. => true
  | .methodLinkNest .. => true
  | .declares .. => true
  | .castable .. => true
  | _ => false
def mt_TB : List Cond := lw_tbl.filter goodWord
def mt_NW : List Cond := lw_tbl.filter mj_isNest
theorem mt_in {w : Cond} (i : Nat) (h : tables_1[i]? = some w) (hg : goodWord w = true) : w ∈ mt_TB := List.mem_filter.mpr ⟨List.mem_append_right _ (List.mem_of_getElem? h), hg⟩
theorem mt_nin {w : Cond} (i : Nat) (h : tables_1[i]? = some w) (hg : mj_isNest w = true) : w ∈ mt_NW := List.mem_filter.mpr ⟨List.mem_append_right _ (List.mem_of_getElem? h), hg⟩
theorem mt_inS {q : MethodName × Nat} (i : Nat) (h : lw_privs[i]? = some q) : Cond.selects q.1.cls q.1 q.1 ∈ mt_TB := List.mem_filter.mpr ⟨List.mem_append_left _ (List.mem_map.mpr ⟨q, List.mem_of_getElem? h, rfl⟩), rfl⟩
theorem mt_ins {ws : List Cond} (ps : List Nat) (hp : ws = ps.filterMap (fun i => tables_1[i]?)) (h : ws.all goodWord = true) : ∀ w ∈ ws, w ∈ mt_TB := by
  intro w hw
  have h1 := List.all_eq_true.mp h w hw
  rw [hp] at hw
  obtain ⟨i, -, hi⟩ := List.mem_filterMap.mp hw
  exact mt_in i hi h1
def mt_F0 : u_T := fun k => match k with
  | 0 => ("HealBench", "net", "LHealBench$Graph;", true)
  | 1 => ("HealBench", "view", "LHealBench$View;", true)
  | 2 => ("HealBench", "rules", "LHealBench$Rules;", true)
  | 3 => ("HealBench", "finder", "LHealBench$Search;", true)
  | 4 => ("HealBench", "text", "[C", true)
  | 5 => ("HealBench", "typed", "I", false)
  | 6 => ("HealBench", "current", "I", false)
  | 7 => ("HealBench", "steps", "I", false)
  | _ => ("HealBench", "moves", "I", false)
def mt_F1 : u_T := fun k => match k with
  | 0 => ("HealBench$Comparison", "left", "LHealBench$Sum;", true)
  | 1 => ("HealBench$Comparison", "sign", "C", true)
  | _ => ("HealBench$Comparison", "right", "LHealBench$Sum;", true)
def mt_F2 : u_T := fun k => match k with
  | 0 => ("HealBench$Graph", "links", "[I", true)
  | 1 => ("HealBench$Graph", "weights", "[I", true)
  | 2 => ("HealBench$Graph", "n", "I", false)
  | 3 => ("HealBench$Graph", "k", "I", false)
  | 4 => ("HealBench$Graph", "edges", "I", false)
  | _ => ("HealBench$Graph", "states", "I", false)
def mt_F3 : u_T := fun k => match k with
  | 0 => ("HealBench$Neighbours", "inner", "LHealBench$Test;", true)
  | _ => ("HealBench$Neighbours", "needsAll", "Z", true)
def mt_F4 : u_T := fun k => match k with
  | _ => ("HealBench$Not", "inner", "LHealBench$Test;", true)
def mt_F5 : u_T := fun k => match k with
  | 0 => ("HealBench$Pair", "left", "LHealBench$Test;", true)
  | 1 => ("HealBench$Pair", "right", "LHealBench$Test;", true)
  | _ => ("HealBench$Pair", "needsBoth", "Z", true)
def mt_F6 : u_T := fun k => match k with
  | 0 => ("HealBench$Reader", "text", "[C", true)
  | 1 => ("HealBench$Reader", "at", "I", false)
  | _ => ("HealBench$Reader", "fault", "I", false)
def mt_F7 : u_T := fun k => match k with
  | 0 => ("HealBench$Rules", "guards", "[LHealBench$Test;", true)
  | 1 => ("HealBench$Rules", "sums", "[LHealBench$Sum;", true)
  | 2 => ("HealBench$Rules", "size", "I", false)
  | 3 => ("HealBench$Rules", "aimKind", "I", false)
  | _ => ("HealBench$Rules", "aimGuard", "LHealBench$Test;", false)
def mt_F8 : u_T := fun k => match k with
  | 0 => ("HealBench$Search", "net", "LHealBench$Graph;", true)
  | 1 => ("HealBench$Search", "rules", "LHealBench$Rules;", true)
  | 2 => ("HealBench$Search", "view", "LHealBench$View;", true)
  | 3 => ("HealBench$Search", "able", "[I", true)
  | 4 => ("HealBench$Search", "shifts", "[I", true)
  | 5 => ("HealBench$Search", "isGood", "[Z", true)
  | 6 => ("HealBench$Search", "distance", "[I", true)
  | 7 => ("HealBench$Search", "mark", "[I", true)
  | 8 => ("HealBench$Search", "tried", "[I", true)
  | 9 => ("HealBench$Search", "path", "[I", true)
  | 10 => ("HealBench$Search", "run", "[I", true)
  | 11 => ("HealBench$Search", "runLength", "I", false)
  | 12 => ("HealBench$Search", "scheduler", "I", false)
  | 13 => ("HealBench$Search", "verdict", "I", false)
  | 14 => ("HealBench$Search", "longest", "I", false)
  | 15 => ("HealBench$Search", "goodStates", "I", false)
  | 16 => ("HealBench$Search", "movesKnown", "Z", false)
  | _ => ("HealBench$Search", "verdictKnown", "Z", false)
def mt_F9 : u_T := fun k => match k with
  | 0 => ("HealBench$Sum", "text", "[C", true)
  | 1 => ("HealBench$Sum", "from", "I", true)
  | 2 => ("HealBench$Sum", "end", "I", true)
  | _ => ("HealBench$Sum", "wraps", "Z", true)
def mt_F10 : u_T := fun k => match k with
  | 0 => ("HealBench$View", "net", "LHealBench$Graph;", true)
  | 1 => ("HealBench$View", "values", "[I", true)
  | 2 => ("HealBench$View", "parts", "[I", true)
  | 3 => ("HealBench$View", "shifts", "[I", true)
  | 4 => ("HealBench$View", "able", "I", false)
  | _ => ("HealBench$View", "node", "I", false)
def mt_F11 : u_T := fun k => match k with
  | 0 => ("HealBenchModel", "nodes", "I", false)
  | 1 => ("HealBenchModel", "most", "I", false)
  | 2 => ("HealBenchModel", "edges", "I", false)
  | 3 => ("HealBenchModel", "near", "[Z", true)
  | 4 => ("HealBenchModel", "values", "[I", true)
  | 5 => ("HealBenchModel", "steps", "I", false)
  | 6 => ("HealBenchModel", "moves", "I", false)
  | 7 => ("HealBenchModel", "scheduler", "I", false)
  | 8 => ("HealBenchModel", "kind", "I", false)
  | 9 => ("HealBenchModel", "typed", "I", false)
  | 10 => ("HealBenchModel", "text", "[I", true)
  | 11 => ("HealBenchModel", "rules", "I", false)
  | 12 => ("HealBenchModel", "guards", "[I", true)
  | 13 => ("HealBenchModel", "ends", "[I", true)
  | 14 => ("HealBenchModel", "guardSizes", "[I", true)
  | 15 => ("HealBenchModel", "sums", "[I", true)
  | 16 => ("HealBenchModel", "sumSizes", "[I", true)
  | 17 => ("HealBenchModel", "open", "I", false)
  | 18 => ("HealBenchModel", "opens", "[I", true)
  | 19 => ("HealBenchModel", "outerAnds", "[Z", true)
  | 20 => ("HealBenchModel", "outerOrs", "[Z", true)
  | 21 => ("HealBenchModel", "begins", "[I", true)
  | 22 => ("HealBenchModel", "and", "Z", false)
  | 23 => ("HealBenchModel", "or", "Z", false)
  | 24 => ("HealBenchModel", "quantified", "I", false)
  | 25 => ("HealBenchModel", "side", "I", false)
  | 26 => ("HealBenchModel", "comparing", "I", false)
  | 27 => ("HealBenchModel", "adding", "I", false)
  | 28 => ("HealBenchModel", "look", "[I", true)
  | 29 => ("HealBenchModel", "heap", "[I", true)
  | 30 => ("HealBenchModel", "top", "I", false)
  | 31 => ("HealBenchModel", "known", "Z", false)
  | 32 => ("HealBenchModel", "verdict", "I", false)
  | 33 => ("HealBenchModel", "enabled", "[I", true)
  | 34 => ("HealBenchModel", "adds", "[I", true)
  | 35 => ("HealBenchModel", "isGood", "[Z", true)
  | 36 => ("HealBenchModel", "lasts", "[Z", true)
  | 37 => ("HealBenchModel", "fars", "[I", true)
  | 38 => ("HealBenchModel", "runs", "I", false)
  | _ => ("HealBenchModel", "run", "[I", true)
def mt_cl : List vw_C := [("HealBench", mt_F0, 9), ("HealBench$Comparison", mt_F1, 3), ("HealBench$Graph", mt_F2, 6), ("HealBench$Neighbours", mt_F3, 2), ("HealBench$Not", mt_F4, 1), ("HealBench$Pair", mt_F5, 3), ("HealBench$Reader", mt_F6, 3), ("HealBench$Rules", mt_F7, 5), ("HealBench$Search", mt_F8, 18), ("HealBench$Sum", mt_F9, 4), ("HealBench$View", mt_F10, 6), ("HealBenchModel", mt_F11, 40)]
def mt_fts : List (List FieldType) := [[.object "HealBench$Graph", .object "HealBench$View", .object "HealBench$Rules", .object "HealBench$Search", .array .char, .int, .int, .int, .int], [.object "HealBench$Sum", .char, .object "HealBench$Sum"], [.array .int, .array .int, .int, .int, .int, .int], [.object "HealBench$Test", .boolean], [.object "HealBench$Test"], [.object "HealBench$Test", .object "HealBench$Test", .boolean], [.array .char, .int, .int], [.array (.object "HealBench$Test"), .array (.object "HealBench$Sum"), .int, .int, .object "HealBench$Test"], [.object "HealBench$Graph", .object "HealBench$Rules", .object "HealBench$View", .array .int, .array .int, .array .boolean, .array .int, .array .int, .array .int, .array .int, .array .int, .int, .int, .int, .int, .int, .boolean, .boolean], [.array .char, .int, .int, .boolean], [.object "HealBench$Graph", .array .int, .array .int, .array .int, .int, .int], [.int, .int, .int, .array .boolean, .array .int, .int, .int, .int, .int, .int, .array .int, .int, .array .int, .array .int, .array .int, .array .int, .array .int, .int, .array .int, .array .boolean, .array .boolean, .array .int, .boolean, .boolean, .int, .int, .int, .int, .array .int, .array .int, .int, .boolean, .int, .array .int, .array .int, .array .boolean, .array .boolean, .array .int, .int, .array .int]]
def mt_cns : List String := ["", "HealBench", "HealBench$Comparison", "HealBench$Graph", "HealBench$Neighbours", "HealBench$Not", "HealBench$Pair", "HealBench$Reader", "HealBench$Rules", "HealBench$Search", "HealBench$Sum", "HealBench$Test", "HealBench$View", "HealBenchLaw", "HealBenchModel", "java/lang/Integer", "java/lang/Math", "java/lang/String", "java/lang/StringLatin1", "java/util/Arrays"]
def mt_cn (o : Nat) : String := mt_cns.getD o ""
abbrev mt_Row : Type := MethodName × ByteArray × Nat × Option FieldType × Nat × Nat
def mt_T0 : mt_Row := (⟨"HealBenchLaw", "law", "([I)Z"⟩, code, 4, (some (.boolean)), 13, 1)
def mt_T1 : mt_Row := (⟨"HealBench", "<init>", "()V"⟩, prog_1_method_1_code, 1, none, 1, 1)
def mt_T2 : mt_Row := (⟨"HealBench$Graph", "<init>", "()V"⟩, prog_3_method_1_code, 1, none, 3, 1)
def mt_T3 : mt_Row := (⟨"HealBench$Graph", "renew", "(II)V"⟩, prog_3_method_2_code, 4, none, 3, 3)
def mt_T4 : mt_Row := (⟨"HealBench$View", "<init>", "(LHealBench$Graph;)V"⟩, prog_12_method_1_code, 3, none, 12, 2)
def mt_T5 : mt_Row := (⟨"HealBench$Rules", "<init>", "()V"⟩, prog_8_method_1_code, 1, none, 8, 1)
def mt_T6 : mt_Row := (⟨"HealBench$Search", "<init>", "(LHealBench$Graph;LHealBench$Rules;)V"⟩, prog_9_method_1_code, 3, none, 9, 3)
def mt_T7 : mt_Row := (⟨"HealBench", "graph", "(II)I"⟩, prog_1_method_2_code, 3, (some (.int)), 1, 3)
def mt_T8 : mt_Row := (⟨"HealBench$Rules", "clear", "()V"⟩, prog_8_method_2_code, 1, none, 8, 1)
def mt_T9 : mt_Row := (⟨"HealBench$Rules", "aimAt", "(ILHealBench$Test;)V"⟩, prog_8_method_5_code, 3, none, 8, 3)
def mt_T10 : mt_Row := (⟨"HealBench$Search", "forgetMoves", "()V"⟩, prog_9_method_2_code, 1, none, 9, 1)
def mt_T11 : mt_Row := (⟨"HealBench", "startCounts", "()V"⟩, prog_1_method_21_code, 1, none, 1, 1)
def mt_T12 : mt_Row := (⟨"HealBench", "edge", "(II)I"⟩, prog_1_method_3_code, 3, (some (.int)), 1, 3)
def mt_T13 : mt_Row := (⟨"HealBench$Graph", "has", "(I)Z"⟩, prog_3_method_3_code, 2, (some (.boolean)), 3, 2)
def mt_T14 : mt_Row := (⟨"HealBench$Graph", "linked", "(II)Z"⟩, prog_3_method_4_code, 3, (some (.boolean)), 3, 3)
def mt_T15 : mt_Row := (⟨"HealBench$Graph", "link", "(II)V"⟩, prog_3_method_5_code, 3, none, 3, 3)
def mt_T16 : mt_Row := (⟨"HealBench", "type", "(I)I"⟩, prog_1_method_4_code, 2, (some (.int)), 1, 2)
def mt_T17 : mt_Row := (⟨"HealBench", "rule", "()I"⟩, prog_1_method_5_code, 4, (some (.int)), 1, 1)
def mt_T18 : mt_Row := (⟨"HealBench", "takeText", "()LHealBench$Reader;"⟩, prog_1_method_22_code, 2, (some (.object "HealBench$Reader")), 1, 1)
def mt_T19 : mt_Row := (⟨"HealBench$Reader", "<init>", "([C)V"⟩, prog_7_method_1_code, 2, none, 7, 2)
def mt_T20 : mt_Row := (⟨"HealBench$Reader", "readGuard", "(IZ)LHealBench$Test;"⟩, prog_7_method_7_code, 5, (some (.object "HealBench$Test")), 7, 3)
def mt_T21 : mt_Row := (⟨"HealBench$Reader", "readBoth", "(IZ)LHealBench$Test;"⟩, prog_7_method_8_code, 5, (some (.object "HealBench$Test")), 7, 3)
def mt_T22 : mt_Row := (⟨"HealBench$Reader", "readTest", "(IZ)LHealBench$Test;"⟩, prog_7_method_9_code, 4, (some (.object "HealBench$Test")), 7, 3)
def mt_T23 : mt_Row := (⟨"HealBench$Reader", "take", "(C)Z"⟩, prog_7_method_4_code, 2, (some (.boolean)), 7, 2)
def mt_T24 : mt_Row := (⟨"HealBench$Reader", "next", "()C"⟩, prog_7_method_2_code, 1, (some (.char)), 7, 1)
def mt_T25 : mt_Row := (⟨"HealBench$Not", "<init>", "(LHealBench$Test;)V"⟩, prog_5_method_1_code, 2, none, 5, 2)
def mt_T26 : mt_Row := (⟨"HealBench$Test", "<init>", "()V"⟩, prog_11_method_1_code, 1, none, 11, 1)
def mt_T27 : mt_Row := (⟨"HealBench$Reader", "need", "(C)V"⟩, prog_7_method_5_code, 2, none, 7, 2)
def mt_T28 : mt_Row := (⟨"HealBench$Reader", "refuse", "()V"⟩, prog_7_method_3_code, 1, none, 7, 1)
def mt_T29 : mt_Row := (⟨"HealBench$Neighbours", "<init>", "(LHealBench$Test;Z)V"⟩, prog_4_method_1_code, 3, none, 4, 3)
def mt_T30 : mt_Row := (⟨"HealBench$Reader", "readComparison", "(Z)LHealBench$Test;"⟩, prog_7_method_10_code, 4, (some (.object "HealBench$Test")), 7, 2)
def mt_T31 : mt_Row := (⟨"HealBench$Reader", "readSum", "(Z)LHealBench$Sum;"⟩, prog_7_method_11_code, 4, (some (.object "HealBench$Sum")), 7, 2)
def mt_T32 : mt_Row := (⟨"HealBench$Reader", "readPart", "(Z)V"⟩, prog_7_method_12_code, 3, none, 7, 2)
def mt_T33 : mt_Row := (⟨"HealBench$Sum", "<init>", "([CIIZ)V"⟩, prog_10_method_1_code, 5, none, 10, 5)
def mt_T34 : mt_Row := (⟨"HealBench$Comparison", "<init>", "(LHealBench$Sum;CLHealBench$Sum;)V"⟩, prog_2_method_1_code, 4, none, 2, 4)
def mt_T35 : mt_Row := (⟨"HealBench$Pair", "<init>", "(LHealBench$Test;LHealBench$Test;Z)V"⟩, prog_6_method_1_code, 4, none, 6, 4)
def mt_T36 : mt_Row := (⟨"HealBench$Reader", "needEnd", "()V"⟩, prog_7_method_6_code, 1, none, 7, 1)
def mt_T37 : mt_Row := (⟨"HealBench$Rules", "add", "(LHealBench$Test;LHealBench$Sum;)V"⟩, prog_8_method_3_code, 3, none, 8, 3)
def mt_T38 : mt_Row := (⟨"HealBench", "drop", "()I"⟩, prog_1_method_6_code, 1, (some (.int)), 1, 1)
def mt_T39 : mt_Row := (⟨"HealBench$Rules", "removeLast", "()V"⟩, prog_8_method_4_code, 1, none, 8, 1)
def mt_T40 : mt_Row := (⟨"HealBench", "aim", "(I)I"⟩, prog_1_method_7_code, 4, (some (.int)), 1, 2)
def mt_T41 : mt_Row := (⟨"HealBench$Search", "forgetVerdict", "()V"⟩, prog_9_method_3_code, 1, none, 9, 1)
def mt_T42 : mt_Row := (⟨"HealBench", "scheduler", "(I)I"⟩, prog_1_method_8_code, 3, (some (.int)), 1, 2)
def mt_T43 : mt_Row := (⟨"HealBench", "set", "(II)I"⟩, prog_1_method_9_code, 4, (some (.int)), 1, 3)
def mt_T44 : mt_Row := (⟨"HealBench$Graph", "digit", "(II)I"⟩, prog_3_method_6_code, 3, (some (.int)), 3, 3)
def mt_T45 : mt_Row := (⟨"HealBench", "value", "(I)I"⟩, prog_1_method_10_code, 2, (some (.int)), 1, 2)
def mt_T46 : mt_Row := (⟨"HealBench", "enabled", "(I)I"⟩, prog_1_method_11_code, 2, (some (.int)), 1, 2)
def mt_T47 : mt_Row := (⟨"HealBench$View", "load", "(I)V"⟩, prog_12_method_2_code, 3, none, 12, 2)
def mt_T48 : mt_Row := (⟨"HealBench$View", "standAt", "(I)V"⟩, prog_12_method_3_code, 4, none, 12, 2)
def mt_T49 : mt_Row := (⟨"HealBench$Rules", "first", "(LHealBench$View;)I"⟩, prog_8_method_6_code, 3, (some (.int)), 8, 2)
def mt_T50 : mt_Row := (⟨"HealBench$Comparison", "holds", "(LHealBench$View;)Z"⟩, prog_2_method_2_code, 4, (some (.boolean)), 2, 2)
def mt_T51 : mt_Row := (⟨"HealBench$Sum", "total", "(LHealBench$View;)I"⟩, prog_10_method_2_code, 5, (some (.int)), 10, 2)
def mt_T52 : mt_Row := (⟨"HealBench$Neighbours", "holds", "(LHealBench$View;)Z"⟩, prog_4_method_2_code, 3, (some (.boolean)), 4, 2)
def mt_T53 : mt_Row := (⟨"HealBench$View", "lookAt", "(I)V"⟩, prog_12_method_4_code, 2, none, 12, 2)
def mt_T54 : mt_Row := (⟨"HealBench$Not", "holds", "(LHealBench$View;)Z"⟩, prog_5_method_2_code, 2, (some (.boolean)), 5, 2)
def mt_T55 : mt_Row := (⟨"HealBench$Pair", "holds", "(LHealBench$View;)Z"⟩, prog_6_method_2_code, 2, (some (.boolean)), 6, 2)
def mt_T56 : mt_Row := (⟨"HealBench", "fire", "(I)I"⟩, prog_1_method_12_code, 3, (some (.int)), 1, 2)
def mt_T57 : mt_Row := (⟨"HealBench", "lookAround", "()V"⟩, prog_1_method_23_code, 1, none, 1, 1)
def mt_T58 : mt_Row := (⟨"HealBench$Rules", "findMoves", "(LHealBench$View;)V"⟩, prog_8_method_7_code, 6, none, 8, 2)
def mt_T59 : mt_Row := (⟨"HealBench$Search", "allows", "(II)Z"⟩, prog_9_method_4_code, 3, (some (.boolean)), 9, 3)
def mt_T60 : mt_Row := (⟨"HealBench", "good", "()Z"⟩, prog_1_method_13_code, 1, (some (.boolean)), 1, 1)
def mt_T61 : mt_Row := (⟨"HealBench$Rules", "meetAim", "(LHealBench$View;)Z"⟩, prog_8_method_8_code, 3, (some (.boolean)), 8, 2)
def mt_T62 : mt_Row := (⟨"HealBench", "state", "()I"⟩, prog_1_method_14_code, 1, (some (.int)), 1, 1)
def mt_T63 : mt_Row := (⟨"HealBench", "count", "(I)I"⟩, prog_1_method_15_code, 2, (some (.int)), 1, 2)
def mt_T64 : mt_Row := (⟨"HealBench", "search", "()I"⟩, prog_1_method_16_code, 1, (some (.int)), 1, 1)
def mt_T65 : mt_Row := (⟨"HealBench$Search", "judge", "()V"⟩, prog_9_method_5_code, 1, none, 9, 1)
def mt_T66 : mt_Row := (⟨"HealBench$Search", "findAllMoves", "()V"⟩, prog_9_method_6_code, 2, none, 9, 1)
def mt_T67 : mt_Row := (⟨"HealBench$Search", "findGoodStates", "()V"⟩, prog_9_method_7_code, 2, none, 9, 1)
def mt_T68 : mt_Row := (⟨"HealBench$Search", "findVerdict", "()I"⟩, prog_9_method_8_code, 1, (some (.int)), 9, 1)
def mt_T69 : mt_Row := (⟨"HealBench$Search", "findStepOutOfGood", "()Z"⟩, prog_9_method_11_code, 3, (some (.boolean)), 9, 1)
def mt_T70 : mt_Row := (⟨"HealBench$Search", "after", "(II)I"⟩, prog_9_method_9_code, 5, (some (.int)), 9, 3)
def mt_T71 : mt_Row := (⟨"HealBench$Search", "addToRun", "(I)V"⟩, prog_9_method_10_code, 2, none, 9, 2)
def mt_T72 : mt_Row := (⟨"HealBench$Search", "findStandstill", "()Z"⟩, prog_9_method_12_code, 2, (some (.boolean)), 9, 1)
def mt_T73 : mt_Row := (⟨"HealBench$Search", "measure", "()V"⟩, prog_9_method_13_code, 2, none, 9, 1)
def mt_T74 : mt_Row := (⟨"HealBench$Search", "measureFrom", "(I)V"⟩, prog_9_method_14_code, 7, none, 9, 2)
def mt_T75 : mt_Row := (⟨"HealBench$Search", "learn", "(II)V"⟩, prog_9_method_15_code, 4, none, 9, 3)
def mt_T76 : mt_Row := (⟨"HealBench$Search", "findEndlessRun", "()Z"⟩, prog_9_method_16_code, 3, (some (.boolean)), 9, 1)
def mt_T77 : mt_Row := (⟨"HealBench$Search", "endlessAfter", "(I)I"⟩, prog_9_method_17_code, 3, (some (.int)), 9, 2)
def mt_T78 : mt_Row := (⟨"HealBench", "worst", "()I"⟩, prog_1_method_17_code, 1, (some (.int)), 1, 1)
def mt_T79 : mt_Row := (⟨"HealBench", "far", "(I)I"⟩, prog_1_method_18_code, 2, (some (.int)), 1, 2)
def mt_T80 : mt_Row := (⟨"HealBench", "bad", "(I)I"⟩, prog_1_method_19_code, 2, (some (.int)), 1, 2)
def mt_T81 : mt_Row := (⟨"HealBench", "goods", "()I"⟩, prog_1_method_20_code, 1, (some (.int)), 1, 1)
def mt_T82 : mt_Row := (⟨"HealBenchModel", "<init>", "()V"⟩, prog_14_method_1_code, 1, none, 14, 1)
def mt_T83 : mt_Row := (⟨"HealBenchModel", "graph", "(II)I"⟩, prog_14_method_5_code, 4, (some (.int)), 14, 3)
def mt_T84 : mt_Row := (⟨"HealBenchModel", "states", "()I"⟩, prog_14_method_3_code, 1, (some (.int)), 14, 1)
def mt_T85 : mt_Row := (⟨"HealBenchModel", "power", "(II)I"⟩, prog_14_method_2_code, 4, (some (.int)), 14, 2)
def mt_T86 : mt_Row := (⟨"HealBenchModel", "edge", "(II)I"⟩, prog_14_method_6_code, 3, (some (.int)), 14, 3)
def mt_T87 : mt_Row := (⟨"HealBenchModel", "isNode", "(I)Z"⟩, prog_14_method_4_code, 2, (some (.boolean)), 14, 2)
def mt_T88 : mt_Row := (⟨"HealBenchModel", "type", "(I)I"⟩, prog_14_method_7_code, 2, (some (.int)), 14, 2)
def mt_T89 : mt_Row := (⟨"HealBenchModel", "rule", "()I"⟩, prog_14_method_19_code, 2, (some (.int)), 14, 1)
def mt_T90 : mt_Row := (⟨"HealBenchModel", "read", "(Z)I"⟩, prog_14_method_17_code, 4, (some (.int)), 14, 2)
def mt_T91 : mt_Row := (⟨"HealBenchModel", "start", "(IZ)I"⟩, prog_14_method_14_code, 3, (some (.int)), 14, 3)
def mt_T92 : mt_Row := (⟨"HealBenchModel", "isPart", "(I)Z"⟩, prog_14_method_9_code, 3, (some (.boolean)), 14, 2)
def mt_T93 : mt_Row := (⟨"HealBenchModel", "sign", "(I)V"⟩, prog_14_method_8_code, 2, none, 14, 2)
def mt_T94 : mt_Row := (⟨"HealBenchModel", "begins", "(I)Z"⟩, prog_14_method_10_code, 3, (some (.boolean)), 14, 2)
def mt_T95 : mt_Row := (⟨"HealBenchModel", "follow", "(IIZ)I"⟩, prog_14_method_16_code, 4, (some (.int)), 14, 4)
def mt_T96 : mt_Row := (⟨"HealBenchModel", "endComparison", "()V"⟩, prog_14_method_13_code, 1, none, 14, 1)
def mt_T97 : mt_Row := (⟨"HealBenchModel", "endTest", "()V"⟩, prog_14_method_11_code, 1, none, 14, 1)
def mt_T98 : mt_Row := (⟨"HealBenchModel", "goOn", "(IZ)I"⟩, prog_14_method_15_code, 3, (some (.int)), 14, 3)
def mt_T99 : mt_Row := (⟨"HealBenchModel", "endBoth", "()V"⟩, prog_14_method_12_code, 1, none, 14, 1)
def mt_T100 : mt_Row := (⟨"HealBenchModel", "keep", "(I)V"⟩, prog_14_method_18_code, 3, none, 14, 2)
def mt_T101 : mt_Row := (⟨"HealBenchModel", "drop", "()I"⟩, prog_14_method_20_code, 1, (some (.int)), 14, 1)
def mt_T102 : mt_Row := (⟨"HealBenchModel", "aim", "(I)I"⟩, prog_14_method_21_code, 3, (some (.int)), 14, 2)
def mt_T103 : mt_Row := (⟨"HealBenchModel", "scheduler", "(I)I"⟩, prog_14_method_22_code, 3, (some (.int)), 14, 2)
def mt_T104 : mt_Row := (⟨"HealBenchModel", "search", "()I"⟩, prog_14_method_44_code, 1, (some (.int)), 14, 1)
def mt_T105 : mt_Row := (⟨"HealBenchModel", "findOut", "()V"⟩, prog_14_method_43_code, 1, none, 14, 1)
def mt_T106 : mt_Row := (⟨"HealBenchModel", "layTables", "()V"⟩, prog_14_method_37_code, 6, none, 14, 1)
def mt_T107 : mt_Row := (⟨"HealBenchModel", "lookAt", "(I)V"⟩, prog_14_method_34_code, 4, none, 14, 2)
def mt_T108 : mt_Row := (⟨"HealBenchModel", "ruleFor", "(I)I"⟩, prog_14_method_32_code, 3, (some (.int)), 14, 2)
def mt_T109 : mt_Row := (⟨"HealBenchModel", "holds", "(II)Z"⟩, prog_14_method_31_code, 7, (some (.boolean)), 14, 3)
def mt_T110 : mt_Row := (⟨"HealBenchModel", "around", "(IIII)I"⟩, prog_14_method_30_code, 9, (some (.int)), 14, 5)
def mt_T111 : mt_Row := (⟨"HealBenchModel", "work", "(III)V"⟩, prog_14_method_29_code, 4, none, 14, 4)
def mt_T112 : mt_Row := (⟨"HealBenchModel", "modulo", "(I)I"⟩, prog_14_method_25_code, 3, (some (.int)), 14, 2)
def mt_T113 : mt_Row := (⟨"HealBenchModel", "join", "(III)I"⟩, prog_14_method_28_code, 3, (some (.int)), 14, 3)
def mt_T114 : mt_Row := (⟨"HealBenchModel", "truth", "(Z)I"⟩, prog_14_method_27_code, 1, (some (.int)), 14, 1)
def mt_T115 : mt_Row := (⟨"HealBenchModel", "part", "(III)I"⟩, prog_14_method_26_code, 4, (some (.int)), 14, 4)
def mt_T116 : mt_Row := (⟨"HealBenchModel", "neighbours", "(I)I"⟩, prog_14_method_23_code, 4, (some (.int)), 14, 2)
def mt_T117 : mt_Row := (⟨"HealBenchModel", "extreme", "(IZ)I"⟩, prog_14_method_24_code, 5, (some (.int)), 14, 3)
def mt_T118 : mt_Row := (⟨"HealBenchModel", "sumFor", "(II)I"⟩, prog_14_method_33_code, 4, (some (.int)), 14, 3)
def mt_T119 : mt_Row := (⟨"HealBenchModel", "leavesGood", "()Z"⟩, prog_14_method_39_code, 3, (some (.boolean)), 14, 1)
def mt_T120 : mt_Row := (⟨"HealBenchModel", "choiceTo", "(IZZ)I"⟩, prog_14_method_38_code, 6, (some (.int)), 14, 4)
def mt_T121 : mt_Row := (⟨"HealBenchModel", "isChoice", "(II)Z"⟩, prog_14_method_35_code, 3, (some (.boolean)), 14, 3)
def mt_T122 : mt_Row := (⟨"HealBenchModel", "behind", "(II)I"⟩, prog_14_method_36_code, 5, (some (.int)), 14, 3)
def mt_T123 : mt_Row := (⟨"HealBenchModel", "isStuck", "()Z"⟩, prog_14_method_40_code, 2, (some (.boolean)), 14, 1)
def mt_T124 : mt_Row := (⟨"HealBenchModel", "goesRound", "()Z"⟩, prog_14_method_41_code, 6, (some (.boolean)), 14, 1)
def mt_T125 : mt_Row := (⟨"HealBenchModel", "layFars", "()V"⟩, prog_14_method_42_code, 6, none, 14, 1)
def mt_T126 : mt_Row := (⟨"HealBenchModel", "worst", "()I"⟩, prog_14_method_45_code, 3, (some (.int)), 14, 1)
def mt_T127 : mt_Row := (⟨"HealBenchModel", "far", "(I)I"⟩, prog_14_method_46_code, 2, (some (.int)), 14, 2)
def mt_T128 : mt_Row := (⟨"HealBenchModel", "bad", "(I)I"⟩, prog_14_method_47_code, 2, (some (.int)), 14, 2)
def mt_T129 : mt_Row := (⟨"HealBenchModel", "goods", "()I"⟩, prog_14_method_48_code, 3, (some (.int)), 14, 1)
def mt_T130 : mt_Row := (⟨"HealBenchModel", "state", "()I"⟩, prog_14_method_49_code, 3, (some (.int)), 14, 1)
def mt_T131 : mt_Row := (⟨"HealBenchModel", "set", "(II)I"⟩, prog_14_method_50_code, 4, (some (.int)), 14, 3)
def mt_T132 : mt_Row := (⟨"HealBenchModel", "value", "(I)I"⟩, prog_14_method_51_code, 2, (some (.int)), 14, 2)
def mt_T133 : mt_Row := (⟨"HealBenchModel", "enabled", "(I)I"⟩, prog_14_method_52_code, 2, (some (.int)), 14, 2)
def mt_T134 : mt_Row := (⟨"HealBenchModel", "fire", "(I)I"⟩, prog_14_method_53_code, 4, (some (.int)), 14, 2)
def mt_T135 : mt_Row := (⟨"HealBenchModel", "good", "()Z"⟩, prog_14_method_54_code, 1, (some (.boolean)), 14, 1)
def mt_T136 : mt_Row := (⟨"HealBenchModel", "count", "(I)I"⟩, prog_14_method_55_code, 2, (some (.int)), 14, 2)
def mt_T137 : mt_Row := (⟨"java/util/Arrays", "fill", "([II)V"⟩, prog_22_method_103_code, 4, none, 19, 2)
def mt_T138 : mt_Row := (⟨"java/lang/Integer", "bitCount", "(I)I"⟩, prog_16_method_49_code, 1, (some (.int)), 15, 1)
def mt_T139 : mt_Row := (⟨"java/lang/Math", "floorMod", "(II)I"⟩, prog_17_method_50_code, 3, (some (.int)), 16, 2)
def mt_T140 : mt_Row := (⟨"java/lang/Math", "max", "(II)I"⟩, prog_17_method_65_code, 2, (some (.int)), 16, 2)
def mt_T141 : mt_Row := (⟨"java/lang/Math", "min", "(II)I"⟩, prog_17_method_69_code, 2, (some (.int)), 16, 2)
def mt_T142 : mt_Row := (⟨"java/lang/String", "indexOf", "(I)I"⟩, prog_18_method_79_code, 2, (some (.int)), 17, 2)
def mt_T143 : mt_Row := (⟨"java/lang/String", "indexOf", "(II)I"⟩, prog_18_method_80_code, 3, (some (.int)), 17, 3)
def mt_T144 : mt_Row := (⟨"java/lang/String", "isLatin1", "()Z"⟩, prog_18_method_154_code, 1, (some (.boolean)), 17, 1)
def mt_T145 : mt_Row := (⟨"java/lang/String", "length", "()I"⟩, prog_18_method_54_code, 1, (some (.int)), 17, 1)
def mt_T146 : mt_Row := (⟨"java/lang/String", "coder", "()B"⟩, prog_18_method_152_code, 1, (some (.byte)), 17, 1)
def mt_T147 : mt_Row := (⟨"java/lang/StringLatin1", "indexOf", "([BIII)I"⟩, prog_19_method_22_code, 4, (some (.int)), 18, 4)
def mt_T148 : mt_Row := (⟨"java/lang/StringLatin1", "canEncode", "(I)Z"⟩, prog_19_method_4_code, 1, (some (.boolean)), 18, 1)
def mt_T149 : mt_Row := (⟨"java/lang/StringLatin1", "indexOfChar", "([BIII)I"⟩, prog_19_method_23_code, 6, (some (.int)), 18, 4)
def mt_T : List mt_Row := [mt_T0, mt_T1, mt_T2, mt_T3, mt_T4, mt_T5, mt_T6, mt_T7, mt_T8, mt_T9, mt_T10, mt_T11, mt_T12, mt_T13, mt_T14, mt_T15, mt_T16, mt_T17, mt_T18, mt_T19, mt_T20, mt_T21, mt_T22, mt_T23, mt_T24, mt_T25, mt_T26, mt_T27, mt_T28, mt_T29, mt_T30, mt_T31, mt_T32, mt_T33, mt_T34, mt_T35, mt_T36, mt_T37, mt_T38, mt_T39, mt_T40, mt_T41, mt_T42, mt_T43, mt_T44, mt_T45, mt_T46, mt_T47, mt_T48, mt_T49, mt_T50, mt_T51, mt_T52, mt_T53, mt_T54, mt_T55, mt_T56, mt_T57, mt_T58, mt_T59, mt_T60, mt_T61, mt_T62, mt_T63, mt_T64, mt_T65, mt_T66, mt_T67, mt_T68, mt_T69, mt_T70, mt_T71, mt_T72, mt_T73, mt_T74, mt_T75, mt_T76, mt_T77, mt_T78, mt_T79, mt_T80, mt_T81, mt_T82, mt_T83, mt_T84, mt_T85, mt_T86, mt_T87, mt_T88, mt_T89, mt_T90, mt_T91, mt_T92, mt_T93, mt_T94, mt_T95, mt_T96, mt_T97, mt_T98, mt_T99, mt_T100, mt_T101, mt_T102, mt_T103, mt_T104, mt_T105, mt_T106, mt_T107, mt_T108, mt_T109, mt_T110, mt_T111, mt_T112, mt_T113, mt_T114, mt_T115, mt_T116, mt_T117, mt_T118, mt_T119, mt_T120, mt_T121, mt_T122, mt_T123, mt_T124, mt_T125, mt_T126, mt_T127, mt_T128, mt_T129, mt_T130, mt_T131, mt_T132, mt_T133, mt_T134, mt_T135, mt_T136, mt_T137, mt_T138, mt_T139, mt_T140, mt_T141, mt_T142, mt_T143, mt_T144, mt_T145, mt_T146, mt_T147, mt_T148, mt_T149]
def mt_ty : List (Nat × FieldType) := [(100, .int), (101, .boolean), (102, .char), (200, .object "HealBench$Test"), (201, .object "HealBench$Sum")]
def mt_AO : List String := ["HealBench$Test", "HealBench$Sum"]
def mt_lits : List (List Int32) := [[48, 49, 50, 51, 52, 53, 54, 55, 56, 57, 120, 105, 100, 109, 77, 108, 117, 110, 107], [121, 106]]
def mt_KS : List (String × Nat × String × Nat) := [("HealBench$Reader", 84, "0123456789xidmMlunk", 0), ("HealBench$Reader", 92, "yj", 1)]
def mt_SZ : List (String × String × String × Int32) := [("java/lang/String", "COMPACT_STRINGS", "Z", 1)]
def mt_Pm (r : mt_Row) : Prop := plainFor r.1 = true ∧ Cond.code r.1 r.2.1 r.2.2.1 r.2.2.2.1 ∈ mt_TB ∧ Cond.initialized r.1.cls ∈ mt_TB ∧ (r.1.cls ≠ "java/lang/invoke/MethodHandle" ∧ r.1.cls ≠ "java/lang/invoke/VarHandle") ∧ r.2.2.2.2.2 ≤ r.2.2.1 ∧ r.2.2.1 + 19 ≤ 64
set_option maxRecDepth 100000 in
theorem mt_m1 : mt_Pm mt_T1 := ⟨by decide +kernel, mt_in 27 rfl rfl, mt_in 1 (by decide +kernel) rfl, ⟨by decide +kernel, by decide +kernel⟩, by decide, by decide⟩
set_option maxRecDepth 100000 in
theorem mt_m2 : mt_Pm mt_T2 := ⟨by decide +kernel, mt_in 35 rfl rfl, mt_in 2 (by decide +kernel) rfl, ⟨by decide +kernel, by decide +kernel⟩, by decide, by decide⟩
set_option maxRecDepth 100000 in
theorem mt_m3 : mt_Pm mt_T3 := ⟨by decide +kernel, mt_in 40 rfl rfl, mt_in 2 (by decide +kernel) rfl, ⟨by decide +kernel, by decide +kernel⟩, by decide, by decide⟩
set_option maxRecDepth 100000 in
theorem mt_m4 : mt_Pm mt_T4 := ⟨by decide +kernel, mt_in 83 rfl rfl, mt_in 4 (by decide +kernel) rfl, ⟨by decide +kernel, by decide +kernel⟩, by decide, by decide⟩
set_option maxRecDepth 100000 in
theorem mt_m5 : mt_Pm mt_T5 := ⟨by decide +kernel, mt_in 119 rfl rfl, mt_in 5 (by decide +kernel) rfl, ⟨by decide +kernel, by decide +kernel⟩, by decide, by decide⟩
set_option maxRecDepth 100000 in
theorem mt_m6 : mt_Pm mt_T6 := ⟨by decide +kernel, mt_in 146 rfl rfl, mt_in 6 (by decide +kernel) rfl, ⟨by decide +kernel, by decide +kernel⟩, by decide, by decide⟩
set_option maxRecDepth 100000 in
theorem mt_m7 : mt_Pm mt_T7 := ⟨by decide +kernel, mt_in 245 rfl rfl, mt_in 1 (by decide +kernel) rfl, ⟨by decide +kernel, by decide +kernel⟩, by decide, by decide⟩
set_option maxRecDepth 100000 in
theorem mt_m8 : mt_Pm mt_T8 := ⟨by decide +kernel, mt_in 250 rfl rfl, mt_in 5 (by decide +kernel) rfl, ⟨by decide +kernel, by decide +kernel⟩, by decide, by decide⟩
set_option maxRecDepth 100000 in
theorem mt_m9 : mt_Pm mt_T9 := ⟨by decide +kernel, mt_in 254 rfl rfl, mt_in 5 (by decide +kernel) rfl, ⟨by decide +kernel, by decide +kernel⟩, by decide, by decide⟩
set_option maxRecDepth 100000 in
theorem mt_m10 : mt_Pm mt_T10 := ⟨by decide +kernel, mt_in 258 rfl rfl, mt_in 6 (by decide +kernel) rfl, ⟨by decide +kernel, by decide +kernel⟩, by decide, by decide⟩
set_option maxRecDepth 100000 in
theorem mt_m11 : mt_Pm mt_T11 := ⟨by decide +kernel, mt_in 262 rfl rfl, mt_in 1 (by decide +kernel) rfl, ⟨by decide +kernel, by decide +kernel⟩, by decide, by decide⟩
set_option maxRecDepth 100000 in
theorem mt_m12 : mt_Pm mt_T12 := ⟨by decide +kernel, mt_in 266 rfl rfl, mt_in 1 (by decide +kernel) rfl, ⟨by decide +kernel, by decide +kernel⟩, by decide, by decide⟩
set_option maxRecDepth 100000 in
theorem mt_m13 : mt_Pm mt_T13 := ⟨by decide +kernel, mt_in 270 rfl rfl, mt_in 2 (by decide +kernel) rfl, ⟨by decide +kernel, by decide +kernel⟩, by decide, by decide⟩
set_option maxRecDepth 100000 in
theorem mt_m14 : mt_Pm mt_T14 := ⟨by decide +kernel, mt_in 274 rfl rfl, mt_in 2 (by decide +kernel) rfl, ⟨by decide +kernel, by decide +kernel⟩, by decide, by decide⟩
set_option maxRecDepth 100000 in
theorem mt_m15 : mt_Pm mt_T15 := ⟨by decide +kernel, mt_in 278 rfl rfl, mt_in 2 (by decide +kernel) rfl, ⟨by decide +kernel, by decide +kernel⟩, by decide, by decide⟩
set_option maxRecDepth 100000 in
theorem mt_m16 : mt_Pm mt_T16 := ⟨by decide +kernel, mt_in 282 rfl rfl, mt_in 1 (by decide +kernel) rfl, ⟨by decide +kernel, by decide +kernel⟩, by decide, by decide⟩
set_option maxRecDepth 100000 in
theorem mt_m17 : mt_Pm mt_T17 := ⟨by decide +kernel, mt_in 286 rfl rfl, mt_in 1 (by decide +kernel) rfl, ⟨by decide +kernel, by decide +kernel⟩, by decide, by decide⟩
set_option maxRecDepth 100000 in
theorem mt_m18 : mt_Pm mt_T18 := ⟨by decide +kernel, mt_in 290 rfl rfl, mt_in 1 (by decide +kernel) rfl, ⟨by decide +kernel, by decide +kernel⟩, by decide, by decide⟩
set_option maxRecDepth 100000 in
theorem mt_m19 : mt_Pm mt_T19 := ⟨by decide +kernel, mt_in 298 rfl rfl, mt_in 9 (by decide +kernel) rfl, ⟨by decide +kernel, by decide +kernel⟩, by decide, by decide⟩
set_option maxRecDepth 100000 in
theorem mt_m20 : mt_Pm mt_T20 := ⟨by decide +kernel, mt_in 314 rfl rfl, mt_in 9 (by decide +kernel) rfl, ⟨by decide +kernel, by decide +kernel⟩, by decide, by decide⟩
set_option maxRecDepth 100000 in
theorem mt_m21 : mt_Pm mt_T21 := ⟨by decide +kernel, mt_in 318 rfl rfl, mt_in 9 (by decide +kernel) rfl, ⟨by decide +kernel, by decide +kernel⟩, by decide, by decide⟩
set_option maxRecDepth 100000 in
theorem mt_m22 : mt_Pm mt_T22 := ⟨by decide +kernel, mt_in 322 rfl rfl, mt_in 9 (by decide +kernel) rfl, ⟨by decide +kernel, by decide +kernel⟩, by decide, by decide⟩
set_option maxRecDepth 100000 in
theorem mt_m23 : mt_Pm mt_T23 := ⟨by decide +kernel, mt_in 326 rfl rfl, mt_in 9 (by decide +kernel) rfl, ⟨by decide +kernel, by decide +kernel⟩, by decide, by decide⟩
set_option maxRecDepth 100000 in
theorem mt_m24 : mt_Pm mt_T24 := ⟨by decide +kernel, mt_in 330 rfl rfl, mt_in 9 (by decide +kernel) rfl, ⟨by decide +kernel, by decide +kernel⟩, by decide, by decide⟩
set_option maxRecDepth 100000 in
theorem mt_m25 : mt_Pm mt_T25 := ⟨by decide +kernel, mt_in 335 rfl rfl, mt_in 11 (by decide +kernel) rfl, ⟨by decide +kernel, by decide +kernel⟩, by decide, by decide⟩
set_option maxRecDepth 100000 in
theorem mt_m26 : mt_Pm mt_T26 := ⟨by decide +kernel, mt_in 338 rfl rfl, mt_in 10 (by decide +kernel) rfl, ⟨by decide +kernel, by decide +kernel⟩, by decide, by decide⟩
set_option maxRecDepth 100000 in
theorem mt_m27 : mt_Pm mt_T27 := ⟨by decide +kernel, mt_in 348 rfl rfl, mt_in 9 (by decide +kernel) rfl, ⟨by decide +kernel, by decide +kernel⟩, by decide, by decide⟩
set_option maxRecDepth 100000 in
theorem mt_m28 : mt_Pm mt_T28 := ⟨by decide +kernel, mt_in 352 rfl rfl, mt_in 9 (by decide +kernel) rfl, ⟨by decide +kernel, by decide +kernel⟩, by decide, by decide⟩
set_option maxRecDepth 100000 in
theorem mt_m29 : mt_Pm mt_T29 := ⟨by decide +kernel, mt_in 357 rfl rfl, mt_in 12 (by decide +kernel) rfl, ⟨by decide +kernel, by decide +kernel⟩, by decide, by decide⟩
set_option maxRecDepth 100000 in
theorem mt_m30 : mt_Pm mt_T30 := ⟨by decide +kernel, mt_in 369 rfl rfl, mt_in 9 (by decide +kernel) rfl, ⟨by decide +kernel, by decide +kernel⟩, by decide, by decide⟩
set_option maxRecDepth 100000 in
theorem mt_m31 : mt_Pm mt_T31 := ⟨by decide +kernel, mt_in 373 rfl rfl, mt_in 9 (by decide +kernel) rfl, ⟨by decide +kernel, by decide +kernel⟩, by decide, by decide⟩
set_option maxRecDepth 100000 in
theorem mt_m32 : mt_Pm mt_T32 := ⟨by decide +kernel, mt_in 377 rfl rfl, mt_in 9 (by decide +kernel) rfl, ⟨by decide +kernel, by decide +kernel⟩, by decide, by decide⟩
set_option maxRecDepth 100000 in
theorem mt_m33 : mt_Pm mt_T33 := ⟨by decide +kernel, mt_in 470 rfl rfl, mt_in 19 (by decide +kernel) rfl, ⟨by decide +kernel, by decide +kernel⟩, by decide, by decide⟩
set_option maxRecDepth 100000 in
theorem mt_m34 : mt_Pm mt_T34 := ⟨by decide +kernel, mt_in 490 rfl rfl, mt_in 20 (by decide +kernel) rfl, ⟨by decide +kernel, by decide +kernel⟩, by decide, by decide⟩
set_option maxRecDepth 100000 in
theorem mt_m35 : mt_Pm mt_T35 := ⟨by decide +kernel, mt_in 506 rfl rfl, mt_in 21 (by decide +kernel) rfl, ⟨by decide +kernel, by decide +kernel⟩, by decide, by decide⟩
set_option maxRecDepth 100000 in
theorem mt_m36 : mt_Pm mt_T36 := ⟨by decide +kernel, mt_in 523 rfl rfl, mt_in 9 (by decide +kernel) rfl, ⟨by decide +kernel, by decide +kernel⟩, by decide, by decide⟩
set_option maxRecDepth 100000 in
theorem mt_m37 : mt_Pm mt_T37 := ⟨by decide +kernel, mt_in 527 rfl rfl, mt_in 5 (by decide +kernel) rfl, ⟨by decide +kernel, by decide +kernel⟩, by decide, by decide⟩
set_option maxRecDepth 100000 in
theorem mt_m38 : mt_Pm mt_T38 := ⟨by decide +kernel, mt_in 531 rfl rfl, mt_in 1 (by decide +kernel) rfl, ⟨by decide +kernel, by decide +kernel⟩, by decide, by decide⟩
set_option maxRecDepth 100000 in
theorem mt_m39 : mt_Pm mt_T39 := ⟨by decide +kernel, mt_in 535 rfl rfl, mt_in 5 (by decide +kernel) rfl, ⟨by decide +kernel, by decide +kernel⟩, by decide, by decide⟩
set_option maxRecDepth 100000 in
theorem mt_m40 : mt_Pm mt_T40 := ⟨by decide +kernel, mt_in 539 rfl rfl, mt_in 1 (by decide +kernel) rfl, ⟨by decide +kernel, by decide +kernel⟩, by decide, by decide⟩
set_option maxRecDepth 100000 in
theorem mt_m41 : mt_Pm mt_T41 := ⟨by decide +kernel, mt_in 544 rfl rfl, mt_in 6 (by decide +kernel) rfl, ⟨by decide +kernel, by decide +kernel⟩, by decide, by decide⟩
set_option maxRecDepth 100000 in
theorem mt_m42 : mt_Pm mt_T42 := ⟨by decide +kernel, mt_in 548 rfl rfl, mt_in 1 (by decide +kernel) rfl, ⟨by decide +kernel, by decide +kernel⟩, by decide, by decide⟩
set_option maxRecDepth 100000 in
theorem mt_m43 : mt_Pm mt_T43 := ⟨by decide +kernel, mt_in 552 rfl rfl, mt_in 1 (by decide +kernel) rfl, ⟨by decide +kernel, by decide +kernel⟩, by decide, by decide⟩
set_option maxRecDepth 100000 in
theorem mt_m44 : mt_Pm mt_T44 := ⟨by decide +kernel, mt_in 556 rfl rfl, mt_in 2 (by decide +kernel) rfl, ⟨by decide +kernel, by decide +kernel⟩, by decide, by decide⟩
set_option maxRecDepth 100000 in
theorem mt_m45 : mt_Pm mt_T45 := ⟨by decide +kernel, mt_in 560 rfl rfl, mt_in 1 (by decide +kernel) rfl, ⟨by decide +kernel, by decide +kernel⟩, by decide, by decide⟩
set_option maxRecDepth 100000 in
theorem mt_m46 : mt_Pm mt_T46 := ⟨by decide +kernel, mt_in 564 rfl rfl, mt_in 1 (by decide +kernel) rfl, ⟨by decide +kernel, by decide +kernel⟩, by decide, by decide⟩
set_option maxRecDepth 100000 in
theorem mt_m47 : mt_Pm mt_T47 := ⟨by decide +kernel, mt_in 568 rfl rfl, mt_in 4 (by decide +kernel) rfl, ⟨by decide +kernel, by decide +kernel⟩, by decide, by decide⟩
set_option maxRecDepth 100000 in
theorem mt_m48 : mt_Pm mt_T48 := ⟨by decide +kernel, mt_in 573 rfl rfl, mt_in 4 (by decide +kernel) rfl, ⟨by decide +kernel, by decide +kernel⟩, by decide, by decide⟩
set_option maxRecDepth 100000 in
theorem mt_m49 : mt_Pm mt_T49 := ⟨by decide +kernel, mt_in 586 rfl rfl, mt_in 5 (by decide +kernel) rfl, ⟨by decide +kernel, by decide +kernel⟩, by decide, by decide⟩
set_option maxRecDepth 100000 in
theorem mt_m50 : mt_Pm mt_T50 := ⟨by decide +kernel, mt_in 592 rfl rfl, mt_in 20 (by decide +kernel) rfl, ⟨by decide +kernel, by decide +kernel⟩, by decide, by decide⟩
set_option maxRecDepth 100000 in
theorem mt_m51 : mt_Pm mt_T51 := ⟨by decide +kernel, mt_in 596 rfl rfl, mt_in 19 (by decide +kernel) rfl, ⟨by decide +kernel, by decide +kernel⟩, by decide, by decide⟩
set_option maxRecDepth 100000 in
theorem mt_m52 : mt_Pm mt_T52 := ⟨by decide +kernel, mt_in 602 rfl rfl, mt_in 12 (by decide +kernel) rfl, ⟨by decide +kernel, by decide +kernel⟩, by decide, by decide⟩
set_option maxRecDepth 100000 in
theorem mt_m53 : mt_Pm mt_T53 := ⟨by decide +kernel, mt_in 607 rfl rfl, mt_in 4 (by decide +kernel) rfl, ⟨by decide +kernel, by decide +kernel⟩, by decide, by decide⟩
set_option maxRecDepth 100000 in
theorem mt_m54 : mt_Pm mt_T54 := ⟨by decide +kernel, mt_in 610 rfl rfl, mt_in 11 (by decide +kernel) rfl, ⟨by decide +kernel, by decide +kernel⟩, by decide, by decide⟩
set_option maxRecDepth 100000 in
theorem mt_m55 : mt_Pm mt_T55 := ⟨by decide +kernel, mt_in 613 rfl rfl, mt_in 21 (by decide +kernel) rfl, ⟨by decide +kernel, by decide +kernel⟩, by decide, by decide⟩
set_option maxRecDepth 100000 in
theorem mt_m56 : mt_Pm mt_T56 := ⟨by decide +kernel, mt_in 620 rfl rfl, mt_in 1 (by decide +kernel) rfl, ⟨by decide +kernel, by decide +kernel⟩, by decide, by decide⟩
set_option maxRecDepth 100000 in
theorem mt_m57 : mt_Pm mt_T57 := ⟨by decide +kernel, mt_in 624 rfl rfl, mt_in 1 (by decide +kernel) rfl, ⟨by decide +kernel, by decide +kernel⟩, by decide, by decide⟩
set_option maxRecDepth 100000 in
theorem mt_m58 : mt_Pm mt_T58 := ⟨by decide +kernel, mt_in 628 rfl rfl, mt_in 5 (by decide +kernel) rfl, ⟨by decide +kernel, by decide +kernel⟩, by decide, by decide⟩
set_option maxRecDepth 100000 in
theorem mt_m59 : mt_Pm mt_T59 := ⟨by decide +kernel, mt_in 636 rfl rfl, mt_in 6 (by decide +kernel) rfl, ⟨by decide +kernel, by decide +kernel⟩, by decide, by decide⟩
set_option maxRecDepth 100000 in
theorem mt_m60 : mt_Pm mt_T60 := ⟨by decide +kernel, mt_in 641 rfl rfl, mt_in 1 (by decide +kernel) rfl, ⟨by decide +kernel, by decide +kernel⟩, by decide, by decide⟩
set_option maxRecDepth 100000 in
theorem mt_m61 : mt_Pm mt_T61 := ⟨by decide +kernel, mt_in 645 rfl rfl, mt_in 5 (by decide +kernel) rfl, ⟨by decide +kernel, by decide +kernel⟩, by decide, by decide⟩
set_option maxRecDepth 100000 in
theorem mt_m62 : mt_Pm mt_T62 := ⟨by decide +kernel, mt_in 650 rfl rfl, mt_in 1 (by decide +kernel) rfl, ⟨by decide +kernel, by decide +kernel⟩, by decide, by decide⟩
set_option maxRecDepth 100000 in
theorem mt_m63 : mt_Pm mt_T63 := ⟨by decide +kernel, mt_in 654 rfl rfl, mt_in 1 (by decide +kernel) rfl, ⟨by decide +kernel, by decide +kernel⟩, by decide, by decide⟩
set_option maxRecDepth 100000 in
theorem mt_m64 : mt_Pm mt_T64 := ⟨by decide +kernel, mt_in 658 rfl rfl, mt_in 1 (by decide +kernel) rfl, ⟨by decide +kernel, by decide +kernel⟩, by decide, by decide⟩
set_option maxRecDepth 100000 in
theorem mt_m65 : mt_Pm mt_T65 := ⟨by decide +kernel, mt_in 662 rfl rfl, mt_in 6 (by decide +kernel) rfl, ⟨by decide +kernel, by decide +kernel⟩, by decide, by decide⟩
set_option maxRecDepth 100000 in
theorem mt_m66 : mt_Pm mt_T66 := ⟨by decide +kernel, mt_in 666 rfl rfl, mt_in 6 (by decide +kernel) rfl, ⟨by decide +kernel, by decide +kernel⟩, by decide, by decide⟩
set_option maxRecDepth 100000 in
theorem mt_m67 : mt_Pm mt_T67 := ⟨by decide +kernel, mt_in 673 rfl rfl, mt_in 6 (by decide +kernel) rfl, ⟨by decide +kernel, by decide +kernel⟩, by decide, by decide⟩
set_option maxRecDepth 100000 in
theorem mt_m68 : mt_Pm mt_T68 := ⟨by decide +kernel, mt_in 678 rfl rfl, mt_in 6 (by decide +kernel) rfl, ⟨by decide +kernel, by decide +kernel⟩, by decide, by decide⟩
set_option maxRecDepth 100000 in
theorem mt_m69 : mt_Pm mt_T69 := ⟨by decide +kernel, mt_in 682 rfl rfl, mt_in 6 (by decide +kernel) rfl, ⟨by decide +kernel, by decide +kernel⟩, by decide, by decide⟩
set_option maxRecDepth 100000 in
theorem mt_m70 : mt_Pm mt_T70 := ⟨by decide +kernel, mt_in 687 rfl rfl, mt_in 6 (by decide +kernel) rfl, ⟨by decide +kernel, by decide +kernel⟩, by decide, by decide⟩
set_option maxRecDepth 100000 in
theorem mt_m71 : mt_Pm mt_T71 := ⟨by decide +kernel, mt_in 691 rfl rfl, mt_in 6 (by decide +kernel) rfl, ⟨by decide +kernel, by decide +kernel⟩, by decide, by decide⟩
set_option maxRecDepth 100000 in
theorem mt_m72 : mt_Pm mt_T72 := ⟨by decide +kernel, mt_in 695 rfl rfl, mt_in 6 (by decide +kernel) rfl, ⟨by decide +kernel, by decide +kernel⟩, by decide, by decide⟩
set_option maxRecDepth 100000 in
theorem mt_m73 : mt_Pm mt_T73 := ⟨by decide +kernel, mt_in 699 rfl rfl, mt_in 6 (by decide +kernel) rfl, ⟨by decide +kernel, by decide +kernel⟩, by decide, by decide⟩
set_option maxRecDepth 100000 in
theorem mt_m74 : mt_Pm mt_T74 := ⟨by decide +kernel, mt_in 703 rfl rfl, mt_in 6 (by decide +kernel) rfl, ⟨by decide +kernel, by decide +kernel⟩, by decide, by decide⟩
set_option maxRecDepth 100000 in
theorem mt_m75 : mt_Pm mt_T75 := ⟨by decide +kernel, mt_in 708 rfl rfl, mt_in 6 (by decide +kernel) rfl, ⟨by decide +kernel, by decide +kernel⟩, by decide, by decide⟩
set_option maxRecDepth 100000 in
theorem mt_m76 : mt_Pm mt_T76 := ⟨by decide +kernel, mt_in 714 rfl rfl, mt_in 6 (by decide +kernel) rfl, ⟨by decide +kernel, by decide +kernel⟩, by decide, by decide⟩
set_option maxRecDepth 100000 in
theorem mt_m77 : mt_Pm mt_T77 := ⟨by decide +kernel, mt_in 718 rfl rfl, mt_in 6 (by decide +kernel) rfl, ⟨by decide +kernel, by decide +kernel⟩, by decide, by decide⟩
set_option maxRecDepth 100000 in
theorem mt_m78 : mt_Pm mt_T78 := ⟨by decide +kernel, mt_in 722 rfl rfl, mt_in 1 (by decide +kernel) rfl, ⟨by decide +kernel, by decide +kernel⟩, by decide, by decide⟩
set_option maxRecDepth 100000 in
theorem mt_m79 : mt_Pm mt_T79 := ⟨by decide +kernel, mt_in 726 rfl rfl, mt_in 1 (by decide +kernel) rfl, ⟨by decide +kernel, by decide +kernel⟩, by decide, by decide⟩
set_option maxRecDepth 100000 in
theorem mt_m80 : mt_Pm mt_T80 := ⟨by decide +kernel, mt_in 730 rfl rfl, mt_in 1 (by decide +kernel) rfl, ⟨by decide +kernel, by decide +kernel⟩, by decide, by decide⟩
set_option maxRecDepth 100000 in
theorem mt_m81 : mt_Pm mt_T81 := ⟨by decide +kernel, mt_in 734 rfl rfl, mt_in 1 (by decide +kernel) rfl, ⟨by decide +kernel, by decide +kernel⟩, by decide, by decide⟩
set_option maxRecDepth 100000 in
theorem mt_m82 : mt_Pm mt_T82 := ⟨by decide +kernel, mt_in 739 rfl rfl, mt_in 7 (by decide +kernel) rfl, ⟨by decide +kernel, by decide +kernel⟩, by decide, by decide⟩
set_option maxRecDepth 100000 in
theorem mt_m83 : mt_Pm mt_T83 := ⟨by decide +kernel, mt_in 865 rfl rfl, mt_in 7 (by decide +kernel) rfl, ⟨by decide +kernel, by decide +kernel⟩, by decide, by decide⟩
set_option maxRecDepth 100000 in
theorem mt_m84 : mt_Pm mt_T84 := ⟨by decide +kernel, mt_in 869 rfl rfl, mt_in 7 (by decide +kernel) rfl, ⟨by decide +kernel, by decide +kernel⟩, by decide, by decide⟩
set_option maxRecDepth 100000 in
theorem mt_m85 : mt_Pm mt_T85 := ⟨by decide +kernel, mt_in 872 rfl rfl, mt_in 7 (by decide +kernel) rfl, ⟨by decide +kernel, by decide +kernel⟩, by decide, by decide⟩
set_option maxRecDepth 100000 in
theorem mt_m86 : mt_Pm mt_T86 := ⟨by decide +kernel, mt_in 876 rfl rfl, mt_in 7 (by decide +kernel) rfl, ⟨by decide +kernel, by decide +kernel⟩, by decide, by decide⟩
set_option maxRecDepth 100000 in
theorem mt_m87 : mt_Pm mt_T87 := ⟨by decide +kernel, mt_in 880 rfl rfl, mt_in 7 (by decide +kernel) rfl, ⟨by decide +kernel, by decide +kernel⟩, by decide, by decide⟩
set_option maxRecDepth 100000 in
theorem mt_m88 : mt_Pm mt_T88 := ⟨by decide +kernel, mt_in 884 rfl rfl, mt_in 7 (by decide +kernel) rfl, ⟨by decide +kernel, by decide +kernel⟩, by decide, by decide⟩
set_option maxRecDepth 100000 in
theorem mt_m89 : mt_Pm mt_T89 := ⟨by decide +kernel, mt_in 888 rfl rfl, mt_in 7 (by decide +kernel) rfl, ⟨by decide +kernel, by decide +kernel⟩, by decide, by decide⟩
set_option maxRecDepth 100000 in
theorem mt_m90 : mt_Pm mt_T90 := ⟨by decide +kernel, mt_in 892 rfl rfl, mt_in 7 (by decide +kernel) rfl, ⟨by decide +kernel, by decide +kernel⟩, by decide, by decide⟩
set_option maxRecDepth 100000 in
theorem mt_m91 : mt_Pm mt_T91 := ⟨by decide +kernel, mt_in 896 rfl rfl, mt_in 7 (by decide +kernel) rfl, ⟨by decide +kernel, by decide +kernel⟩, by decide, by decide⟩
set_option maxRecDepth 100000 in
theorem mt_m92 : mt_Pm mt_T92 := ⟨by decide +kernel, mt_in 900 rfl rfl, mt_in 7 (by decide +kernel) rfl, ⟨by decide +kernel, by decide +kernel⟩, by decide, by decide⟩
set_option maxRecDepth 100000 in
theorem mt_m93 : mt_Pm mt_T93 := ⟨by decide +kernel, mt_in 904 rfl rfl, mt_in 7 (by decide +kernel) rfl, ⟨by decide +kernel, by decide +kernel⟩, by decide, by decide⟩
set_option maxRecDepth 100000 in
theorem mt_m94 : mt_Pm mt_T94 := ⟨by decide +kernel, mt_in 908 rfl rfl, mt_in 7 (by decide +kernel) rfl, ⟨by decide +kernel, by decide +kernel⟩, by decide, by decide⟩
set_option maxRecDepth 100000 in
theorem mt_m95 : mt_Pm mt_T95 := ⟨by decide +kernel, mt_in 912 rfl rfl, mt_in 7 (by decide +kernel) rfl, ⟨by decide +kernel, by decide +kernel⟩, by decide, by decide⟩
set_option maxRecDepth 100000 in
theorem mt_m96 : mt_Pm mt_T96 := ⟨by decide +kernel, mt_in 916 rfl rfl, mt_in 7 (by decide +kernel) rfl, ⟨by decide +kernel, by decide +kernel⟩, by decide, by decide⟩
set_option maxRecDepth 100000 in
theorem mt_m97 : mt_Pm mt_T97 := ⟨by decide +kernel, mt_in 920 rfl rfl, mt_in 7 (by decide +kernel) rfl, ⟨by decide +kernel, by decide +kernel⟩, by decide, by decide⟩
set_option maxRecDepth 100000 in
theorem mt_m98 : mt_Pm mt_T98 := ⟨by decide +kernel, mt_in 924 rfl rfl, mt_in 7 (by decide +kernel) rfl, ⟨by decide +kernel, by decide +kernel⟩, by decide, by decide⟩
set_option maxRecDepth 100000 in
theorem mt_m99 : mt_Pm mt_T99 := ⟨by decide +kernel, mt_in 928 rfl rfl, mt_in 7 (by decide +kernel) rfl, ⟨by decide +kernel, by decide +kernel⟩, by decide, by decide⟩
set_option maxRecDepth 100000 in
theorem mt_m100 : mt_Pm mt_T100 := ⟨by decide +kernel, mt_in 932 rfl rfl, mt_in 7 (by decide +kernel) rfl, ⟨by decide +kernel, by decide +kernel⟩, by decide, by decide⟩
set_option maxRecDepth 100000 in
theorem mt_m101 : mt_Pm mt_T101 := ⟨by decide +kernel, mt_in 936 rfl rfl, mt_in 7 (by decide +kernel) rfl, ⟨by decide +kernel, by decide +kernel⟩, by decide, by decide⟩
set_option maxRecDepth 100000 in
theorem mt_m102 : mt_Pm mt_T102 := ⟨by decide +kernel, mt_in 940 rfl rfl, mt_in 7 (by decide +kernel) rfl, ⟨by decide +kernel, by decide +kernel⟩, by decide, by decide⟩
set_option maxRecDepth 100000 in
theorem mt_m103 : mt_Pm mt_T103 := ⟨by decide +kernel, mt_in 944 rfl rfl, mt_in 7 (by decide +kernel) rfl, ⟨by decide +kernel, by decide +kernel⟩, by decide, by decide⟩
set_option maxRecDepth 100000 in
theorem mt_m104 : mt_Pm mt_T104 := ⟨by decide +kernel, mt_in 948 rfl rfl, mt_in 7 (by decide +kernel) rfl, ⟨by decide +kernel, by decide +kernel⟩, by decide, by decide⟩
set_option maxRecDepth 100000 in
theorem mt_m105 : mt_Pm mt_T105 := ⟨by decide +kernel, mt_in 952 rfl rfl, mt_in 7 (by decide +kernel) rfl, ⟨by decide +kernel, by decide +kernel⟩, by decide, by decide⟩
set_option maxRecDepth 100000 in
theorem mt_m106 : mt_Pm mt_T106 := ⟨by decide +kernel, mt_in 956 rfl rfl, mt_in 7 (by decide +kernel) rfl, ⟨by decide +kernel, by decide +kernel⟩, by decide, by decide⟩
set_option maxRecDepth 100000 in
theorem mt_m107 : mt_Pm mt_T107 := ⟨by decide +kernel, mt_in 960 rfl rfl, mt_in 7 (by decide +kernel) rfl, ⟨by decide +kernel, by decide +kernel⟩, by decide, by decide⟩
set_option maxRecDepth 100000 in
theorem mt_m108 : mt_Pm mt_T108 := ⟨by decide +kernel, mt_in 964 rfl rfl, mt_in 7 (by decide +kernel) rfl, ⟨by decide +kernel, by decide +kernel⟩, by decide, by decide⟩
set_option maxRecDepth 100000 in
theorem mt_m109 : mt_Pm mt_T109 := ⟨by decide +kernel, mt_in 968 rfl rfl, mt_in 7 (by decide +kernel) rfl, ⟨by decide +kernel, by decide +kernel⟩, by decide, by decide⟩
set_option maxRecDepth 100000 in
theorem mt_m110 : mt_Pm mt_T110 := ⟨by decide +kernel, mt_in 972 rfl rfl, mt_in 7 (by decide +kernel) rfl, ⟨by decide +kernel, by decide +kernel⟩, by decide, by decide⟩
set_option maxRecDepth 100000 in
theorem mt_m111 : mt_Pm mt_T111 := ⟨by decide +kernel, mt_in 976 rfl rfl, mt_in 7 (by decide +kernel) rfl, ⟨by decide +kernel, by decide +kernel⟩, by decide, by decide⟩
set_option maxRecDepth 100000 in
theorem mt_m112 : mt_Pm mt_T112 := ⟨by decide +kernel, mt_in 980 rfl rfl, mt_in 7 (by decide +kernel) rfl, ⟨by decide +kernel, by decide +kernel⟩, by decide, by decide⟩
set_option maxRecDepth 100000 in
theorem mt_m113 : mt_Pm mt_T113 := ⟨by decide +kernel, mt_in 983 rfl rfl, mt_in 7 (by decide +kernel) rfl, ⟨by decide +kernel, by decide +kernel⟩, by decide, by decide⟩
set_option maxRecDepth 100000 in
theorem mt_m114 : mt_Pm mt_T114 := ⟨by decide +kernel, mt_in 986 rfl rfl, mt_in 7 (by decide +kernel) rfl, ⟨by decide +kernel, by decide +kernel⟩, by decide, by decide⟩
set_option maxRecDepth 100000 in
theorem mt_m115 : mt_Pm mt_T115 := ⟨by decide +kernel, mt_in 990 rfl rfl, mt_in 7 (by decide +kernel) rfl, ⟨by decide +kernel, by decide +kernel⟩, by decide, by decide⟩
set_option maxRecDepth 100000 in
theorem mt_m116 : mt_Pm mt_T116 := ⟨by decide +kernel, mt_in 994 rfl rfl, mt_in 7 (by decide +kernel) rfl, ⟨by decide +kernel, by decide +kernel⟩, by decide, by decide⟩
set_option maxRecDepth 100000 in
theorem mt_m117 : mt_Pm mt_T117 := ⟨by decide +kernel, mt_in 998 rfl rfl, mt_in 7 (by decide +kernel) rfl, ⟨by decide +kernel, by decide +kernel⟩, by decide, by decide⟩
set_option maxRecDepth 100000 in
theorem mt_m118 : mt_Pm mt_T118 := ⟨by decide +kernel, mt_in 1002 rfl rfl, mt_in 7 (by decide +kernel) rfl, ⟨by decide +kernel, by decide +kernel⟩, by decide, by decide⟩
set_option maxRecDepth 100000 in
theorem mt_m119 : mt_Pm mt_T119 := ⟨by decide +kernel, mt_in 1006 rfl rfl, mt_in 7 (by decide +kernel) rfl, ⟨by decide +kernel, by decide +kernel⟩, by decide, by decide⟩
set_option maxRecDepth 100000 in
theorem mt_m120 : mt_Pm mt_T120 := ⟨by decide +kernel, mt_in 1010 rfl rfl, mt_in 7 (by decide +kernel) rfl, ⟨by decide +kernel, by decide +kernel⟩, by decide, by decide⟩
set_option maxRecDepth 100000 in
theorem mt_m121 : mt_Pm mt_T121 := ⟨by decide +kernel, mt_in 1014 rfl rfl, mt_in 7 (by decide +kernel) rfl, ⟨by decide +kernel, by decide +kernel⟩, by decide, by decide⟩
set_option maxRecDepth 100000 in
theorem mt_m122 : mt_Pm mt_T122 := ⟨by decide +kernel, mt_in 1018 rfl rfl, mt_in 7 (by decide +kernel) rfl, ⟨by decide +kernel, by decide +kernel⟩, by decide, by decide⟩
set_option maxRecDepth 100000 in
theorem mt_m123 : mt_Pm mt_T123 := ⟨by decide +kernel, mt_in 1022 rfl rfl, mt_in 7 (by decide +kernel) rfl, ⟨by decide +kernel, by decide +kernel⟩, by decide, by decide⟩
set_option maxRecDepth 100000 in
theorem mt_m124 : mt_Pm mt_T124 := ⟨by decide +kernel, mt_in 1026 rfl rfl, mt_in 7 (by decide +kernel) rfl, ⟨by decide +kernel, by decide +kernel⟩, by decide, by decide⟩
set_option maxRecDepth 100000 in
theorem mt_m125 : mt_Pm mt_T125 := ⟨by decide +kernel, mt_in 1030 rfl rfl, mt_in 7 (by decide +kernel) rfl, ⟨by decide +kernel, by decide +kernel⟩, by decide, by decide⟩
set_option maxRecDepth 100000 in
theorem mt_m126 : mt_Pm mt_T126 := ⟨by decide +kernel, mt_in 1034 rfl rfl, mt_in 7 (by decide +kernel) rfl, ⟨by decide +kernel, by decide +kernel⟩, by decide, by decide⟩
set_option maxRecDepth 100000 in
theorem mt_m127 : mt_Pm mt_T127 := ⟨by decide +kernel, mt_in 1038 rfl rfl, mt_in 7 (by decide +kernel) rfl, ⟨by decide +kernel, by decide +kernel⟩, by decide, by decide⟩
set_option maxRecDepth 100000 in
theorem mt_m128 : mt_Pm mt_T128 := ⟨by decide +kernel, mt_in 1042 rfl rfl, mt_in 7 (by decide +kernel) rfl, ⟨by decide +kernel, by decide +kernel⟩, by decide, by decide⟩
set_option maxRecDepth 100000 in
theorem mt_m129 : mt_Pm mt_T129 := ⟨by decide +kernel, mt_in 1046 rfl rfl, mt_in 7 (by decide +kernel) rfl, ⟨by decide +kernel, by decide +kernel⟩, by decide, by decide⟩
set_option maxRecDepth 100000 in
theorem mt_m130 : mt_Pm mt_T130 := ⟨by decide +kernel, mt_in 1050 rfl rfl, mt_in 7 (by decide +kernel) rfl, ⟨by decide +kernel, by decide +kernel⟩, by decide, by decide⟩
set_option maxRecDepth 100000 in
theorem mt_m131 : mt_Pm mt_T131 := ⟨by decide +kernel, mt_in 1054 rfl rfl, mt_in 7 (by decide +kernel) rfl, ⟨by decide +kernel, by decide +kernel⟩, by decide, by decide⟩
set_option maxRecDepth 100000 in
theorem mt_m132 : mt_Pm mt_T132 := ⟨by decide +kernel, mt_in 1058 rfl rfl, mt_in 7 (by decide +kernel) rfl, ⟨by decide +kernel, by decide +kernel⟩, by decide, by decide⟩
set_option maxRecDepth 100000 in
theorem mt_m133 : mt_Pm mt_T133 := ⟨by decide +kernel, mt_in 1062 rfl rfl, mt_in 7 (by decide +kernel) rfl, ⟨by decide +kernel, by decide +kernel⟩, by decide, by decide⟩
set_option maxRecDepth 100000 in
theorem mt_m134 : mt_Pm mt_T134 := ⟨by decide +kernel, mt_in 1067 rfl rfl, mt_in 7 (by decide +kernel) rfl, ⟨by decide +kernel, by decide +kernel⟩, by decide, by decide⟩
set_option maxRecDepth 100000 in
theorem mt_m135 : mt_Pm mt_T135 := ⟨by decide +kernel, mt_in 1071 rfl rfl, mt_in 7 (by decide +kernel) rfl, ⟨by decide +kernel, by decide +kernel⟩, by decide, by decide⟩
set_option maxRecDepth 100000 in
theorem mt_m136 : mt_Pm mt_T136 := ⟨by decide +kernel, mt_in 1075 rfl rfl, mt_in 7 (by decide +kernel) rfl, ⟨by decide +kernel, by decide +kernel⟩, by decide, by decide⟩
set_option maxRecDepth 100000 in
theorem mt_m137 : mt_Pm mt_T137 := ⟨by decide +kernel, mt_in 43 rfl rfl, mt_in 3 (by decide +kernel) rfl, ⟨by decide +kernel, by decide +kernel⟩, by decide, by decide⟩
set_option maxRecDepth 100000 in
theorem mt_m138 : mt_Pm mt_T138 := ⟨by decide +kernel, mt_in 576 rfl rfl, mt_in 22 (by decide +kernel) rfl, ⟨by decide +kernel, by decide +kernel⟩, by decide, by decide⟩
set_option maxRecDepth 100000 in
theorem mt_m139 : mt_Pm mt_T139 := ⟨by decide +kernel, mt_in 599 rfl rfl, mt_in 15 (by decide +kernel) rfl, ⟨by decide +kernel, by decide +kernel⟩, by decide, by decide⟩
set_option maxRecDepth 100000 in
theorem mt_m140 : mt_Pm mt_T140 := ⟨by decide +kernel, mt_in 409 rfl rfl, mt_in 15 (by decide +kernel) rfl, ⟨by decide +kernel, by decide +kernel⟩, by decide, by decide⟩
set_option maxRecDepth 100000 in
theorem mt_m141 : mt_Pm mt_T141 := ⟨by decide +kernel, mt_in 412 rfl rfl, mt_in 15 (by decide +kernel) rfl, ⟨by decide +kernel, by decide +kernel⟩, by decide, by decide⟩
set_option maxRecDepth 100000 in
theorem mt_m142 : mt_Pm mt_T142 := ⟨by decide +kernel, mt_in 382 rfl rfl, mt_in 13 (by decide +kernel) rfl, ⟨by decide +kernel, by decide +kernel⟩, by decide, by decide⟩
set_option maxRecDepth 100000 in
theorem mt_m143 : mt_Pm mt_T143 := ⟨by decide +kernel, mt_in 386 rfl rfl, mt_in 13 (by decide +kernel) rfl, ⟨by decide +kernel, by decide +kernel⟩, by decide, by decide⟩
set_option maxRecDepth 100000 in
theorem mt_m144 : mt_Pm mt_T144 := ⟨by decide +kernel, mt_in 390 rfl rfl, mt_in 13 (by decide +kernel) rfl, ⟨by decide +kernel, by decide +kernel⟩, by decide, by decide⟩
set_option maxRecDepth 100000 in
theorem mt_m145 : mt_Pm mt_T145 := ⟨by decide +kernel, mt_in 396 rfl rfl, mt_in 13 (by decide +kernel) rfl, ⟨by decide +kernel, by decide +kernel⟩, by decide, by decide⟩
set_option maxRecDepth 100000 in
theorem mt_m146 : mt_Pm mt_T146 := ⟨by decide +kernel, mt_in 400 rfl rfl, mt_in 13 (by decide +kernel) rfl, ⟨by decide +kernel, by decide +kernel⟩, by decide, by decide⟩
set_option maxRecDepth 100000 in
theorem mt_m147 : mt_Pm mt_T147 := ⟨by decide +kernel, mt_in 403 rfl rfl, mt_in 14 (by decide +kernel) rfl, ⟨by decide +kernel, by decide +kernel⟩, by decide, by decide⟩
set_option maxRecDepth 100000 in
theorem mt_m148 : mt_Pm mt_T148 := ⟨by decide +kernel, mt_in 406 rfl rfl, mt_in 14 (by decide +kernel) rfl, ⟨by decide +kernel, by decide +kernel⟩, by decide, by decide⟩
set_option maxRecDepth 100000 in
theorem mt_m149 : mt_Pm mt_T149 := ⟨by decide +kernel, mt_in 415 rfl rfl, mt_in 14 (by decide +kernel) rfl, ⟨by decide +kernel, by decide +kernel⟩, by decide, by decide⟩
end
section
/-! What the tables' rows must say. -/
def mt_row (i : Nat) : mt_Row := mt_T.getD i (⟨"", "", ""⟩, ⟨#[]⟩, 0, none, 0, 0)
def mt_y (i : Nat) : MethodName := (mt_row i).1
def mt_b (i : Nat) : ByteArray := (mt_row i).2.1
def mt_L (i : Nat) : Nat := (mt_row i).2.2.1
def mt_ret (i : Nat) : Option FieldType := (mt_row i).2.2.2.1
def mt_on (i : Nat) : Nat := (mt_row i).2.2.2.2.1
def mt_n (i : Nat) : Nat := (mt_row i).2.2.2.2.2
def mt_cf (ci : Nat) : List FieldType := mt_fts.getD ci []
def mj_isR : FieldType → Bool
  | .object _ => true
  | .array _ => true
  | _ => false
def mj_fr (ci k : Nat) : Bool := mj_isR ((mt_cf ci).getD k .int)
def mt_lkF (own : String) (i : Nat) (f : String × String × String × Bool) : Prop := Cond.fieldLink own i f.1 f.2.1 f.2.2.1 ∈ mt_TB ∨ ∃ host, Cond.fieldLinkNest own i f.1 f.2.1 f.2.2.1 host ∈ mt_NW
def mt_Pf (e : (Nat × Nat) × (Nat × Nat)) : Prop := ∃ r : vw_C, mt_cl[e.2.1]? = some r ∧ e.2.2 < r.2.2 ∧ mt_lkF (mt_cn e.1.1) e.1.2 (r.2.1 e.2.2)
def mt_Pp (e : (Nat × Nat) × (Nat × Nat × Bool)) : Prop := ∃ r : vw_C, mt_cl[e.2.1]? = some r ∧ e.2.2.1 < r.2.2 ∧ (r.2.1 e.2.2.1).2.2.2 = e.2.2.2 ∧ (match e.2.2.2 with
  | true => Cond.fieldLink (mt_cn e.1.1) e.1.2 (r.2.1 e.2.2.1).1 (r.2.1 e.2.2.1).2.1 (r.2.1 e.2.2.1).2.2.1 ∈ mt_TB ∧ (r.2.1 e.2.2.1).1 = mt_cn e.1.1
  | false => mt_lkF (mt_cn e.1.1) e.1.2 (r.2.1 e.2.2.1))
def mt_Pl (e : (Nat × Nat) × Nat) : Prop := (e.2 = 0 → Cond.fieldLink (mt_cn e.1.1) e.1.2 "java/lang/String" "value" "[B" ∈ mt_TB) ∧ (e.2 = 1 → Cond.fieldLink (mt_cn e.1.1) e.1.2 "java/lang/String" "coder" "B" ∈ mt_TB)
def mt_Ps (e : (Nat × Nat) × Int32) : Prop := ∃ (C n f : String), (C, n, f, e.2) ∈ mt_SZ ∧ Cond.fieldLink (mt_cn e.1.1) e.1.2 C n f ∈ mt_TB
def mt_Pk (e : (Nat × Nat) × Value) : Prop := (∃ x : Int32, e.2 = .int x ∧ Cond.constant (mt_cn e.1.1) e.1.2 x ∈ mt_TB) ∨ ∃ (j : Nat) (tx : String), e.2 = .retAddr (2 * j + 1) ∧ (mt_cn e.1.1, e.1.2, tx, j) ∈ mt_KS
def mt_Pn (e : (Nat × Nat) × Nat) : Prop := ∃ r : vw_C, mt_cl[e.2]? = some r ∧ Cond.classLink (mt_cn e.1.1) e.1.2 r.1 ∈ mt_TB ∧ Cond.instantiable r.1 r.2.2 ∈ mt_TB ∧ Cond.initialized r.1 ∈ mt_TB
def mt_Pa (e : (Nat × Nat) × Nat) : Prop := ∃ (t : Nat) (C : String), mt_ty[t]? = some (e.2, FieldType.object C) ∧ 200 ≤ e.2 ∧ Cond.classLink (mt_cn e.1.1) e.1.2 C ∈ mt_TB ∧ C ∈ mt_AO
def mt_lkM (own : String) (i : Nat) (y : MethodName) : Prop := Cond.methodLink own i y ∈ mt_TB ∨ ∃ host, Cond.methodLinkNest own i y host ∈ mt_NW
def mt_Pms (e : (Nat × Nat) × Nat) : Prop := (e.2 = 9999 → Cond.methodLink (mt_cn e.1.1) e.1.2 arraycopyName ∈ mt_TB) ∧ (¬ e.2 = 9999 → (0 < e.2 ∧ e.2 < mt_T.length) ∧ mt_lkM (mt_cn e.1.1) e.1.2 (mt_y e.2) ∧ Cond.static (mt_y e.2) ∈ mt_TB ∧ (parseMethodDescriptor (mt_y e.2).desc).map (fun d => d.parameters.length) = some (mt_n e.2))
def mt_Pmi (e : (Nat × Nat) × Nat) : Prop := (e.2 = 9999 → Cond.methodLink (mt_cn e.1.1) e.1.2 Lib.objectInit ∈ mt_TB) ∧ (¬ e.2 = 9999 → (0 < e.2 ∧ e.2 < mt_T.length) ∧ mt_lkM (mt_cn e.1.1) e.1.2 (mt_y e.2) ∧ Cond.instanceMethod (mt_y e.2) ∈ mt_TB ∧ (mt_y e.2).name = "<init>" ∧ mt_ret e.2 = none ∧ (parseMethodDescriptor (mt_y e.2).desc).map (fun d => d.parameters.length) = some (mt_n e.2 - 1))
/-- how a virtual call of C's method mj is linked at idx -/
def mj_lkV (own : String) (idx : Nat) (C : String) (mj : Nat) : Prop :=
  (Cond.methodLink own idx (mt_y mj) ∈ mt_TB ∧ Cond.selects C (mt_y mj) (mt_y mj) ∈ mt_TB) ∨ (∃ host, Cond.methodLinkNest own idx (mt_y mj) host ∈ mt_NW ∧ Cond.selects C (mt_y mj) (mt_y mj) ∈ mt_TB)
  ∨ ∃ (x : MethodName) (owner : String), Cond.methodLink own idx x ∈ mt_TB ∧ Cond.sameMethod x.cls owner x.name x.desc ∈ mt_TB ∧ Cond.selects C x (mt_y mj) ∈ mt_TB ∧ Cond.declares ⟨owner, x.name, x.desc⟩ ∈ mt_NW ∧ owner ≠ "java/lang/invoke/MethodHandle" ∧ owner ≠ "java/lang/invoke/VarHandle" ∧ x.desc = (mt_y mj).desc
def mt_Pv1 (own : String) (idx : Nat) (q : Nat × Nat) : Prop := (0 < q.2 ∧ q.2 < mt_T.length) ∧ Cond.instanceMethod (mt_y q.2) ∈ mt_TB ∧ (parseMethodDescriptor (mt_y q.2).desc).map (fun d => d.parameters.length) = some (mt_n q.2 - 1) ∧ ∃ r : vw_C, mt_cl[q.1]? = some r ∧ mj_lkV own idx r.1 q.2
def mt_Pmv (e : (Nat × Nat) × (Nat × List (Nat × Nat))) : Prop := ∀ q ∈ e.2.2, mt_Pv1 (mt_cn e.1.1) e.1.2 q
def mt_Pml (e : (Nat × Nat) × Nat) : Prop := (0 < e.2 ∧ e.2 < mt_T.length) ∧ Cond.instanceMethod (mt_y e.2) ∈ mt_TB ∧ (parseMethodDescriptor (mt_y e.2).desc).map (fun d => d.parameters.length) = some (mt_n e.2 - 1) ∧ mj_lkV (mt_cn e.1.1) e.1.2 "java/lang/String" e.2
def mt_Pb (q : Nat × Nat) : Prop := ∃ (t : Nat) (C : String) (r : vw_C), mt_ty[t]? = some (q.2, FieldType.object C) ∧ 200 ≤ q.2 ∧ mt_cl[q.1]? = some r ∧ (r.1 = C ∨ Cond.castable r.1 C ∈ mt_NW)
def mt_Pc (ci : Nat) (r : vw_C) : Prop := ci < 100 ∧ r.2.2 = (mt_cf ci).length ∧ (∀ k, k < r.2.2 → parseFieldDescriptor (r.2.1 k).2.2.1 = some ((mt_cf ci).getD k .int)) ∧ (∀ a, a < r.2.2 → ∀ b, b < r.2.2 → a ≠ b → (r.2.1 a).2.1 ≠ (r.2.1 b).2.1) ∧ (∀ w ∈ u_ws r.1 r.2.1 r.2.2, w ∈ mt_TB) ∧ ∀ k, k < r.2.2 → defaultValue ((mt_cf ci).getD k .int) = if mj_fr ci k then .null else .int 0
end
section
/-! The tables, on: links. -/
theorem mt_ty0 : mt_ty[0]? = some (100, .int) := rfl
theorem mt_ty1 : mt_ty[1]? = some (101, .boolean) := rfl
theorem mt_ty2 : mt_ty[2]? = some (102, .char) := rfl
theorem mt_ty3 : mt_ty[3]? = some (200, .object "HealBench$Test") := rfl
theorem mt_ty4 : mt_ty[4]? = some (201, .object "HealBench$Sum") := rfl
theorem mt_arr0 : Cond.arrayClass .int ∈ mt_TB := mt_in 78 (by decide +kernel) rfl
theorem mt_arr1 : Cond.arrayClass .boolean ∈ mt_TB := mt_in 212 (by decide +kernel) rfl
theorem mt_arr2 : Cond.arrayClass .char ∈ mt_TB := mt_in 241 (by decide +kernel) rfl
set_option maxRecDepth 100000 in
theorem mt_F_r0 : mt_Pf (((1, 10), (0, 0))) := ⟨("HealBench", mt_F0, 9), rfl, by decide, Or.inl (mt_in 213 (by decide +kernel) rfl)⟩
set_option maxRecDepth 100000 in
theorem mt_F_r1 : mt_Pf (((1, 21), (0, 1))) := ⟨("HealBench", mt_F0, 9), rfl, by decide, Or.inl (mt_in 214 (by decide +kernel) rfl)⟩
set_option maxRecDepth 100000 in
theorem mt_F_r2 : mt_Pf (((1, 28), (0, 2))) := ⟨("HealBench", mt_F0, 9), rfl, by decide, Or.inl (mt_in 215 (by decide +kernel) rfl)⟩
set_option maxRecDepth 100000 in
theorem mt_F_r3 : mt_Pf (((1, 37), (0, 3))) := ⟨("HealBench", mt_F0, 9), rfl, by decide, Or.inl (mt_in 216 (by decide +kernel) rfl)⟩
set_option maxRecDepth 100000 in
theorem mt_F_r4 : mt_Pf (((1, 41), (0, 4))) := ⟨("HealBench", mt_F0, 9), rfl, by decide, Or.inl (mt_in 217 (by decide +kernel) rfl)⟩
set_option maxRecDepth 100000 in
theorem mt_F_r5 : mt_Pf (((1, 55), (0, 6))) := ⟨("HealBench", mt_F0, 9), rfl, by decide, Or.inl (mt_in 219 (by decide +kernel) rfl)⟩
set_option maxRecDepth 100000 in
theorem mt_F_r6 : mt_Pf (((1, 62), (2, 5))) := ⟨("HealBench$Graph", mt_F2, 6), rfl, by decide, Or.inr ⟨"HealBench", mt_nin 63 (by decide +kernel) rfl⟩⟩
set_option maxRecDepth 100000 in
theorem mt_F_r7 : mt_Pf (((1, 76), (2, 4))) := ⟨("HealBench$Graph", mt_F2, 6), rfl, by decide, Or.inr ⟨"HealBench", mt_nin 61 (by decide +kernel) rfl⟩⟩
set_option maxRecDepth 100000 in
theorem mt_F_r8 : mt_Pf (((1, 79), (0, 5))) := ⟨("HealBench", mt_F0, 9), rfl, by decide, Or.inl (mt_in 218 (by decide +kernel) rfl)⟩
set_option maxRecDepth 100000 in
theorem mt_F_r9 : mt_Pf (((1, 86), (7, 2))) := ⟨("HealBench$Rules", mt_F7, 5), rfl, by decide, Or.inr ⟨"HealBench", mt_nin 128 (by decide +kernel) rfl⟩⟩
set_option maxRecDepth 100000 in
theorem mt_F_r10 : mt_Pf (((1, 106), (6, 2))) := ⟨("HealBench$Reader", mt_F6, 3), rfl, by decide, Or.inr ⟨"HealBench", mt_nin 303 (by decide +kernel) rfl⟩⟩
set_option maxRecDepth 100000 in
theorem mt_F_r11 : mt_Pf (((1, 123), (8, 12))) := ⟨("HealBench$Search", mt_F8, 18), rfl, by decide, Or.inr ⟨"HealBench", mt_nin 166 (by decide +kernel) rfl⟩⟩
set_option maxRecDepth 100000 in
theorem mt_F_r12 : mt_Pf (((1, 126), (2, 3))) := ⟨("HealBench$Graph", mt_F2, 6), rfl, by decide, Or.inr ⟨"HealBench", mt_nin 59 (by decide +kernel) rfl⟩⟩
set_option maxRecDepth 100000 in
theorem mt_F_r13 : mt_Pf (((1, 133), (2, 1))) := ⟨("HealBench$Graph", mt_F2, 6), rfl, by decide, Or.inr ⟨"HealBench", mt_nin 48 (by decide +kernel) rfl⟩⟩
set_option maxRecDepth 100000 in
theorem mt_F_r14 : mt_Pf (((1, 151), (10, 4))) := ⟨("HealBench$View", mt_F10, 6), rfl, by decide, Or.inr ⟨"HealBench", mt_nin 99 (by decide +kernel) rfl⟩⟩
set_option maxRecDepth 100000 in
theorem mt_F_r15 : mt_Pf (((1, 157), (2, 2))) := ⟨("HealBench$Graph", mt_F2, 6), rfl, by decide, Or.inr ⟨"HealBench", mt_nin 54 (by decide +kernel) rfl⟩⟩
set_option maxRecDepth 100000 in
theorem mt_F_r16 : mt_Pf (((1, 160), (10, 3))) := ⟨("HealBench$View", mt_F10, 6), rfl, by decide, Or.inr ⟨"HealBench", mt_nin 96 (by decide +kernel) rfl⟩⟩
set_option maxRecDepth 100000 in
theorem mt_F_r17 : mt_Pf (((1, 163), (0, 8))) := ⟨("HealBench", mt_F0, 9), rfl, by decide, Or.inl (mt_in 221 (by decide +kernel) rfl)⟩
set_option maxRecDepth 100000 in
theorem mt_F_r18 : mt_Pf (((1, 166), (0, 7))) := ⟨("HealBench", mt_F0, 9), rfl, by decide, Or.inl (mt_in 220 (by decide +kernel) rfl)⟩
set_option maxRecDepth 100000 in
theorem mt_F_r19 : mt_Pf (((1, 176), (8, 13))) := ⟨("HealBench$Search", mt_F8, 18), rfl, by decide, Or.inr ⟨"HealBench", mt_nin 168 (by decide +kernel) rfl⟩⟩
set_option maxRecDepth 100000 in
theorem mt_F_r20 : mt_Pf (((1, 179), (8, 14))) := ⟨("HealBench$Search", mt_F8, 18), rfl, by decide, Or.inr ⟨"HealBench", mt_nin 170 (by decide +kernel) rfl⟩⟩
set_option maxRecDepth 100000 in
theorem mt_F_r21 : mt_Pf (((1, 182), (8, 6))) := ⟨("HealBench$Search", mt_F8, 18), rfl, by decide, Or.inr ⟨"HealBench", mt_nin 157 (by decide +kernel) rfl⟩⟩
set_option maxRecDepth 100000 in
theorem mt_F_r22 : mt_Pf (((1, 185), (8, 11))) := ⟨("HealBench$Search", mt_F8, 18), rfl, by decide, Or.inr ⟨"HealBench", mt_nin 164 (by decide +kernel) rfl⟩⟩
set_option maxRecDepth 100000 in
theorem mt_F_r23 : mt_Pf (((1, 188), (8, 10))) := ⟨("HealBench$Search", mt_F8, 18), rfl, by decide, Or.inr ⟨"HealBench", mt_nin 162 (by decide +kernel) rfl⟩⟩
def mt_F_0 : List ((Nat × Nat) × (Nat × Nat)) := [((1, 10), (0, 0)), ((1, 21), (0, 1)), ((1, 28), (0, 2)), ((1, 37), (0, 3)), ((1, 41), (0, 4)), ((1, 55), (0, 6)), ((1, 62), (2, 5)), ((1, 76), (2, 4)), ((1, 79), (0, 5)), ((1, 86), (7, 2)), ((1, 106), (6, 2)), ((1, 123), (8, 12)), ((1, 126), (2, 3)), ((1, 133), (2, 1)), ((1, 151), (10, 4)), ((1, 157), (2, 2)), ((1, 160), (10, 3)), ((1, 163), (0, 8)), ((1, 166), (0, 7)), ((1, 176), (8, 13)), ((1, 179), (8, 14)), ((1, 182), (8, 6)), ((1, 185), (8, 11)), ((1, 188), (8, 10))]
theorem mt_F_a0 : ∀ e ∈ mt_F_0, mt_Pf e := List.forall_mem_cons.mpr ⟨mt_F_r0, List.forall_mem_cons.mpr ⟨mt_F_r1, List.forall_mem_cons.mpr ⟨mt_F_r2, List.forall_mem_cons.mpr ⟨mt_F_r3, List.forall_mem_cons.mpr ⟨mt_F_r4, List.forall_mem_cons.mpr ⟨mt_F_r5, List.forall_mem_cons.mpr ⟨mt_F_r6, List.forall_mem_cons.mpr ⟨mt_F_r7, List.forall_mem_cons.mpr ⟨mt_F_r8, List.forall_mem_cons.mpr ⟨mt_F_r9, List.forall_mem_cons.mpr ⟨mt_F_r10, List.forall_mem_cons.mpr ⟨mt_F_r11, List.forall_mem_cons.mpr ⟨mt_F_r12, List.forall_mem_cons.mpr ⟨mt_F_r13, List.forall_mem_cons.mpr ⟨mt_F_r14, List.forall_mem_cons.mpr ⟨mt_F_r15, List.forall_mem_cons.mpr ⟨mt_F_r16, List.forall_mem_cons.mpr ⟨mt_F_r17, List.forall_mem_cons.mpr ⟨mt_F_r18, List.forall_mem_cons.mpr ⟨mt_F_r19, List.forall_mem_cons.mpr ⟨mt_F_r20, List.forall_mem_cons.mpr ⟨mt_F_r21, List.forall_mem_cons.mpr ⟨mt_F_r22, List.forall_mem_cons.mpr ⟨mt_F_r23, fun _ h => absurd h List.not_mem_nil⟩⟩⟩⟩⟩⟩⟩⟩⟩⟩⟩⟩⟩⟩⟩⟩⟩⟩⟩⟩⟩⟩⟩⟩
set_option maxRecDepth 100000 in
theorem mt_F_r24 : mt_Pf (((1, 191), (8, 15))) := ⟨("HealBench$Search", mt_F8, 18), rfl, by decide, Or.inr ⟨"HealBench", mt_nin 172 (by decide +kernel) rfl⟩⟩
set_option maxRecDepth 100000 in
theorem mt_F_r25 : mt_Pf (((2, 7), (1, 0))) := ⟨("HealBench$Comparison", mt_F1, 3), rfl, by decide, Or.inl (mt_in 492 (by decide +kernel) rfl)⟩
set_option maxRecDepth 100000 in
theorem mt_F_r26 : mt_Pf (((2, 13), (1, 1))) := ⟨("HealBench$Comparison", mt_F1, 3), rfl, by decide, Or.inl (mt_in 493 (by decide +kernel) rfl)⟩
set_option maxRecDepth 100000 in
theorem mt_F_r27 : mt_Pf (((2, 17), (1, 2))) := ⟨("HealBench$Comparison", mt_F1, 3), rfl, by decide, Or.inl (mt_in 494 (by decide +kernel) rfl)⟩
set_option maxRecDepth 100000 in
theorem mt_F_r28 : mt_Pf (((3, 9), (2, 0))) := ⟨("HealBench$Graph", mt_F2, 6), rfl, by decide, Or.inl (mt_in 44 (by decide +kernel) rfl)⟩
set_option maxRecDepth 100000 in
theorem mt_F_r29 : mt_Pf (((3, 15), (2, 1))) := ⟨("HealBench$Graph", mt_F2, 6), rfl, by decide, Or.inl (mt_in 46 (by decide +kernel) rfl)⟩
set_option maxRecDepth 100000 in
theorem mt_F_r30 : mt_Pf (((3, 22), (2, 2))) := ⟨("HealBench$Graph", mt_F2, 6), rfl, by decide, Or.inl (mt_in 49 (by decide +kernel) rfl)⟩
set_option maxRecDepth 100000 in
theorem mt_F_r31 : mt_Pf (((3, 26), (2, 3))) := ⟨("HealBench$Graph", mt_F2, 6), rfl, by decide, Or.inl (mt_in 55 (by decide +kernel) rfl)⟩
set_option maxRecDepth 100000 in
theorem mt_F_r32 : mt_Pf (((3, 29), (2, 4))) := ⟨("HealBench$Graph", mt_F2, 6), rfl, by decide, Or.inl (mt_in 60 (by decide +kernel) rfl)⟩
set_option maxRecDepth 100000 in
theorem mt_F_r33 : mt_Pf (((3, 32), (2, 5))) := ⟨("HealBench$Graph", mt_F2, 6), rfl, by decide, Or.inl (mt_in 62 (by decide +kernel) rfl)⟩
set_option maxRecDepth 100000 in
theorem mt_F_r34 : mt_Pf (((4, 7), (3, 0))) := ⟨("HealBench$Neighbours", mt_F3, 2), rfl, by decide, Or.inl (mt_in 359 (by decide +kernel) rfl)⟩
set_option maxRecDepth 100000 in
theorem mt_F_r35 : mt_Pf (((4, 13), (3, 1))) := ⟨("HealBench$Neighbours", mt_F3, 2), rfl, by decide, Or.inl (mt_in 360 (by decide +kernel) rfl)⟩
set_option maxRecDepth 100000 in
theorem mt_F_r36 : mt_Pf (((4, 17), (10, 0))) := ⟨("HealBench$View", mt_F10, 6), rfl, by decide, Or.inr ⟨"HealBench", mt_nin 86 (by decide +kernel) rfl⟩⟩
set_option maxRecDepth 100000 in
theorem mt_F_r37 : mt_Pf (((4, 23), (2, 2))) := ⟨("HealBench$Graph", mt_F2, 6), rfl, by decide, Or.inr ⟨"HealBench", mt_nin 51 (by decide +kernel) rfl⟩⟩
set_option maxRecDepth 100000 in
theorem mt_F_r38 : mt_Pf (((4, 29), (10, 5))) := ⟨("HealBench$View", mt_F10, 6), rfl, by decide, Or.inr ⟨"HealBench", mt_nin 100 (by decide +kernel) rfl⟩⟩
set_option maxRecDepth 100000 in
theorem mt_F_r39 : mt_Pf (((5, 7), (4, 0))) := ⟨("HealBench$Not", mt_F4, 1), rfl, by decide, Or.inl (mt_in 340 (by decide +kernel) rfl)⟩
set_option maxRecDepth 100000 in
theorem mt_F_r40 : mt_Pf (((6, 7), (5, 0))) := ⟨("HealBench$Pair", mt_F5, 3), rfl, by decide, Or.inl (mt_in 508 (by decide +kernel) rfl)⟩
set_option maxRecDepth 100000 in
theorem mt_F_r41 : mt_Pf (((6, 13), (5, 1))) := ⟨("HealBench$Pair", mt_F5, 3), rfl, by decide, Or.inl (mt_in 509 (by decide +kernel) rfl)⟩
set_option maxRecDepth 100000 in
theorem mt_F_r42 : mt_Pf (((6, 16), (5, 2))) := ⟨("HealBench$Pair", mt_F5, 3), rfl, by decide, Or.inl (mt_in 510 (by decide +kernel) rfl)⟩
set_option maxRecDepth 100000 in
theorem mt_F_r43 : mt_Pf (((7, 9), (6, 2))) := ⟨("HealBench$Reader", mt_F6, 3), rfl, by decide, Or.inl (mt_in 302 (by decide +kernel) rfl)⟩
set_option maxRecDepth 100000 in
theorem mt_F_r44 : mt_Pf (((7, 15), (6, 0))) := ⟨("HealBench$Reader", mt_F6, 3), rfl, by decide, Or.inl (mt_in 300 (by decide +kernel) rfl)⟩
set_option maxRecDepth 100000 in
theorem mt_F_r45 : mt_Pf (((7, 19), (6, 1))) := ⟨("HealBench$Reader", mt_F6, 3), rfl, by decide, Or.inl (mt_in 301 (by decide +kernel) rfl)⟩
set_option maxRecDepth 100000 in
theorem mt_F_r46 : mt_Pf (((8, 11), (7, 0))) := ⟨("HealBench$Rules", mt_F7, 5), rfl, by decide, Or.inl (mt_in 125 (by decide +kernel) rfl)⟩
set_option maxRecDepth 100000 in
theorem mt_F_r47 : mt_Pf (((8, 19), (7, 1))) := ⟨("HealBench$Rules", mt_F7, 5), rfl, by decide, Or.inl (mt_in 126 (by decide +kernel) rfl)⟩
def mt_F_1 : List ((Nat × Nat) × (Nat × Nat)) := [((1, 191), (8, 15)), ((2, 7), (1, 0)), ((2, 13), (1, 1)), ((2, 17), (1, 2)), ((3, 9), (2, 0)), ((3, 15), (2, 1)), ((3, 22), (2, 2)), ((3, 26), (2, 3)), ((3, 29), (2, 4)), ((3, 32), (2, 5)), ((4, 7), (3, 0)), ((4, 13), (3, 1)), ((4, 17), (10, 0)), ((4, 23), (2, 2)), ((4, 29), (10, 5)), ((5, 7), (4, 0)), ((6, 7), (5, 0)), ((6, 13), (5, 1)), ((6, 16), (5, 2)), ((7, 9), (6, 2)), ((7, 15), (6, 0)), ((7, 19), (6, 1)), ((8, 11), (7, 0)), ((8, 19), (7, 1))]
theorem mt_F_a1 : ∀ e ∈ mt_F_1, mt_Pf e := List.forall_mem_cons.mpr ⟨mt_F_r24, List.forall_mem_cons.mpr ⟨mt_F_r25, List.forall_mem_cons.mpr ⟨mt_F_r26, List.forall_mem_cons.mpr ⟨mt_F_r27, List.forall_mem_cons.mpr ⟨mt_F_r28, List.forall_mem_cons.mpr ⟨mt_F_r29, List.forall_mem_cons.mpr ⟨mt_F_r30, List.forall_mem_cons.mpr ⟨mt_F_r31, List.forall_mem_cons.mpr ⟨mt_F_r32, List.forall_mem_cons.mpr ⟨mt_F_r33, List.forall_mem_cons.mpr ⟨mt_F_r34, List.forall_mem_cons.mpr ⟨mt_F_r35, List.forall_mem_cons.mpr ⟨mt_F_r36, List.forall_mem_cons.mpr ⟨mt_F_r37, List.forall_mem_cons.mpr ⟨mt_F_r38, List.forall_mem_cons.mpr ⟨mt_F_r39, List.forall_mem_cons.mpr ⟨mt_F_r40, List.forall_mem_cons.mpr ⟨mt_F_r41, List.forall_mem_cons.mpr ⟨mt_F_r42, List.forall_mem_cons.mpr ⟨mt_F_r43, List.forall_mem_cons.mpr ⟨mt_F_r44, List.forall_mem_cons.mpr ⟨mt_F_r45, List.forall_mem_cons.mpr ⟨mt_F_r46, List.forall_mem_cons.mpr ⟨mt_F_r47, fun _ h => absurd h List.not_mem_nil⟩⟩⟩⟩⟩⟩⟩⟩⟩⟩⟩⟩⟩⟩⟩⟩⟩⟩⟩⟩⟩⟩⟩⟩
set_option maxRecDepth 100000 in
theorem mt_F_r48 : mt_Pf (((8, 23), (7, 3))) := ⟨("HealBench$Rules", mt_F7, 5), rfl, by decide, Or.inl (mt_in 129 (by decide +kernel) rfl)⟩
set_option maxRecDepth 100000 in
theorem mt_F_r49 : mt_Pf (((8, 27), (7, 2))) := ⟨("HealBench$Rules", mt_F7, 5), rfl, by decide, Or.inl (mt_in 127 (by decide +kernel) rfl)⟩
set_option maxRecDepth 100000 in
theorem mt_F_r50 : mt_Pf (((8, 34), (7, 4))) := ⟨("HealBench$Rules", mt_F7, 5), rfl, by decide, Or.inl (mt_in 130 (by decide +kernel) rfl)⟩
set_option maxRecDepth 100000 in
theorem mt_F_r51 : mt_Pf (((8, 42), (10, 0))) := ⟨("HealBench$View", mt_F10, 6), rfl, by decide, Or.inr ⟨"HealBench", mt_nin 88 (by decide +kernel) rfl⟩⟩
set_option maxRecDepth 100000 in
theorem mt_F_r52 : mt_Pf (((8, 48), (10, 4))) := ⟨("HealBench$View", mt_F10, 6), rfl, by decide, Or.inr ⟨"HealBench", mt_nin 98 (by decide +kernel) rfl⟩⟩
set_option maxRecDepth 100000 in
theorem mt_F_r53 : mt_Pf (((8, 51), (2, 2))) := ⟨("HealBench$Graph", mt_F2, 6), rfl, by decide, Or.inr ⟨"HealBench", mt_nin 53 (by decide +kernel) rfl⟩⟩
set_option maxRecDepth 100000 in
theorem mt_F_r54 : mt_Pf (((8, 64), (10, 3))) := ⟨("HealBench$View", mt_F10, 6), rfl, by decide, Or.inr ⟨"HealBench", mt_nin 95 (by decide +kernel) rfl⟩⟩
set_option maxRecDepth 100000 in
theorem mt_F_r55 : mt_Pf (((8, 71), (2, 3))) := ⟨("HealBench$Graph", mt_F2, 6), rfl, by decide, Or.inr ⟨"HealBench", mt_nin 58 (by decide +kernel) rfl⟩⟩
set_option maxRecDepth 100000 in
theorem mt_F_r56 : mt_Pf (((8, 80), (10, 1))) := ⟨("HealBench$View", mt_F10, 6), rfl, by decide, Or.inr ⟨"HealBench", mt_nin 90 (by decide +kernel) rfl⟩⟩
set_option maxRecDepth 100000 in
theorem mt_F_r57 : mt_Pf (((8, 83), (2, 1))) := ⟨("HealBench$Graph", mt_F2, 6), rfl, by decide, Or.inr ⟨"HealBench", mt_nin 47 (by decide +kernel) rfl⟩⟩
set_option maxRecDepth 100000 in
theorem mt_F_r58 : mt_Pf (((9, 9), (8, 3))) := ⟨("HealBench$Search", mt_F8, 18), rfl, by decide, Or.inl (mt_in 153 (by decide +kernel) rfl)⟩
set_option maxRecDepth 100000 in
theorem mt_F_r59 : mt_Pf (((9, 15), (8, 4))) := ⟨("HealBench$Search", mt_F8, 18), rfl, by decide, Or.inl (mt_in 154 (by decide +kernel) rfl)⟩
set_option maxRecDepth 100000 in
theorem mt_F_r60 : mt_Pf (((9, 18), (8, 5))) := ⟨("HealBench$Search", mt_F8, 18), rfl, by decide, Or.inl (mt_in 155 (by decide +kernel) rfl)⟩
set_option maxRecDepth 100000 in
theorem mt_F_r61 : mt_Pf (((9, 22), (8, 6))) := ⟨("HealBench$Search", mt_F8, 18), rfl, by decide, Or.inl (mt_in 156 (by decide +kernel) rfl)⟩
set_option maxRecDepth 100000 in
theorem mt_F_r62 : mt_Pf (((9, 25), (8, 7))) := ⟨("HealBench$Search", mt_F8, 18), rfl, by decide, Or.inl (mt_in 158 (by decide +kernel) rfl)⟩
set_option maxRecDepth 100000 in
theorem mt_F_r63 : mt_Pf (((9, 28), (8, 8))) := ⟨("HealBench$Search", mt_F8, 18), rfl, by decide, Or.inl (mt_in 159 (by decide +kernel) rfl)⟩
set_option maxRecDepth 100000 in
theorem mt_F_r64 : mt_Pf (((9, 31), (8, 9))) := ⟨("HealBench$Search", mt_F8, 18), rfl, by decide, Or.inl (mt_in 160 (by decide +kernel) rfl)⟩
set_option maxRecDepth 100000 in
theorem mt_F_r65 : mt_Pf (((9, 34), (8, 10))) := ⟨("HealBench$Search", mt_F8, 18), rfl, by decide, Or.inl (mt_in 161 (by decide +kernel) rfl)⟩
set_option maxRecDepth 100000 in
theorem mt_F_r66 : mt_Pf (((9, 37), (8, 12))) := ⟨("HealBench$Search", mt_F8, 18), rfl, by decide, Or.inl (mt_in 165 (by decide +kernel) rfl)⟩
set_option maxRecDepth 100000 in
theorem mt_F_r67 : mt_Pf (((9, 41), (8, 0))) := ⟨("HealBench$Search", mt_F8, 18), rfl, by decide, Or.inl (mt_in 150 (by decide +kernel) rfl)⟩
set_option maxRecDepth 100000 in
theorem mt_F_r68 : mt_Pf (((9, 45), (8, 1))) := ⟨("HealBench$Search", mt_F8, 18), rfl, by decide, Or.inl (mt_in 151 (by decide +kernel) rfl)⟩
set_option maxRecDepth 100000 in
theorem mt_F_r69 : mt_Pf (((9, 54), (8, 2))) := ⟨("HealBench$Search", mt_F8, 18), rfl, by decide, Or.inl (mt_in 152 (by decide +kernel) rfl)⟩
set_option maxRecDepth 100000 in
theorem mt_F_r70 : mt_Pf (((9, 58), (8, 16))) := ⟨("HealBench$Search", mt_F8, 18), rfl, by decide, Or.inl (mt_in 173 (by decide +kernel) rfl)⟩
set_option maxRecDepth 100000 in
theorem mt_F_r71 : mt_Pf (((9, 62), (8, 17))) := ⟨("HealBench$Search", mt_F8, 18), rfl, by decide, Or.inl (mt_in 174 (by decide +kernel) rfl)⟩
def mt_F_2 : List ((Nat × Nat) × (Nat × Nat)) := [((8, 23), (7, 3)), ((8, 27), (7, 2)), ((8, 34), (7, 4)), ((8, 42), (10, 0)), ((8, 48), (10, 4)), ((8, 51), (2, 2)), ((8, 64), (10, 3)), ((8, 71), (2, 3)), ((8, 80), (10, 1)), ((8, 83), (2, 1)), ((9, 9), (8, 3)), ((9, 15), (8, 4)), ((9, 18), (8, 5)), ((9, 22), (8, 6)), ((9, 25), (8, 7)), ((9, 28), (8, 8)), ((9, 31), (8, 9)), ((9, 34), (8, 10)), ((9, 37), (8, 12)), ((9, 41), (8, 0)), ((9, 45), (8, 1)), ((9, 54), (8, 2)), ((9, 58), (8, 16)), ((9, 62), (8, 17))]
theorem mt_F_a2 : ∀ e ∈ mt_F_2, mt_Pf e := List.forall_mem_cons.mpr ⟨mt_F_r48, List.forall_mem_cons.mpr ⟨mt_F_r49, List.forall_mem_cons.mpr ⟨mt_F_r50, List.forall_mem_cons.mpr ⟨mt_F_r51, List.forall_mem_cons.mpr ⟨mt_F_r52, List.forall_mem_cons.mpr ⟨mt_F_r53, List.forall_mem_cons.mpr ⟨mt_F_r54, List.forall_mem_cons.mpr ⟨mt_F_r55, List.forall_mem_cons.mpr ⟨mt_F_r56, List.forall_mem_cons.mpr ⟨mt_F_r57, List.forall_mem_cons.mpr ⟨mt_F_r58, List.forall_mem_cons.mpr ⟨mt_F_r59, List.forall_mem_cons.mpr ⟨mt_F_r60, List.forall_mem_cons.mpr ⟨mt_F_r61, List.forall_mem_cons.mpr ⟨mt_F_r62, List.forall_mem_cons.mpr ⟨mt_F_r63, List.forall_mem_cons.mpr ⟨mt_F_r64, List.forall_mem_cons.mpr ⟨mt_F_r65, List.forall_mem_cons.mpr ⟨mt_F_r66, List.forall_mem_cons.mpr ⟨mt_F_r67, List.forall_mem_cons.mpr ⟨mt_F_r68, List.forall_mem_cons.mpr ⟨mt_F_r69, List.forall_mem_cons.mpr ⟨mt_F_r70, List.forall_mem_cons.mpr ⟨mt_F_r71, fun _ h => absurd h List.not_mem_nil⟩⟩⟩⟩⟩⟩⟩⟩⟩⟩⟩⟩⟩⟩⟩⟩⟩⟩⟩⟩⟩⟩⟩⟩
set_option maxRecDepth 100000 in
theorem mt_F_r72 : mt_Pf (((9, 77), (8, 11))) := ⟨("HealBench$Search", mt_F8, 18), rfl, by decide, Or.inl (mt_in 163 (by decide +kernel) rfl)⟩
set_option maxRecDepth 100000 in
theorem mt_F_r73 : mt_Pf (((9, 84), (8, 13))) := ⟨("HealBench$Search", mt_F8, 18), rfl, by decide, Or.inl (mt_in 167 (by decide +kernel) rfl)⟩
set_option maxRecDepth 100000 in
theorem mt_F_r74 : mt_Pf (((9, 87), (2, 5))) := ⟨("HealBench$Graph", mt_F2, 6), rfl, by decide, Or.inr ⟨"HealBench", mt_nin 64 (by decide +kernel) rfl⟩⟩
set_option maxRecDepth 100000 in
theorem mt_F_r75 : mt_Pf (((9, 102), (10, 4))) := ⟨("HealBench$View", mt_F10, 6), rfl, by decide, Or.inr ⟨"HealBench", mt_nin 97 (by decide +kernel) rfl⟩⟩
set_option maxRecDepth 100000 in
theorem mt_F_r76 : mt_Pf (((9, 104), (10, 3))) := ⟨("HealBench$View", mt_F10, 6), rfl, by decide, Or.inr ⟨"HealBench", mt_nin 94 (by decide +kernel) rfl⟩⟩
set_option maxRecDepth 100000 in
theorem mt_F_r77 : mt_Pf (((9, 105), (2, 2))) := ⟨("HealBench$Graph", mt_F2, 6), rfl, by decide, Or.inr ⟨"HealBench", mt_nin 52 (by decide +kernel) rfl⟩⟩
set_option maxRecDepth 100000 in
theorem mt_F_r78 : mt_Pf (((9, 114), (8, 15))) := ⟨("HealBench$Search", mt_F8, 18), rfl, by decide, Or.inl (mt_in 171 (by decide +kernel) rfl)⟩
set_option maxRecDepth 100000 in
theorem mt_F_r79 : mt_Pf (((9, 145), (8, 14))) := ⟨("HealBench$Search", mt_F8, 18), rfl, by decide, Or.inl (mt_in 169 (by decide +kernel) rfl)⟩
set_option maxRecDepth 100000 in
theorem mt_F_r80 : mt_Pf (((10, 7), (9, 0))) := ⟨("HealBench$Sum", mt_F9, 4), rfl, by decide, Or.inl (mt_in 472 (by decide +kernel) rfl)⟩
set_option maxRecDepth 100000 in
theorem mt_F_r81 : mt_Pf (((10, 13), (9, 1))) := ⟨("HealBench$Sum", mt_F9, 4), rfl, by decide, Or.inl (mt_in 473 (by decide +kernel) rfl)⟩
set_option maxRecDepth 100000 in
theorem mt_F_r82 : mt_Pf (((10, 17), (9, 2))) := ⟨("HealBench$Sum", mt_F9, 4), rfl, by decide, Or.inl (mt_in 474 (by decide +kernel) rfl)⟩
set_option maxRecDepth 100000 in
theorem mt_F_r83 : mt_Pf (((10, 20), (9, 3))) := ⟨("HealBench$Sum", mt_F9, 4), rfl, by decide, Or.inl (mt_in 475 (by decide +kernel) rfl)⟩
set_option maxRecDepth 100000 in
theorem mt_F_r84 : mt_Pf (((10, 24), (10, 2))) := ⟨("HealBench$View", mt_F10, 6), rfl, by decide, Or.inr ⟨"HealBench", mt_nin 92 (by decide +kernel) rfl⟩⟩
set_option maxRecDepth 100000 in
theorem mt_F_r85 : mt_Pf (((10, 30), (10, 0))) := ⟨("HealBench$View", mt_F10, 6), rfl, by decide, Or.inr ⟨"HealBench", mt_nin 87 (by decide +kernel) rfl⟩⟩
set_option maxRecDepth 100000 in
theorem mt_F_r86 : mt_Pf (((10, 34), (2, 3))) := ⟨("HealBench$Graph", mt_F2, 6), rfl, by decide, Or.inr ⟨"HealBench", mt_nin 57 (by decide +kernel) rfl⟩⟩
set_option maxRecDepth 100000 in
theorem mt_F_r87 : mt_Pf (((12, 9), (10, 1))) := ⟨("HealBench$View", mt_F10, 6), rfl, by decide, Or.inl (mt_in 89 (by decide +kernel) rfl)⟩
set_option maxRecDepth 100000 in
theorem mt_F_r88 : mt_Pf (((12, 15), (10, 2))) := ⟨("HealBench$View", mt_F10, 6), rfl, by decide, Or.inl (mt_in 91 (by decide +kernel) rfl)⟩
set_option maxRecDepth 100000 in
theorem mt_F_r89 : mt_Pf (((12, 18), (10, 3))) := ⟨("HealBench$View", mt_F10, 6), rfl, by decide, Or.inl (mt_in 93 (by decide +kernel) rfl)⟩
set_option maxRecDepth 100000 in
theorem mt_F_r90 : mt_Pf (((12, 21), (10, 0))) := ⟨("HealBench$View", mt_F10, 6), rfl, by decide, Or.inl (mt_in 85 (by decide +kernel) rfl)⟩
set_option maxRecDepth 100000 in
theorem mt_F_r91 : mt_Pf (((12, 25), (2, 2))) := ⟨("HealBench$Graph", mt_F2, 6), rfl, by decide, Or.inr ⟨"HealBench", mt_nin 50 (by decide +kernel) rfl⟩⟩
set_option maxRecDepth 100000 in
theorem mt_F_r92 : mt_Pf (((12, 35), (2, 3))) := ⟨("HealBench$Graph", mt_F2, 6), rfl, by decide, Or.inr ⟨"HealBench", mt_nin 56 (by decide +kernel) rfl⟩⟩
set_option maxRecDepth 100000 in
theorem mt_F_r93 : mt_Pf (((12, 38), (10, 5))) := ⟨("HealBench$View", mt_F10, 6), rfl, by decide, Or.inl (mt_in 101 (by decide +kernel) rfl)⟩
set_option maxRecDepth 100000 in
theorem mt_F_r94 : mt_Pf (((12, 41), (2, 0))) := ⟨("HealBench$Graph", mt_F2, 6), rfl, by decide, Or.inr ⟨"HealBench", mt_nin 45 (by decide +kernel) rfl⟩⟩
set_option maxRecDepth 100000 in
theorem mt_F_r95 : mt_Pf (((14, 7), (11, 0))) := ⟨("HealBenchModel", mt_F11, 40), rfl, by decide, Or.inl (mt_in 741 (by decide +kernel) rfl)⟩
def mt_F_3 : List ((Nat × Nat) × (Nat × Nat)) := [((9, 77), (8, 11)), ((9, 84), (8, 13)), ((9, 87), (2, 5)), ((9, 102), (10, 4)), ((9, 104), (10, 3)), ((9, 105), (2, 2)), ((9, 114), (8, 15)), ((9, 145), (8, 14)), ((10, 7), (9, 0)), ((10, 13), (9, 1)), ((10, 17), (9, 2)), ((10, 20), (9, 3)), ((10, 24), (10, 2)), ((10, 30), (10, 0)), ((10, 34), (2, 3)), ((12, 9), (10, 1)), ((12, 15), (10, 2)), ((12, 18), (10, 3)), ((12, 21), (10, 0)), ((12, 25), (2, 2)), ((12, 35), (2, 3)), ((12, 38), (10, 5)), ((12, 41), (2, 0)), ((14, 7), (11, 0))]
theorem mt_F_a3 : ∀ e ∈ mt_F_3, mt_Pf e := List.forall_mem_cons.mpr ⟨mt_F_r72, List.forall_mem_cons.mpr ⟨mt_F_r73, List.forall_mem_cons.mpr ⟨mt_F_r74, List.forall_mem_cons.mpr ⟨mt_F_r75, List.forall_mem_cons.mpr ⟨mt_F_r76, List.forall_mem_cons.mpr ⟨mt_F_r77, List.forall_mem_cons.mpr ⟨mt_F_r78, List.forall_mem_cons.mpr ⟨mt_F_r79, List.forall_mem_cons.mpr ⟨mt_F_r80, List.forall_mem_cons.mpr ⟨mt_F_r81, List.forall_mem_cons.mpr ⟨mt_F_r82, List.forall_mem_cons.mpr ⟨mt_F_r83, List.forall_mem_cons.mpr ⟨mt_F_r84, List.forall_mem_cons.mpr ⟨mt_F_r85, List.forall_mem_cons.mpr ⟨mt_F_r86, List.forall_mem_cons.mpr ⟨mt_F_r87, List.forall_mem_cons.mpr ⟨mt_F_r88, List.forall_mem_cons.mpr ⟨mt_F_r89, List.forall_mem_cons.mpr ⟨mt_F_r90, List.forall_mem_cons.mpr ⟨mt_F_r91, List.forall_mem_cons.mpr ⟨mt_F_r92, List.forall_mem_cons.mpr ⟨mt_F_r93, List.forall_mem_cons.mpr ⟨mt_F_r94, List.forall_mem_cons.mpr ⟨mt_F_r95, fun _ h => absurd h List.not_mem_nil⟩⟩⟩⟩⟩⟩⟩⟩⟩⟩⟩⟩⟩⟩⟩⟩⟩⟩⟩⟩⟩⟩⟩⟩
set_option maxRecDepth 100000 in
theorem mt_F_r96 : mt_Pf (((14, 13), (11, 1))) := ⟨("HealBenchModel", mt_F11, 40), rfl, by decide, Or.inl (mt_in 742 (by decide +kernel) rfl)⟩
set_option maxRecDepth 100000 in
theorem mt_F_r97 : mt_Pf (((14, 16), (11, 3))) := ⟨("HealBenchModel", mt_F11, 40), rfl, by decide, Or.inl (mt_in 744 (by decide +kernel) rfl)⟩
set_option maxRecDepth 100000 in
theorem mt_F_r98 : mt_Pf (((14, 20), (11, 4))) := ⟨("HealBenchModel", mt_F11, 40), rfl, by decide, Or.inl (mt_in 745 (by decide +kernel) rfl)⟩
set_option maxRecDepth 100000 in
theorem mt_F_r99 : mt_Pf (((14, 24), (11, 8))) := ⟨("HealBenchModel", mt_F11, 40), rfl, by decide, Or.inl (mt_in 749 (by decide +kernel) rfl)⟩
set_option maxRecDepth 100000 in
theorem mt_F_r100 : mt_Pf (((14, 27), (11, 10))) := ⟨("HealBenchModel", mt_F11, 40), rfl, by decide, Or.inl (mt_in 751 (by decide +kernel) rfl)⟩
set_option maxRecDepth 100000 in
theorem mt_F_r101 : mt_Pf (((14, 30), (11, 12))) := ⟨("HealBenchModel", mt_F11, 40), rfl, by decide, Or.inl (mt_in 753 (by decide +kernel) rfl)⟩
set_option maxRecDepth 100000 in
theorem mt_F_r102 : mt_Pf (((14, 33), (11, 13))) := ⟨("HealBenchModel", mt_F11, 40), rfl, by decide, Or.inl (mt_in 754 (by decide +kernel) rfl)⟩
set_option maxRecDepth 100000 in
theorem mt_F_r103 : mt_Pf (((14, 36), (11, 14))) := ⟨("HealBenchModel", mt_F11, 40), rfl, by decide, Or.inl (mt_in 755 (by decide +kernel) rfl)⟩
set_option maxRecDepth 100000 in
theorem mt_F_r104 : mt_Pf (((14, 39), (11, 15))) := ⟨("HealBenchModel", mt_F11, 40), rfl, by decide, Or.inl (mt_in 756 (by decide +kernel) rfl)⟩
set_option maxRecDepth 100000 in
theorem mt_F_r105 : mt_Pf (((14, 42), (11, 16))) := ⟨("HealBenchModel", mt_F11, 40), rfl, by decide, Or.inl (mt_in 757 (by decide +kernel) rfl)⟩
set_option maxRecDepth 100000 in
theorem mt_F_r106 : mt_Pf (((14, 45), (11, 18))) := ⟨("HealBenchModel", mt_F11, 40), rfl, by decide, Or.inl (mt_in 759 (by decide +kernel) rfl)⟩
set_option maxRecDepth 100000 in
theorem mt_F_r107 : mt_Pf (((14, 48), (11, 19))) := ⟨("HealBenchModel", mt_F11, 40), rfl, by decide, Or.inl (mt_in 760 (by decide +kernel) rfl)⟩
set_option maxRecDepth 100000 in
theorem mt_F_r108 : mt_Pf (((14, 51), (11, 20))) := ⟨("HealBenchModel", mt_F11, 40), rfl, by decide, Or.inl (mt_in 761 (by decide +kernel) rfl)⟩
set_option maxRecDepth 100000 in
theorem mt_F_r109 : mt_Pf (((14, 54), (11, 21))) := ⟨("HealBenchModel", mt_F11, 40), rfl, by decide, Or.inl (mt_in 762 (by decide +kernel) rfl)⟩
set_option maxRecDepth 100000 in
theorem mt_F_r110 : mt_Pf (((14, 57), (11, 28))) := ⟨("HealBenchModel", mt_F11, 40), rfl, by decide, Or.inl (mt_in 769 (by decide +kernel) rfl)⟩
set_option maxRecDepth 100000 in
theorem mt_F_r111 : mt_Pf (((14, 60), (11, 29))) := ⟨("HealBenchModel", mt_F11, 40), rfl, by decide, Or.inl (mt_in 770 (by decide +kernel) rfl)⟩
set_option maxRecDepth 100000 in
theorem mt_F_r112 : mt_Pf (((14, 63), (11, 33))) := ⟨("HealBenchModel", mt_F11, 40), rfl, by decide, Or.inl (mt_in 774 (by decide +kernel) rfl)⟩
set_option maxRecDepth 100000 in
theorem mt_F_r113 : mt_Pf (((14, 66), (11, 34))) := ⟨("HealBenchModel", mt_F11, 40), rfl, by decide, Or.inl (mt_in 775 (by decide +kernel) rfl)⟩
set_option maxRecDepth 100000 in
theorem mt_F_r114 : mt_Pf (((14, 69), (11, 35))) := ⟨("HealBenchModel", mt_F11, 40), rfl, by decide, Or.inl (mt_in 776 (by decide +kernel) rfl)⟩
set_option maxRecDepth 100000 in
theorem mt_F_r115 : mt_Pf (((14, 72), (11, 36))) := ⟨("HealBenchModel", mt_F11, 40), rfl, by decide, Or.inl (mt_in 777 (by decide +kernel) rfl)⟩
set_option maxRecDepth 100000 in
theorem mt_F_r116 : mt_Pf (((14, 75), (11, 37))) := ⟨("HealBenchModel", mt_F11, 40), rfl, by decide, Or.inl (mt_in 778 (by decide +kernel) rfl)⟩
set_option maxRecDepth 100000 in
theorem mt_F_r117 : mt_Pf (((14, 78), (11, 39))) := ⟨("HealBenchModel", mt_F11, 40), rfl, by decide, Or.inl (mt_in 780 (by decide +kernel) rfl)⟩
set_option maxRecDepth 100000 in
theorem mt_F_r118 : mt_Pf (((14, 85), (11, 2))) := ⟨("HealBenchModel", mt_F11, 40), rfl, by decide, Or.inl (mt_in 743 (by decide +kernel) rfl)⟩
set_option maxRecDepth 100000 in
theorem mt_F_r119 : mt_Pf (((14, 88), (11, 11))) := ⟨("HealBenchModel", mt_F11, 40), rfl, by decide, Or.inl (mt_in 752 (by decide +kernel) rfl)⟩
def mt_F_4 : List ((Nat × Nat) × (Nat × Nat)) := [((14, 13), (11, 1)), ((14, 16), (11, 3)), ((14, 20), (11, 4)), ((14, 24), (11, 8)), ((14, 27), (11, 10)), ((14, 30), (11, 12)), ((14, 33), (11, 13)), ((14, 36), (11, 14)), ((14, 39), (11, 15)), ((14, 42), (11, 16)), ((14, 45), (11, 18)), ((14, 48), (11, 19)), ((14, 51), (11, 20)), ((14, 54), (11, 21)), ((14, 57), (11, 28)), ((14, 60), (11, 29)), ((14, 63), (11, 33)), ((14, 66), (11, 34)), ((14, 69), (11, 35)), ((14, 72), (11, 36)), ((14, 75), (11, 37)), ((14, 78), (11, 39)), ((14, 85), (11, 2)), ((14, 88), (11, 11))]
theorem mt_F_a4 : ∀ e ∈ mt_F_4, mt_Pf e := List.forall_mem_cons.mpr ⟨mt_F_r96, List.forall_mem_cons.mpr ⟨mt_F_r97, List.forall_mem_cons.mpr ⟨mt_F_r98, List.forall_mem_cons.mpr ⟨mt_F_r99, List.forall_mem_cons.mpr ⟨mt_F_r100, List.forall_mem_cons.mpr ⟨mt_F_r101, List.forall_mem_cons.mpr ⟨mt_F_r102, List.forall_mem_cons.mpr ⟨mt_F_r103, List.forall_mem_cons.mpr ⟨mt_F_r104, List.forall_mem_cons.mpr ⟨mt_F_r105, List.forall_mem_cons.mpr ⟨mt_F_r106, List.forall_mem_cons.mpr ⟨mt_F_r107, List.forall_mem_cons.mpr ⟨mt_F_r108, List.forall_mem_cons.mpr ⟨mt_F_r109, List.forall_mem_cons.mpr ⟨mt_F_r110, List.forall_mem_cons.mpr ⟨mt_F_r111, List.forall_mem_cons.mpr ⟨mt_F_r112, List.forall_mem_cons.mpr ⟨mt_F_r113, List.forall_mem_cons.mpr ⟨mt_F_r114, List.forall_mem_cons.mpr ⟨mt_F_r115, List.forall_mem_cons.mpr ⟨mt_F_r116, List.forall_mem_cons.mpr ⟨mt_F_r117, List.forall_mem_cons.mpr ⟨mt_F_r118, List.forall_mem_cons.mpr ⟨mt_F_r119, fun _ h => absurd h List.not_mem_nil⟩⟩⟩⟩⟩⟩⟩⟩⟩⟩⟩⟩⟩⟩⟩⟩⟩⟩⟩⟩⟩⟩⟩⟩
set_option maxRecDepth 100000 in
theorem mt_F_r120 : mt_Pf (((14, 91), (11, 5))) := ⟨("HealBenchModel", mt_F11, 40), rfl, by decide, Or.inl (mt_in 746 (by decide +kernel) rfl)⟩
set_option maxRecDepth 100000 in
theorem mt_F_r121 : mt_Pf (((14, 94), (11, 6))) := ⟨("HealBenchModel", mt_F11, 40), rfl, by decide, Or.inl (mt_in 747 (by decide +kernel) rfl)⟩
set_option maxRecDepth 100000 in
theorem mt_F_r122 : mt_Pf (((14, 97), (11, 31))) := ⟨("HealBenchModel", mt_F11, 40), rfl, by decide, Or.inl (mt_in 772 (by decide +kernel) rfl)⟩
set_option maxRecDepth 100000 in
theorem mt_F_r123 : mt_Pf (((14, 109), (11, 9))) := ⟨("HealBenchModel", mt_F11, 40), rfl, by decide, Or.inl (mt_in 750 (by decide +kernel) rfl)⟩
set_option maxRecDepth 100000 in
theorem mt_F_r124 : mt_Pf (((14, 112), (11, 25))) := ⟨("HealBenchModel", mt_F11, 40), rfl, by decide, Or.inl (mt_in 766 (by decide +kernel) rfl)⟩
set_option maxRecDepth 100000 in
theorem mt_F_r125 : mt_Pf (((14, 115), (11, 24))) := ⟨("HealBenchModel", mt_F11, 40), rfl, by decide, Or.inl (mt_in 765 (by decide +kernel) rfl)⟩
set_option maxRecDepth 100000 in
theorem mt_F_r126 : mt_Pf (((14, 118), (11, 17))) := ⟨("HealBenchModel", mt_F11, 40), rfl, by decide, Or.inl (mt_in 758 (by decide +kernel) rfl)⟩
set_option maxRecDepth 100000 in
theorem mt_F_r127 : mt_Pf (((14, 121), (11, 22))) := ⟨("HealBenchModel", mt_F11, 40), rfl, by decide, Or.inl (mt_in 763 (by decide +kernel) rfl)⟩
set_option maxRecDepth 100000 in
theorem mt_F_r128 : mt_Pf (((14, 124), (11, 23))) := ⟨("HealBenchModel", mt_F11, 40), rfl, by decide, Or.inl (mt_in 764 (by decide +kernel) rfl)⟩
set_option maxRecDepth 100000 in
theorem mt_F_r129 : mt_Pf (((14, 131), (11, 26))) := ⟨("HealBenchModel", mt_F11, 40), rfl, by decide, Or.inl (mt_in 767 (by decide +kernel) rfl)⟩
set_option maxRecDepth 100000 in
theorem mt_F_r130 : mt_Pf (((14, 140), (11, 27))) := ⟨("HealBenchModel", mt_F11, 40), rfl, by decide, Or.inl (mt_in 768 (by decide +kernel) rfl)⟩
set_option maxRecDepth 100000 in
theorem mt_F_r131 : mt_Pf (((14, 169), (11, 7))) := ⟨("HealBenchModel", mt_F11, 40), rfl, by decide, Or.inl (mt_in 748 (by decide +kernel) rfl)⟩
set_option maxRecDepth 100000 in
theorem mt_F_r132 : mt_Pf (((14, 182), (11, 30))) := ⟨("HealBenchModel", mt_F11, 40), rfl, by decide, Or.inl (mt_in 771 (by decide +kernel) rfl)⟩
set_option maxRecDepth 100000 in
theorem mt_F_r133 : mt_Pf (((14, 226), (11, 38))) := ⟨("HealBenchModel", mt_F11, 40), rfl, by decide, Or.inl (mt_in 779 (by decide +kernel) rfl)⟩
set_option maxRecDepth 100000 in
theorem mt_F_r134 : mt_Pf (((14, 242), (11, 32))) := ⟨("HealBenchModel", mt_F11, 40), rfl, by decide, Or.inl (mt_in 773 (by decide +kernel) rfl)⟩
def mt_F_5 : List ((Nat × Nat) × (Nat × Nat)) := [((14, 91), (11, 5)), ((14, 94), (11, 6)), ((14, 97), (11, 31)), ((14, 109), (11, 9)), ((14, 112), (11, 25)), ((14, 115), (11, 24)), ((14, 118), (11, 17)), ((14, 121), (11, 22)), ((14, 124), (11, 23)), ((14, 131), (11, 26)), ((14, 140), (11, 27)), ((14, 169), (11, 7)), ((14, 182), (11, 30)), ((14, 226), (11, 38)), ((14, 242), (11, 32))]
theorem mt_F_a5 : ∀ e ∈ mt_F_5, mt_Pf e := List.forall_mem_cons.mpr ⟨mt_F_r120, List.forall_mem_cons.mpr ⟨mt_F_r121, List.forall_mem_cons.mpr ⟨mt_F_r122, List.forall_mem_cons.mpr ⟨mt_F_r123, List.forall_mem_cons.mpr ⟨mt_F_r124, List.forall_mem_cons.mpr ⟨mt_F_r125, List.forall_mem_cons.mpr ⟨mt_F_r126, List.forall_mem_cons.mpr ⟨mt_F_r127, List.forall_mem_cons.mpr ⟨mt_F_r128, List.forall_mem_cons.mpr ⟨mt_F_r129, List.forall_mem_cons.mpr ⟨mt_F_r130, List.forall_mem_cons.mpr ⟨mt_F_r131, List.forall_mem_cons.mpr ⟨mt_F_r132, List.forall_mem_cons.mpr ⟨mt_F_r133, List.forall_mem_cons.mpr ⟨mt_F_r134, fun _ h => absurd h List.not_mem_nil⟩⟩⟩⟩⟩⟩⟩⟩⟩⟩⟩⟩⟩⟩⟩
def mt_F : List ((Nat × Nat) × (Nat × Nat)) := mt_F_0 ++ (mt_F_1 ++ (mt_F_2 ++ (mt_F_3 ++ (mt_F_4 ++ (mt_F_5)))))
theorem mt_F_all : ∀ e ∈ mt_F, mt_Pf e := by
  show ∀ e ∈ mt_F_0 ++ (mt_F_1 ++ (mt_F_2 ++ (mt_F_3 ++ (mt_F_4 ++ (mt_F_5))))), mt_Pf e
  exact List.forall_mem_append.mpr ⟨mt_F_a0, List.forall_mem_append.mpr ⟨mt_F_a1, List.forall_mem_append.mpr ⟨mt_F_a2, List.forall_mem_append.mpr ⟨mt_F_a3, List.forall_mem_append.mpr ⟨mt_F_a4, mt_F_a5⟩⟩⟩⟩⟩
set_option maxRecDepth 100000 in
theorem mt_P_r0 : mt_Pp (((1, 10), (0, 0, true))) := ⟨("HealBench", mt_F0, 9), rfl, by decide, rfl, ⟨mt_in 213 (by decide +kernel) rfl, rfl⟩⟩
set_option maxRecDepth 100000 in
theorem mt_P_r1 : mt_Pp (((1, 21), (0, 1, true))) := ⟨("HealBench", mt_F0, 9), rfl, by decide, rfl, ⟨mt_in 214 (by decide +kernel) rfl, rfl⟩⟩
set_option maxRecDepth 100000 in
theorem mt_P_r2 : mt_Pp (((1, 28), (0, 2, true))) := ⟨("HealBench", mt_F0, 9), rfl, by decide, rfl, ⟨mt_in 215 (by decide +kernel) rfl, rfl⟩⟩
set_option maxRecDepth 100000 in
theorem mt_P_r3 : mt_Pp (((1, 37), (0, 3, true))) := ⟨("HealBench", mt_F0, 9), rfl, by decide, rfl, ⟨mt_in 216 (by decide +kernel) rfl, rfl⟩⟩
set_option maxRecDepth 100000 in
theorem mt_P_r4 : mt_Pp (((1, 41), (0, 4, true))) := ⟨("HealBench", mt_F0, 9), rfl, by decide, rfl, ⟨mt_in 217 (by decide +kernel) rfl, rfl⟩⟩
set_option maxRecDepth 100000 in
theorem mt_P_r5 : mt_Pp (((1, 55), (0, 6, false))) := ⟨("HealBench", mt_F0, 9), rfl, by decide, rfl, Or.inl (mt_in 219 (by decide +kernel) rfl)⟩
set_option maxRecDepth 100000 in
theorem mt_P_r6 : mt_Pp (((1, 79), (0, 5, false))) := ⟨("HealBench", mt_F0, 9), rfl, by decide, rfl, Or.inl (mt_in 218 (by decide +kernel) rfl)⟩
set_option maxRecDepth 100000 in
theorem mt_P_r7 : mt_Pp (((1, 123), (8, 12, false))) := ⟨("HealBench$Search", mt_F8, 18), rfl, by decide, rfl, Or.inr ⟨"HealBench", mt_nin 166 (by decide +kernel) rfl⟩⟩
set_option maxRecDepth 100000 in
theorem mt_P_r8 : mt_Pp (((1, 163), (0, 8, false))) := ⟨("HealBench", mt_F0, 9), rfl, by decide, rfl, Or.inl (mt_in 221 (by decide +kernel) rfl)⟩
set_option maxRecDepth 100000 in
theorem mt_P_r9 : mt_Pp (((1, 166), (0, 7, false))) := ⟨("HealBench", mt_F0, 9), rfl, by decide, rfl, Or.inl (mt_in 220 (by decide +kernel) rfl)⟩
set_option maxRecDepth 100000 in
theorem mt_P_r10 : mt_Pp (((2, 7), (1, 0, true))) := ⟨("HealBench$Comparison", mt_F1, 3), rfl, by decide, rfl, ⟨mt_in 492 (by decide +kernel) rfl, rfl⟩⟩
set_option maxRecDepth 100000 in
theorem mt_P_r11 : mt_Pp (((2, 13), (1, 1, true))) := ⟨("HealBench$Comparison", mt_F1, 3), rfl, by decide, rfl, ⟨mt_in 493 (by decide +kernel) rfl, rfl⟩⟩
set_option maxRecDepth 100000 in
theorem mt_P_r12 : mt_Pp (((2, 17), (1, 2, true))) := ⟨("HealBench$Comparison", mt_F1, 3), rfl, by decide, rfl, ⟨mt_in 494 (by decide +kernel) rfl, rfl⟩⟩
set_option maxRecDepth 100000 in
theorem mt_P_r13 : mt_Pp (((3, 9), (2, 0, true))) := ⟨("HealBench$Graph", mt_F2, 6), rfl, by decide, rfl, ⟨mt_in 44 (by decide +kernel) rfl, rfl⟩⟩
set_option maxRecDepth 100000 in
theorem mt_P_r14 : mt_Pp (((3, 15), (2, 1, true))) := ⟨("HealBench$Graph", mt_F2, 6), rfl, by decide, rfl, ⟨mt_in 46 (by decide +kernel) rfl, rfl⟩⟩
set_option maxRecDepth 100000 in
theorem mt_P_r15 : mt_Pp (((3, 22), (2, 2, false))) := ⟨("HealBench$Graph", mt_F2, 6), rfl, by decide, rfl, Or.inl (mt_in 49 (by decide +kernel) rfl)⟩
set_option maxRecDepth 100000 in
theorem mt_P_r16 : mt_Pp (((3, 26), (2, 3, false))) := ⟨("HealBench$Graph", mt_F2, 6), rfl, by decide, rfl, Or.inl (mt_in 55 (by decide +kernel) rfl)⟩
set_option maxRecDepth 100000 in
theorem mt_P_r17 : mt_Pp (((3, 29), (2, 4, false))) := ⟨("HealBench$Graph", mt_F2, 6), rfl, by decide, rfl, Or.inl (mt_in 60 (by decide +kernel) rfl)⟩
set_option maxRecDepth 100000 in
theorem mt_P_r18 : mt_Pp (((3, 32), (2, 5, false))) := ⟨("HealBench$Graph", mt_F2, 6), rfl, by decide, rfl, Or.inl (mt_in 62 (by decide +kernel) rfl)⟩
set_option maxRecDepth 100000 in
theorem mt_P_r19 : mt_Pp (((4, 7), (3, 0, true))) := ⟨("HealBench$Neighbours", mt_F3, 2), rfl, by decide, rfl, ⟨mt_in 359 (by decide +kernel) rfl, rfl⟩⟩
set_option maxRecDepth 100000 in
theorem mt_P_r20 : mt_Pp (((4, 13), (3, 1, true))) := ⟨("HealBench$Neighbours", mt_F3, 2), rfl, by decide, rfl, ⟨mt_in 360 (by decide +kernel) rfl, rfl⟩⟩
set_option maxRecDepth 100000 in
theorem mt_P_r21 : mt_Pp (((5, 7), (4, 0, true))) := ⟨("HealBench$Not", mt_F4, 1), rfl, by decide, rfl, ⟨mt_in 340 (by decide +kernel) rfl, rfl⟩⟩
set_option maxRecDepth 100000 in
theorem mt_P_r22 : mt_Pp (((6, 7), (5, 0, true))) := ⟨("HealBench$Pair", mt_F5, 3), rfl, by decide, rfl, ⟨mt_in 508 (by decide +kernel) rfl, rfl⟩⟩
set_option maxRecDepth 100000 in
theorem mt_P_r23 : mt_Pp (((6, 13), (5, 1, true))) := ⟨("HealBench$Pair", mt_F5, 3), rfl, by decide, rfl, ⟨mt_in 509 (by decide +kernel) rfl, rfl⟩⟩
def mt_P_0 : List ((Nat × Nat) × (Nat × Nat × Bool)) := [((1, 10), (0, 0, true)), ((1, 21), (0, 1, true)), ((1, 28), (0, 2, true)), ((1, 37), (0, 3, true)), ((1, 41), (0, 4, true)), ((1, 55), (0, 6, false)), ((1, 79), (0, 5, false)), ((1, 123), (8, 12, false)), ((1, 163), (0, 8, false)), ((1, 166), (0, 7, false)), ((2, 7), (1, 0, true)), ((2, 13), (1, 1, true)), ((2, 17), (1, 2, true)), ((3, 9), (2, 0, true)), ((3, 15), (2, 1, true)), ((3, 22), (2, 2, false)), ((3, 26), (2, 3, false)), ((3, 29), (2, 4, false)), ((3, 32), (2, 5, false)), ((4, 7), (3, 0, true)), ((4, 13), (3, 1, true)), ((5, 7), (4, 0, true)), ((6, 7), (5, 0, true)), ((6, 13), (5, 1, true))]
theorem mt_P_a0 : ∀ e ∈ mt_P_0, mt_Pp e := List.forall_mem_cons.mpr ⟨mt_P_r0, List.forall_mem_cons.mpr ⟨mt_P_r1, List.forall_mem_cons.mpr ⟨mt_P_r2, List.forall_mem_cons.mpr ⟨mt_P_r3, List.forall_mem_cons.mpr ⟨mt_P_r4, List.forall_mem_cons.mpr ⟨mt_P_r5, List.forall_mem_cons.mpr ⟨mt_P_r6, List.forall_mem_cons.mpr ⟨mt_P_r7, List.forall_mem_cons.mpr ⟨mt_P_r8, List.forall_mem_cons.mpr ⟨mt_P_r9, List.forall_mem_cons.mpr ⟨mt_P_r10, List.forall_mem_cons.mpr ⟨mt_P_r11, List.forall_mem_cons.mpr ⟨mt_P_r12, List.forall_mem_cons.mpr ⟨mt_P_r13, List.forall_mem_cons.mpr ⟨mt_P_r14, List.forall_mem_cons.mpr ⟨mt_P_r15, List.forall_mem_cons.mpr ⟨mt_P_r16, List.forall_mem_cons.mpr ⟨mt_P_r17, List.forall_mem_cons.mpr ⟨mt_P_r18, List.forall_mem_cons.mpr ⟨mt_P_r19, List.forall_mem_cons.mpr ⟨mt_P_r20, List.forall_mem_cons.mpr ⟨mt_P_r21, List.forall_mem_cons.mpr ⟨mt_P_r22, List.forall_mem_cons.mpr ⟨mt_P_r23, fun _ h => absurd h List.not_mem_nil⟩⟩⟩⟩⟩⟩⟩⟩⟩⟩⟩⟩⟩⟩⟩⟩⟩⟩⟩⟩⟩⟩⟩⟩
set_option maxRecDepth 100000 in
theorem mt_P_r24 : mt_Pp (((6, 16), (5, 2, true))) := ⟨("HealBench$Pair", mt_F5, 3), rfl, by decide, rfl, ⟨mt_in 510 (by decide +kernel) rfl, rfl⟩⟩
set_option maxRecDepth 100000 in
theorem mt_P_r25 : mt_Pp (((7, 9), (6, 2, false))) := ⟨("HealBench$Reader", mt_F6, 3), rfl, by decide, rfl, Or.inl (mt_in 302 (by decide +kernel) rfl)⟩
set_option maxRecDepth 100000 in
theorem mt_P_r26 : mt_Pp (((7, 15), (6, 0, true))) := ⟨("HealBench$Reader", mt_F6, 3), rfl, by decide, rfl, ⟨mt_in 300 (by decide +kernel) rfl, rfl⟩⟩
set_option maxRecDepth 100000 in
theorem mt_P_r27 : mt_Pp (((7, 19), (6, 1, false))) := ⟨("HealBench$Reader", mt_F6, 3), rfl, by decide, rfl, Or.inl (mt_in 301 (by decide +kernel) rfl)⟩
set_option maxRecDepth 100000 in
theorem mt_P_r28 : mt_Pp (((8, 11), (7, 0, true))) := ⟨("HealBench$Rules", mt_F7, 5), rfl, by decide, rfl, ⟨mt_in 125 (by decide +kernel) rfl, rfl⟩⟩
set_option maxRecDepth 100000 in
theorem mt_P_r29 : mt_Pp (((8, 19), (7, 1, true))) := ⟨("HealBench$Rules", mt_F7, 5), rfl, by decide, rfl, ⟨mt_in 126 (by decide +kernel) rfl, rfl⟩⟩
set_option maxRecDepth 100000 in
theorem mt_P_r30 : mt_Pp (((8, 23), (7, 3, false))) := ⟨("HealBench$Rules", mt_F7, 5), rfl, by decide, rfl, Or.inl (mt_in 129 (by decide +kernel) rfl)⟩
set_option maxRecDepth 100000 in
theorem mt_P_r31 : mt_Pp (((8, 27), (7, 2, false))) := ⟨("HealBench$Rules", mt_F7, 5), rfl, by decide, rfl, Or.inl (mt_in 127 (by decide +kernel) rfl)⟩
set_option maxRecDepth 100000 in
theorem mt_P_r32 : mt_Pp (((8, 34), (7, 4, false))) := ⟨("HealBench$Rules", mt_F7, 5), rfl, by decide, rfl, Or.inl (mt_in 130 (by decide +kernel) rfl)⟩
set_option maxRecDepth 100000 in
theorem mt_P_r33 : mt_Pp (((8, 48), (10, 4, false))) := ⟨("HealBench$View", mt_F10, 6), rfl, by decide, rfl, Or.inr ⟨"HealBench", mt_nin 98 (by decide +kernel) rfl⟩⟩
set_option maxRecDepth 100000 in
theorem mt_P_r34 : mt_Pp (((9, 9), (8, 3, true))) := ⟨("HealBench$Search", mt_F8, 18), rfl, by decide, rfl, ⟨mt_in 153 (by decide +kernel) rfl, rfl⟩⟩
set_option maxRecDepth 100000 in
theorem mt_P_r35 : mt_Pp (((9, 15), (8, 4, true))) := ⟨("HealBench$Search", mt_F8, 18), rfl, by decide, rfl, ⟨mt_in 154 (by decide +kernel) rfl, rfl⟩⟩
set_option maxRecDepth 100000 in
theorem mt_P_r36 : mt_Pp (((9, 18), (8, 5, true))) := ⟨("HealBench$Search", mt_F8, 18), rfl, by decide, rfl, ⟨mt_in 155 (by decide +kernel) rfl, rfl⟩⟩
set_option maxRecDepth 100000 in
theorem mt_P_r37 : mt_Pp (((9, 22), (8, 6, true))) := ⟨("HealBench$Search", mt_F8, 18), rfl, by decide, rfl, ⟨mt_in 156 (by decide +kernel) rfl, rfl⟩⟩
set_option maxRecDepth 100000 in
theorem mt_P_r38 : mt_Pp (((9, 25), (8, 7, true))) := ⟨("HealBench$Search", mt_F8, 18), rfl, by decide, rfl, ⟨mt_in 158 (by decide +kernel) rfl, rfl⟩⟩
set_option maxRecDepth 100000 in
theorem mt_P_r39 : mt_Pp (((9, 28), (8, 8, true))) := ⟨("HealBench$Search", mt_F8, 18), rfl, by decide, rfl, ⟨mt_in 159 (by decide +kernel) rfl, rfl⟩⟩
set_option maxRecDepth 100000 in
theorem mt_P_r40 : mt_Pp (((9, 31), (8, 9, true))) := ⟨("HealBench$Search", mt_F8, 18), rfl, by decide, rfl, ⟨mt_in 160 (by decide +kernel) rfl, rfl⟩⟩
set_option maxRecDepth 100000 in
theorem mt_P_r41 : mt_Pp (((9, 34), (8, 10, true))) := ⟨("HealBench$Search", mt_F8, 18), rfl, by decide, rfl, ⟨mt_in 161 (by decide +kernel) rfl, rfl⟩⟩
set_option maxRecDepth 100000 in
theorem mt_P_r42 : mt_Pp (((9, 37), (8, 12, false))) := ⟨("HealBench$Search", mt_F8, 18), rfl, by decide, rfl, Or.inl (mt_in 165 (by decide +kernel) rfl)⟩
set_option maxRecDepth 100000 in
theorem mt_P_r43 : mt_Pp (((9, 41), (8, 0, true))) := ⟨("HealBench$Search", mt_F8, 18), rfl, by decide, rfl, ⟨mt_in 150 (by decide +kernel) rfl, rfl⟩⟩
set_option maxRecDepth 100000 in
theorem mt_P_r44 : mt_Pp (((9, 45), (8, 1, true))) := ⟨("HealBench$Search", mt_F8, 18), rfl, by decide, rfl, ⟨mt_in 151 (by decide +kernel) rfl, rfl⟩⟩
set_option maxRecDepth 100000 in
theorem mt_P_r45 : mt_Pp (((9, 54), (8, 2, true))) := ⟨("HealBench$Search", mt_F8, 18), rfl, by decide, rfl, ⟨mt_in 152 (by decide +kernel) rfl, rfl⟩⟩
set_option maxRecDepth 100000 in
theorem mt_P_r46 : mt_Pp (((9, 58), (8, 16, false))) := ⟨("HealBench$Search", mt_F8, 18), rfl, by decide, rfl, Or.inl (mt_in 173 (by decide +kernel) rfl)⟩
set_option maxRecDepth 100000 in
theorem mt_P_r47 : mt_Pp (((9, 62), (8, 17, false))) := ⟨("HealBench$Search", mt_F8, 18), rfl, by decide, rfl, Or.inl (mt_in 174 (by decide +kernel) rfl)⟩
def mt_P_1 : List ((Nat × Nat) × (Nat × Nat × Bool)) := [((6, 16), (5, 2, true)), ((7, 9), (6, 2, false)), ((7, 15), (6, 0, true)), ((7, 19), (6, 1, false)), ((8, 11), (7, 0, true)), ((8, 19), (7, 1, true)), ((8, 23), (7, 3, false)), ((8, 27), (7, 2, false)), ((8, 34), (7, 4, false)), ((8, 48), (10, 4, false)), ((9, 9), (8, 3, true)), ((9, 15), (8, 4, true)), ((9, 18), (8, 5, true)), ((9, 22), (8, 6, true)), ((9, 25), (8, 7, true)), ((9, 28), (8, 8, true)), ((9, 31), (8, 9, true)), ((9, 34), (8, 10, true)), ((9, 37), (8, 12, false)), ((9, 41), (8, 0, true)), ((9, 45), (8, 1, true)), ((9, 54), (8, 2, true)), ((9, 58), (8, 16, false)), ((9, 62), (8, 17, false))]
theorem mt_P_a1 : ∀ e ∈ mt_P_1, mt_Pp e := List.forall_mem_cons.mpr ⟨mt_P_r24, List.forall_mem_cons.mpr ⟨mt_P_r25, List.forall_mem_cons.mpr ⟨mt_P_r26, List.forall_mem_cons.mpr ⟨mt_P_r27, List.forall_mem_cons.mpr ⟨mt_P_r28, List.forall_mem_cons.mpr ⟨mt_P_r29, List.forall_mem_cons.mpr ⟨mt_P_r30, List.forall_mem_cons.mpr ⟨mt_P_r31, List.forall_mem_cons.mpr ⟨mt_P_r32, List.forall_mem_cons.mpr ⟨mt_P_r33, List.forall_mem_cons.mpr ⟨mt_P_r34, List.forall_mem_cons.mpr ⟨mt_P_r35, List.forall_mem_cons.mpr ⟨mt_P_r36, List.forall_mem_cons.mpr ⟨mt_P_r37, List.forall_mem_cons.mpr ⟨mt_P_r38, List.forall_mem_cons.mpr ⟨mt_P_r39, List.forall_mem_cons.mpr ⟨mt_P_r40, List.forall_mem_cons.mpr ⟨mt_P_r41, List.forall_mem_cons.mpr ⟨mt_P_r42, List.forall_mem_cons.mpr ⟨mt_P_r43, List.forall_mem_cons.mpr ⟨mt_P_r44, List.forall_mem_cons.mpr ⟨mt_P_r45, List.forall_mem_cons.mpr ⟨mt_P_r46, List.forall_mem_cons.mpr ⟨mt_P_r47, fun _ h => absurd h List.not_mem_nil⟩⟩⟩⟩⟩⟩⟩⟩⟩⟩⟩⟩⟩⟩⟩⟩⟩⟩⟩⟩⟩⟩⟩⟩
set_option maxRecDepth 100000 in
theorem mt_P_r48 : mt_Pp (((9, 77), (8, 11, false))) := ⟨("HealBench$Search", mt_F8, 18), rfl, by decide, rfl, Or.inl (mt_in 163 (by decide +kernel) rfl)⟩
set_option maxRecDepth 100000 in
theorem mt_P_r49 : mt_Pp (((9, 84), (8, 13, false))) := ⟨("HealBench$Search", mt_F8, 18), rfl, by decide, rfl, Or.inl (mt_in 167 (by decide +kernel) rfl)⟩
set_option maxRecDepth 100000 in
theorem mt_P_r50 : mt_Pp (((9, 102), (10, 4, false))) := ⟨("HealBench$View", mt_F10, 6), rfl, by decide, rfl, Or.inr ⟨"HealBench", mt_nin 97 (by decide +kernel) rfl⟩⟩
set_option maxRecDepth 100000 in
theorem mt_P_r51 : mt_Pp (((9, 114), (8, 15, false))) := ⟨("HealBench$Search", mt_F8, 18), rfl, by decide, rfl, Or.inl (mt_in 171 (by decide +kernel) rfl)⟩
set_option maxRecDepth 100000 in
theorem mt_P_r52 : mt_Pp (((9, 145), (8, 14, false))) := ⟨("HealBench$Search", mt_F8, 18), rfl, by decide, rfl, Or.inl (mt_in 169 (by decide +kernel) rfl)⟩
set_option maxRecDepth 100000 in
theorem mt_P_r53 : mt_Pp (((10, 7), (9, 0, true))) := ⟨("HealBench$Sum", mt_F9, 4), rfl, by decide, rfl, ⟨mt_in 472 (by decide +kernel) rfl, rfl⟩⟩
set_option maxRecDepth 100000 in
theorem mt_P_r54 : mt_Pp (((10, 13), (9, 1, true))) := ⟨("HealBench$Sum", mt_F9, 4), rfl, by decide, rfl, ⟨mt_in 473 (by decide +kernel) rfl, rfl⟩⟩
set_option maxRecDepth 100000 in
theorem mt_P_r55 : mt_Pp (((10, 17), (9, 2, true))) := ⟨("HealBench$Sum", mt_F9, 4), rfl, by decide, rfl, ⟨mt_in 474 (by decide +kernel) rfl, rfl⟩⟩
set_option maxRecDepth 100000 in
theorem mt_P_r56 : mt_Pp (((10, 20), (9, 3, true))) := ⟨("HealBench$Sum", mt_F9, 4), rfl, by decide, rfl, ⟨mt_in 475 (by decide +kernel) rfl, rfl⟩⟩
set_option maxRecDepth 100000 in
theorem mt_P_r57 : mt_Pp (((12, 9), (10, 1, true))) := ⟨("HealBench$View", mt_F10, 6), rfl, by decide, rfl, ⟨mt_in 89 (by decide +kernel) rfl, rfl⟩⟩
set_option maxRecDepth 100000 in
theorem mt_P_r58 : mt_Pp (((12, 15), (10, 2, true))) := ⟨("HealBench$View", mt_F10, 6), rfl, by decide, rfl, ⟨mt_in 91 (by decide +kernel) rfl, rfl⟩⟩
set_option maxRecDepth 100000 in
theorem mt_P_r59 : mt_Pp (((12, 18), (10, 3, true))) := ⟨("HealBench$View", mt_F10, 6), rfl, by decide, rfl, ⟨mt_in 93 (by decide +kernel) rfl, rfl⟩⟩
set_option maxRecDepth 100000 in
theorem mt_P_r60 : mt_Pp (((12, 21), (10, 0, true))) := ⟨("HealBench$View", mt_F10, 6), rfl, by decide, rfl, ⟨mt_in 85 (by decide +kernel) rfl, rfl⟩⟩
set_option maxRecDepth 100000 in
theorem mt_P_r61 : mt_Pp (((12, 38), (10, 5, false))) := ⟨("HealBench$View", mt_F10, 6), rfl, by decide, rfl, Or.inl (mt_in 101 (by decide +kernel) rfl)⟩
set_option maxRecDepth 100000 in
theorem mt_P_r62 : mt_Pp (((14, 7), (11, 0, false))) := ⟨("HealBenchModel", mt_F11, 40), rfl, by decide, rfl, Or.inl (mt_in 741 (by decide +kernel) rfl)⟩
set_option maxRecDepth 100000 in
theorem mt_P_r63 : mt_Pp (((14, 13), (11, 1, false))) := ⟨("HealBenchModel", mt_F11, 40), rfl, by decide, rfl, Or.inl (mt_in 742 (by decide +kernel) rfl)⟩
set_option maxRecDepth 100000 in
theorem mt_P_r64 : mt_Pp (((14, 16), (11, 3, true))) := ⟨("HealBenchModel", mt_F11, 40), rfl, by decide, rfl, ⟨mt_in 744 (by decide +kernel) rfl, rfl⟩⟩
set_option maxRecDepth 100000 in
theorem mt_P_r65 : mt_Pp (((14, 20), (11, 4, true))) := ⟨("HealBenchModel", mt_F11, 40), rfl, by decide, rfl, ⟨mt_in 745 (by decide +kernel) rfl, rfl⟩⟩
set_option maxRecDepth 100000 in
theorem mt_P_r66 : mt_Pp (((14, 24), (11, 8, false))) := ⟨("HealBenchModel", mt_F11, 40), rfl, by decide, rfl, Or.inl (mt_in 749 (by decide +kernel) rfl)⟩
set_option maxRecDepth 100000 in
theorem mt_P_r67 : mt_Pp (((14, 27), (11, 10, true))) := ⟨("HealBenchModel", mt_F11, 40), rfl, by decide, rfl, ⟨mt_in 751 (by decide +kernel) rfl, rfl⟩⟩
set_option maxRecDepth 100000 in
theorem mt_P_r68 : mt_Pp (((14, 30), (11, 12, true))) := ⟨("HealBenchModel", mt_F11, 40), rfl, by decide, rfl, ⟨mt_in 753 (by decide +kernel) rfl, rfl⟩⟩
set_option maxRecDepth 100000 in
theorem mt_P_r69 : mt_Pp (((14, 33), (11, 13, true))) := ⟨("HealBenchModel", mt_F11, 40), rfl, by decide, rfl, ⟨mt_in 754 (by decide +kernel) rfl, rfl⟩⟩
set_option maxRecDepth 100000 in
theorem mt_P_r70 : mt_Pp (((14, 36), (11, 14, true))) := ⟨("HealBenchModel", mt_F11, 40), rfl, by decide, rfl, ⟨mt_in 755 (by decide +kernel) rfl, rfl⟩⟩
set_option maxRecDepth 100000 in
theorem mt_P_r71 : mt_Pp (((14, 39), (11, 15, true))) := ⟨("HealBenchModel", mt_F11, 40), rfl, by decide, rfl, ⟨mt_in 756 (by decide +kernel) rfl, rfl⟩⟩
def mt_P_2 : List ((Nat × Nat) × (Nat × Nat × Bool)) := [((9, 77), (8, 11, false)), ((9, 84), (8, 13, false)), ((9, 102), (10, 4, false)), ((9, 114), (8, 15, false)), ((9, 145), (8, 14, false)), ((10, 7), (9, 0, true)), ((10, 13), (9, 1, true)), ((10, 17), (9, 2, true)), ((10, 20), (9, 3, true)), ((12, 9), (10, 1, true)), ((12, 15), (10, 2, true)), ((12, 18), (10, 3, true)), ((12, 21), (10, 0, true)), ((12, 38), (10, 5, false)), ((14, 7), (11, 0, false)), ((14, 13), (11, 1, false)), ((14, 16), (11, 3, true)), ((14, 20), (11, 4, true)), ((14, 24), (11, 8, false)), ((14, 27), (11, 10, true)), ((14, 30), (11, 12, true)), ((14, 33), (11, 13, true)), ((14, 36), (11, 14, true)), ((14, 39), (11, 15, true))]
theorem mt_P_a2 : ∀ e ∈ mt_P_2, mt_Pp e := List.forall_mem_cons.mpr ⟨mt_P_r48, List.forall_mem_cons.mpr ⟨mt_P_r49, List.forall_mem_cons.mpr ⟨mt_P_r50, List.forall_mem_cons.mpr ⟨mt_P_r51, List.forall_mem_cons.mpr ⟨mt_P_r52, List.forall_mem_cons.mpr ⟨mt_P_r53, List.forall_mem_cons.mpr ⟨mt_P_r54, List.forall_mem_cons.mpr ⟨mt_P_r55, List.forall_mem_cons.mpr ⟨mt_P_r56, List.forall_mem_cons.mpr ⟨mt_P_r57, List.forall_mem_cons.mpr ⟨mt_P_r58, List.forall_mem_cons.mpr ⟨mt_P_r59, List.forall_mem_cons.mpr ⟨mt_P_r60, List.forall_mem_cons.mpr ⟨mt_P_r61, List.forall_mem_cons.mpr ⟨mt_P_r62, List.forall_mem_cons.mpr ⟨mt_P_r63, List.forall_mem_cons.mpr ⟨mt_P_r64, List.forall_mem_cons.mpr ⟨mt_P_r65, List.forall_mem_cons.mpr ⟨mt_P_r66, List.forall_mem_cons.mpr ⟨mt_P_r67, List.forall_mem_cons.mpr ⟨mt_P_r68, List.forall_mem_cons.mpr ⟨mt_P_r69, List.forall_mem_cons.mpr ⟨mt_P_r70, List.forall_mem_cons.mpr ⟨mt_P_r71, fun _ h => absurd h List.not_mem_nil⟩⟩⟩⟩⟩⟩⟩⟩⟩⟩⟩⟩⟩⟩⟩⟩⟩⟩⟩⟩⟩⟩⟩⟩
set_option maxRecDepth 100000 in
theorem mt_P_r72 : mt_Pp (((14, 42), (11, 16, true))) := ⟨("HealBenchModel", mt_F11, 40), rfl, by decide, rfl, ⟨mt_in 757 (by decide +kernel) rfl, rfl⟩⟩
set_option maxRecDepth 100000 in
theorem mt_P_r73 : mt_Pp (((14, 45), (11, 18, true))) := ⟨("HealBenchModel", mt_F11, 40), rfl, by decide, rfl, ⟨mt_in 759 (by decide +kernel) rfl, rfl⟩⟩
set_option maxRecDepth 100000 in
theorem mt_P_r74 : mt_Pp (((14, 48), (11, 19, true))) := ⟨("HealBenchModel", mt_F11, 40), rfl, by decide, rfl, ⟨mt_in 760 (by decide +kernel) rfl, rfl⟩⟩
set_option maxRecDepth 100000 in
theorem mt_P_r75 : mt_Pp (((14, 51), (11, 20, true))) := ⟨("HealBenchModel", mt_F11, 40), rfl, by decide, rfl, ⟨mt_in 761 (by decide +kernel) rfl, rfl⟩⟩
set_option maxRecDepth 100000 in
theorem mt_P_r76 : mt_Pp (((14, 54), (11, 21, true))) := ⟨("HealBenchModel", mt_F11, 40), rfl, by decide, rfl, ⟨mt_in 762 (by decide +kernel) rfl, rfl⟩⟩
set_option maxRecDepth 100000 in
theorem mt_P_r77 : mt_Pp (((14, 57), (11, 28, true))) := ⟨("HealBenchModel", mt_F11, 40), rfl, by decide, rfl, ⟨mt_in 769 (by decide +kernel) rfl, rfl⟩⟩
set_option maxRecDepth 100000 in
theorem mt_P_r78 : mt_Pp (((14, 60), (11, 29, true))) := ⟨("HealBenchModel", mt_F11, 40), rfl, by decide, rfl, ⟨mt_in 770 (by decide +kernel) rfl, rfl⟩⟩
set_option maxRecDepth 100000 in
theorem mt_P_r79 : mt_Pp (((14, 63), (11, 33, true))) := ⟨("HealBenchModel", mt_F11, 40), rfl, by decide, rfl, ⟨mt_in 774 (by decide +kernel) rfl, rfl⟩⟩
set_option maxRecDepth 100000 in
theorem mt_P_r80 : mt_Pp (((14, 66), (11, 34, true))) := ⟨("HealBenchModel", mt_F11, 40), rfl, by decide, rfl, ⟨mt_in 775 (by decide +kernel) rfl, rfl⟩⟩
set_option maxRecDepth 100000 in
theorem mt_P_r81 : mt_Pp (((14, 69), (11, 35, true))) := ⟨("HealBenchModel", mt_F11, 40), rfl, by decide, rfl, ⟨mt_in 776 (by decide +kernel) rfl, rfl⟩⟩
set_option maxRecDepth 100000 in
theorem mt_P_r82 : mt_Pp (((14, 72), (11, 36, true))) := ⟨("HealBenchModel", mt_F11, 40), rfl, by decide, rfl, ⟨mt_in 777 (by decide +kernel) rfl, rfl⟩⟩
set_option maxRecDepth 100000 in
theorem mt_P_r83 : mt_Pp (((14, 75), (11, 37, true))) := ⟨("HealBenchModel", mt_F11, 40), rfl, by decide, rfl, ⟨mt_in 778 (by decide +kernel) rfl, rfl⟩⟩
set_option maxRecDepth 100000 in
theorem mt_P_r84 : mt_Pp (((14, 78), (11, 39, true))) := ⟨("HealBenchModel", mt_F11, 40), rfl, by decide, rfl, ⟨mt_in 780 (by decide +kernel) rfl, rfl⟩⟩
set_option maxRecDepth 100000 in
theorem mt_P_r85 : mt_Pp (((14, 85), (11, 2, false))) := ⟨("HealBenchModel", mt_F11, 40), rfl, by decide, rfl, Or.inl (mt_in 743 (by decide +kernel) rfl)⟩
set_option maxRecDepth 100000 in
theorem mt_P_r86 : mt_Pp (((14, 88), (11, 11, false))) := ⟨("HealBenchModel", mt_F11, 40), rfl, by decide, rfl, Or.inl (mt_in 752 (by decide +kernel) rfl)⟩
set_option maxRecDepth 100000 in
theorem mt_P_r87 : mt_Pp (((14, 91), (11, 5, false))) := ⟨("HealBenchModel", mt_F11, 40), rfl, by decide, rfl, Or.inl (mt_in 746 (by decide +kernel) rfl)⟩
set_option maxRecDepth 100000 in
theorem mt_P_r88 : mt_Pp (((14, 94), (11, 6, false))) := ⟨("HealBenchModel", mt_F11, 40), rfl, by decide, rfl, Or.inl (mt_in 747 (by decide +kernel) rfl)⟩
set_option maxRecDepth 100000 in
theorem mt_P_r89 : mt_Pp (((14, 97), (11, 31, false))) := ⟨("HealBenchModel", mt_F11, 40), rfl, by decide, rfl, Or.inl (mt_in 772 (by decide +kernel) rfl)⟩
set_option maxRecDepth 100000 in
theorem mt_P_r90 : mt_Pp (((14, 109), (11, 9, false))) := ⟨("HealBenchModel", mt_F11, 40), rfl, by decide, rfl, Or.inl (mt_in 750 (by decide +kernel) rfl)⟩
set_option maxRecDepth 100000 in
theorem mt_P_r91 : mt_Pp (((14, 112), (11, 25, false))) := ⟨("HealBenchModel", mt_F11, 40), rfl, by decide, rfl, Or.inl (mt_in 766 (by decide +kernel) rfl)⟩
set_option maxRecDepth 100000 in
theorem mt_P_r92 : mt_Pp (((14, 115), (11, 24, false))) := ⟨("HealBenchModel", mt_F11, 40), rfl, by decide, rfl, Or.inl (mt_in 765 (by decide +kernel) rfl)⟩
set_option maxRecDepth 100000 in
theorem mt_P_r93 : mt_Pp (((14, 118), (11, 17, false))) := ⟨("HealBenchModel", mt_F11, 40), rfl, by decide, rfl, Or.inl (mt_in 758 (by decide +kernel) rfl)⟩
set_option maxRecDepth 100000 in
theorem mt_P_r94 : mt_Pp (((14, 121), (11, 22, false))) := ⟨("HealBenchModel", mt_F11, 40), rfl, by decide, rfl, Or.inl (mt_in 763 (by decide +kernel) rfl)⟩
set_option maxRecDepth 100000 in
theorem mt_P_r95 : mt_Pp (((14, 124), (11, 23, false))) := ⟨("HealBenchModel", mt_F11, 40), rfl, by decide, rfl, Or.inl (mt_in 764 (by decide +kernel) rfl)⟩
def mt_P_3 : List ((Nat × Nat) × (Nat × Nat × Bool)) := [((14, 42), (11, 16, true)), ((14, 45), (11, 18, true)), ((14, 48), (11, 19, true)), ((14, 51), (11, 20, true)), ((14, 54), (11, 21, true)), ((14, 57), (11, 28, true)), ((14, 60), (11, 29, true)), ((14, 63), (11, 33, true)), ((14, 66), (11, 34, true)), ((14, 69), (11, 35, true)), ((14, 72), (11, 36, true)), ((14, 75), (11, 37, true)), ((14, 78), (11, 39, true)), ((14, 85), (11, 2, false)), ((14, 88), (11, 11, false)), ((14, 91), (11, 5, false)), ((14, 94), (11, 6, false)), ((14, 97), (11, 31, false)), ((14, 109), (11, 9, false)), ((14, 112), (11, 25, false)), ((14, 115), (11, 24, false)), ((14, 118), (11, 17, false)), ((14, 121), (11, 22, false)), ((14, 124), (11, 23, false))]
theorem mt_P_a3 : ∀ e ∈ mt_P_3, mt_Pp e := List.forall_mem_cons.mpr ⟨mt_P_r72, List.forall_mem_cons.mpr ⟨mt_P_r73, List.forall_mem_cons.mpr ⟨mt_P_r74, List.forall_mem_cons.mpr ⟨mt_P_r75, List.forall_mem_cons.mpr ⟨mt_P_r76, List.forall_mem_cons.mpr ⟨mt_P_r77, List.forall_mem_cons.mpr ⟨mt_P_r78, List.forall_mem_cons.mpr ⟨mt_P_r79, List.forall_mem_cons.mpr ⟨mt_P_r80, List.forall_mem_cons.mpr ⟨mt_P_r81, List.forall_mem_cons.mpr ⟨mt_P_r82, List.forall_mem_cons.mpr ⟨mt_P_r83, List.forall_mem_cons.mpr ⟨mt_P_r84, List.forall_mem_cons.mpr ⟨mt_P_r85, List.forall_mem_cons.mpr ⟨mt_P_r86, List.forall_mem_cons.mpr ⟨mt_P_r87, List.forall_mem_cons.mpr ⟨mt_P_r88, List.forall_mem_cons.mpr ⟨mt_P_r89, List.forall_mem_cons.mpr ⟨mt_P_r90, List.forall_mem_cons.mpr ⟨mt_P_r91, List.forall_mem_cons.mpr ⟨mt_P_r92, List.forall_mem_cons.mpr ⟨mt_P_r93, List.forall_mem_cons.mpr ⟨mt_P_r94, List.forall_mem_cons.mpr ⟨mt_P_r95, fun _ h => absurd h List.not_mem_nil⟩⟩⟩⟩⟩⟩⟩⟩⟩⟩⟩⟩⟩⟩⟩⟩⟩⟩⟩⟩⟩⟩⟩⟩
set_option maxRecDepth 100000 in
theorem mt_P_r96 : mt_Pp (((14, 131), (11, 26, false))) := ⟨("HealBenchModel", mt_F11, 40), rfl, by decide, rfl, Or.inl (mt_in 767 (by decide +kernel) rfl)⟩
set_option maxRecDepth 100000 in
theorem mt_P_r97 : mt_Pp (((14, 140), (11, 27, false))) := ⟨("HealBenchModel", mt_F11, 40), rfl, by decide, rfl, Or.inl (mt_in 768 (by decide +kernel) rfl)⟩
set_option maxRecDepth 100000 in
theorem mt_P_r98 : mt_Pp (((14, 169), (11, 7, false))) := ⟨("HealBenchModel", mt_F11, 40), rfl, by decide, rfl, Or.inl (mt_in 748 (by decide +kernel) rfl)⟩
set_option maxRecDepth 100000 in
theorem mt_P_r99 : mt_Pp (((14, 182), (11, 30, false))) := ⟨("HealBenchModel", mt_F11, 40), rfl, by decide, rfl, Or.inl (mt_in 771 (by decide +kernel) rfl)⟩
set_option maxRecDepth 100000 in
theorem mt_P_r100 : mt_Pp (((14, 226), (11, 38, false))) := ⟨("HealBenchModel", mt_F11, 40), rfl, by decide, rfl, Or.inl (mt_in 779 (by decide +kernel) rfl)⟩
set_option maxRecDepth 100000 in
theorem mt_P_r101 : mt_Pp (((14, 242), (11, 32, false))) := ⟨("HealBenchModel", mt_F11, 40), rfl, by decide, rfl, Or.inl (mt_in 773 (by decide +kernel) rfl)⟩
def mt_P_4 : List ((Nat × Nat) × (Nat × Nat × Bool)) := [((14, 131), (11, 26, false)), ((14, 140), (11, 27, false)), ((14, 169), (11, 7, false)), ((14, 182), (11, 30, false)), ((14, 226), (11, 38, false)), ((14, 242), (11, 32, false))]
theorem mt_P_a4 : ∀ e ∈ mt_P_4, mt_Pp e := List.forall_mem_cons.mpr ⟨mt_P_r96, List.forall_mem_cons.mpr ⟨mt_P_r97, List.forall_mem_cons.mpr ⟨mt_P_r98, List.forall_mem_cons.mpr ⟨mt_P_r99, List.forall_mem_cons.mpr ⟨mt_P_r100, List.forall_mem_cons.mpr ⟨mt_P_r101, fun _ h => absurd h List.not_mem_nil⟩⟩⟩⟩⟩⟩
def mt_P : List ((Nat × Nat) × (Nat × Nat × Bool)) := mt_P_0 ++ (mt_P_1 ++ (mt_P_2 ++ (mt_P_3 ++ (mt_P_4))))
theorem mt_P_all : ∀ e ∈ mt_P, mt_Pp e := by
  show ∀ e ∈ mt_P_0 ++ (mt_P_1 ++ (mt_P_2 ++ (mt_P_3 ++ (mt_P_4)))), mt_Pp e
  exact List.forall_mem_append.mpr ⟨mt_P_a0, List.forall_mem_append.mpr ⟨mt_P_a1, List.forall_mem_append.mpr ⟨mt_P_a2, List.forall_mem_append.mpr ⟨mt_P_a3, mt_P_a4⟩⟩⟩⟩
set_option maxRecDepth 100000 in
theorem mt_LF_r0 : mt_Pl (((17, 9), 0)) := ⟨fun _ => mt_in 1081 (by decide +kernel) rfl, fun h => absurd h (by decide)⟩
set_option maxRecDepth 100000 in
theorem mt_LF_r1 : mt_Pl (((17, 15), 1)) := ⟨fun h => absurd h (by decide), fun _ => mt_in 1080 (by decide +kernel) rfl⟩
def mt_LF_0 : List ((Nat × Nat) × Nat) := [((17, 9), 0), ((17, 15), 1)]
theorem mt_LF_a0 : ∀ e ∈ mt_LF_0, mt_Pl e := List.forall_mem_cons.mpr ⟨mt_LF_r0, List.forall_mem_cons.mpr ⟨mt_LF_r1, fun _ h => absurd h List.not_mem_nil⟩⟩
def mt_LF : List ((Nat × Nat) × Nat) := mt_LF_0
theorem mt_LF_all : ∀ e ∈ mt_LF, mt_Pl e := by
  show ∀ e ∈ mt_LF_0, mt_Pl e
  exact mt_LF_a0
set_option maxRecDepth 100000 in
theorem mt_S_r0 : mt_Ps (((17, 38), 1)) := ⟨"java/lang/String", "COMPACT_STRINGS", "Z", List.mem_cons_self, mt_in 391 (by decide +kernel) rfl⟩
def mt_S_0 : List ((Nat × Nat) × Int32) := [((17, 38), 1)]
theorem mt_S_a0 : ∀ e ∈ mt_S_0, mt_Ps e := List.forall_mem_cons.mpr ⟨mt_S_r0, fun _ h => absurd h List.not_mem_nil⟩
def mt_S : List ((Nat × Nat) × Int32) := mt_S_0
theorem mt_S_all : ∀ e ∈ mt_S, mt_Ps e := by
  show ∀ e ∈ mt_S_0, mt_Ps e
  exact mt_S_a0
set_option maxRecDepth 100000 in
theorem mt_K_r0 : mt_Pk (((7, 84), .retAddr 1)) := Or.inr ⟨0, "0123456789xidmMlunk", rfl, by decide +kernel⟩
set_option maxRecDepth 100000 in
theorem mt_K_r1 : mt_Pk (((7, 92), .retAddr 3)) := Or.inr ⟨1, "yj", rfl, by decide +kernel⟩
set_option maxRecDepth 100000 in
theorem mt_K_r2 : mt_Pk (((9, 156), .int 33792)) := Or.inl ⟨33792, rfl, mt_in 704 (by decide +kernel) rfl⟩
set_option maxRecDepth 100000 in
theorem mt_K_r3 : mt_Pk (((9, 161), .int 1000000)) := Or.inl ⟨1000000, rfl, mt_in 709 (by decide +kernel) rfl⟩
set_option maxRecDepth 100000 in
theorem mt_K_r4 : mt_Pk (((15, 265), .int 1431655765)) := Or.inl ⟨1431655765, rfl, mt_in 577 (by decide +kernel) rfl⟩
set_option maxRecDepth 100000 in
theorem mt_K_r5 : mt_Pk (((15, 266), .int 858993459)) := Or.inl ⟨858993459, rfl, mt_in 578 (by decide +kernel) rfl⟩
set_option maxRecDepth 100000 in
theorem mt_K_r6 : mt_Pk (((15, 267), .int 252645135)) := Or.inl ⟨252645135, rfl, mt_in 579 (by decide +kernel) rfl⟩
def mt_K_0 : List ((Nat × Nat) × Value) := [((7, 84), .retAddr 1), ((7, 92), .retAddr 3), ((9, 156), .int 33792), ((9, 161), .int 1000000), ((15, 265), .int 1431655765), ((15, 266), .int 858993459), ((15, 267), .int 252645135)]
theorem mt_K_a0 : ∀ e ∈ mt_K_0, mt_Pk e := List.forall_mem_cons.mpr ⟨mt_K_r0, List.forall_mem_cons.mpr ⟨mt_K_r1, List.forall_mem_cons.mpr ⟨mt_K_r2, List.forall_mem_cons.mpr ⟨mt_K_r3, List.forall_mem_cons.mpr ⟨mt_K_r4, List.forall_mem_cons.mpr ⟨mt_K_r5, List.forall_mem_cons.mpr ⟨mt_K_r6, fun _ h => absurd h List.not_mem_nil⟩⟩⟩⟩⟩⟩⟩
def mt_K : List ((Nat × Nat) × Value) := mt_K_0
theorem mt_K_all : ∀ e ∈ mt_K, mt_Pk e := by
  show ∀ e ∈ mt_K_0, mt_Pk e
  exact mt_K_a0
set_option maxRecDepth 100000 in
theorem mt_N_r0 : mt_Pn (((1, 7), 2)) := ⟨("HealBench$Graph", mt_F2, 6), rfl, mt_in 31 (by decide +kernel) rfl, mt_in 32 (by decide +kernel) rfl, mt_in 2 (by decide +kernel) rfl⟩
set_option maxRecDepth 100000 in
theorem mt_N_r1 : mt_Pn (((1, 16), 10)) := ⟨("HealBench$View", mt_F10, 6), rfl, mt_in 79 (by decide +kernel) rfl, mt_in 80 (by decide +kernel) rfl, mt_in 4 (by decide +kernel) rfl⟩
set_option maxRecDepth 100000 in
theorem mt_N_r2 : mt_Pn (((1, 25), 7)) := ⟨("HealBench$Rules", mt_F7, 5), rfl, mt_in 115 (by decide +kernel) rfl, mt_in 116 (by decide +kernel) rfl, mt_in 5 (by decide +kernel) rfl⟩
set_option maxRecDepth 100000 in
theorem mt_N_r3 : mt_Pn (((1, 32), 8)) := ⟨("HealBench$Search", mt_F8, 18), rfl, mt_in 142 (by decide +kernel) rfl, mt_in 143 (by decide +kernel) rfl, mt_in 6 (by decide +kernel) rfl⟩
set_option maxRecDepth 100000 in
theorem mt_N_r4 : mt_Pn (((1, 90), 6)) := ⟨("HealBench$Reader", mt_F6, 3), rfl, mt_in 294 (by decide +kernel) rfl, mt_in 295 (by decide +kernel) rfl, mt_in 9 (by decide +kernel) rfl⟩
set_option maxRecDepth 100000 in
theorem mt_N_r5 : mt_Pn (((7, 37), 5)) := ⟨("HealBench$Pair", mt_F5, 3), rfl, mt_in 502 (by decide +kernel) rfl, mt_in 503 (by decide +kernel) rfl, mt_in 21 (by decide +kernel) rfl⟩
set_option maxRecDepth 100000 in
theorem mt_N_r6 : mt_Pn (((7, 45), 4)) := ⟨("HealBench$Not", mt_F4, 1), rfl, mt_in 331 (by decide +kernel) rfl, mt_in 332 (by decide +kernel) rfl, mt_in 11 (by decide +kernel) rfl⟩
set_option maxRecDepth 100000 in
theorem mt_N_r7 : mt_Pn (((7, 57), 3)) := ⟨("HealBench$Neighbours", mt_F3, 2), rfl, mt_in 353 (by decide +kernel) rfl, mt_in 354 (by decide +kernel) rfl, mt_in 12 (by decide +kernel) rfl⟩
set_option maxRecDepth 100000 in
theorem mt_N_r8 : mt_Pn (((7, 70), 1)) := ⟨("HealBench$Comparison", mt_F1, 3), rfl, mt_in 486 (by decide +kernel) rfl, mt_in 487 (by decide +kernel) rfl, mt_in 20 (by decide +kernel) rfl⟩
set_option maxRecDepth 100000 in
theorem mt_N_r9 : mt_Pn (((7, 79), 9)) := ⟨("HealBench$Sum", mt_F9, 4), rfl, mt_in 466 (by decide +kernel) rfl, mt_in 467 (by decide +kernel) rfl, mt_in 19 (by decide +kernel) rfl⟩
set_option maxRecDepth 100000 in
theorem mt_N_r10 : mt_Pn (((9, 49), 10)) := ⟨("HealBench$View", mt_F10, 6), rfl, mt_in 148 (by decide +kernel) rfl, mt_in 80 (by decide +kernel) rfl, mt_in 4 (by decide +kernel) rfl⟩
set_option maxRecDepth 100000 in
theorem mt_N_r11 : mt_Pn (((13, 7), 0)) := ⟨("HealBench", mt_F0, 9), rfl, mt_in 23 (by decide +kernel) rfl, mt_in 24 (by decide +kernel) rfl, mt_in 1 (by decide +kernel) rfl⟩
set_option maxRecDepth 100000 in
theorem mt_N_r12 : mt_Pn (((13, 10), 11)) := ⟨("HealBenchModel", mt_F11, 40), rfl, mt_in 735 (by decide +kernel) rfl, mt_in 736 (by decide +kernel) rfl, mt_in 7 (by decide +kernel) rfl⟩
def mt_N_0 : List ((Nat × Nat) × Nat) := [((1, 7), 2), ((1, 16), 10), ((1, 25), 7), ((1, 32), 8), ((1, 90), 6), ((7, 37), 5), ((7, 45), 4), ((7, 57), 3), ((7, 70), 1), ((7, 79), 9), ((9, 49), 10), ((13, 7), 0), ((13, 10), 11)]
theorem mt_N_a0 : ∀ e ∈ mt_N_0, mt_Pn e := List.forall_mem_cons.mpr ⟨mt_N_r0, List.forall_mem_cons.mpr ⟨mt_N_r1, List.forall_mem_cons.mpr ⟨mt_N_r2, List.forall_mem_cons.mpr ⟨mt_N_r3, List.forall_mem_cons.mpr ⟨mt_N_r4, List.forall_mem_cons.mpr ⟨mt_N_r5, List.forall_mem_cons.mpr ⟨mt_N_r6, List.forall_mem_cons.mpr ⟨mt_N_r7, List.forall_mem_cons.mpr ⟨mt_N_r8, List.forall_mem_cons.mpr ⟨mt_N_r9, List.forall_mem_cons.mpr ⟨mt_N_r10, List.forall_mem_cons.mpr ⟨mt_N_r11, List.forall_mem_cons.mpr ⟨mt_N_r12, fun _ h => absurd h List.not_mem_nil⟩⟩⟩⟩⟩⟩⟩⟩⟩⟩⟩⟩⟩
def mt_N : List ((Nat × Nat) × Nat) := mt_N_0
theorem mt_N_all : ∀ e ∈ mt_N, mt_Pn e := by
  show ∀ e ∈ mt_N_0, mt_Pn e
  exact mt_N_a0
set_option maxRecDepth 100000 in
theorem mt_NA_r0 : mt_Pa (((8, 9), 200)) := ⟨3, "HealBench$Test", rfl, by decide, mt_in 121 (by decide +kernel) rfl, by decide +kernel⟩
set_option maxRecDepth 100000 in
theorem mt_NA_r1 : mt_Pa (((8, 17), 201)) := ⟨4, "HealBench$Sum", rfl, by decide, mt_in 123 (by decide +kernel) rfl, by decide +kernel⟩
def mt_NA_0 : List ((Nat × Nat) × Nat) := [((8, 9), 200), ((8, 17), 201)]
theorem mt_NA_a0 : ∀ e ∈ mt_NA_0, mt_Pa e := List.forall_mem_cons.mpr ⟨mt_NA_r0, List.forall_mem_cons.mpr ⟨mt_NA_r1, fun _ h => absurd h List.not_mem_nil⟩⟩
def mt_NA : List ((Nat × Nat) × Nat) := mt_NA_0
theorem mt_NA_all : ∀ e ∈ mt_NA, mt_Pa e := by
  show ∀ e ∈ mt_NA_0, mt_Pa e
  exact mt_NA_a0
set_option maxRecDepth 100000 in
theorem mt_MS_r0 : mt_Pms (((1, 194), 9999)) := ⟨fun _ => mt_in 291 (by decide +kernel) rfl, fun h => absurd rfl h⟩
set_option maxRecDepth 100000 in
theorem mt_MS_r1 : mt_Pms (((3, 35), 137)) := ⟨fun h => absurd h (by decide), fun _ => ⟨⟨by decide, by decide +kernel⟩, Or.inl (mt_in 41 (by decide +kernel) rfl), mt_in 42 (by decide +kernel) rfl, by decide +kernel⟩⟩
set_option maxRecDepth 100000 in
theorem mt_MS_r2 : mt_Pms (((8, 74), 139)) := ⟨fun h => absurd h (by decide), fun _ => ⟨⟨by decide, by decide +kernel⟩, Or.inl (mt_in 632 (by decide +kernel) rfl), mt_in 598 (by decide +kernel) rfl, by decide +kernel⟩⟩
set_option maxRecDepth 100000 in
theorem mt_MS_r3 : mt_Pms (((8, 86), 138)) := ⟨fun h => absurd h (by decide), fun _ => ⟨⟨by decide, by decide +kernel⟩, Or.inl (mt_in 646 (by decide +kernel) rfl), mt_in 575 (by decide +kernel) rfl, by decide +kernel⟩⟩
set_option maxRecDepth 100000 in
theorem mt_MS_r4 : mt_Pms (((9, 65), 138)) := ⟨fun h => absurd h (by decide), fun _ => ⟨⟨by decide, by decide +kernel⟩, Or.inl (mt_in 637 (by decide +kernel) rfl), mt_in 575 (by decide +kernel) rfl, by decide +kernel⟩⟩
set_option maxRecDepth 100000 in
theorem mt_MS_r5 : mt_Pms (((9, 108), 9999)) := ⟨fun _ => mt_in 669 (by decide +kernel) rfl, fun h => absurd rfl h⟩
set_option maxRecDepth 100000 in
theorem mt_MS_r6 : mt_Pms (((9, 151), 140)) := ⟨fun h => absurd h (by decide), fun _ => ⟨⟨by decide, by decide +kernel⟩, Or.inl (mt_in 710 (by decide +kernel) rfl), mt_in 408 (by decide +kernel) rfl, by decide +kernel⟩⟩
set_option maxRecDepth 100000 in
theorem mt_MS_r7 : mt_Pms (((10, 39), 139)) := ⟨fun h => absurd h (by decide), fun _ => ⟨⟨by decide, by decide +kernel⟩, Or.inl (mt_in 597 (by decide +kernel) rfl), mt_in 598 (by decide +kernel) rfl, by decide +kernel⟩⟩
set_option maxRecDepth 100000 in
theorem mt_MS_r8 : mt_Pms (((12, 44), 138)) := ⟨fun h => absurd h (by decide), fun _ => ⟨⟨by decide, by decide +kernel⟩, Or.inl (mt_in 574 (by decide +kernel) rfl), mt_in 575 (by decide +kernel) rfl, by decide +kernel⟩⟩
set_option maxRecDepth 100000 in
theorem mt_MS_r9 : mt_Pms (((12, 54), 141)) := ⟨fun h => absurd h (by decide), fun _ => ⟨⟨by decide, by decide +kernel⟩, Or.inl (mt_in 581 (by decide +kernel) rfl), mt_in 411 (by decide +kernel) rfl, by decide +kernel⟩⟩
set_option maxRecDepth 100000 in
theorem mt_MS_r10 : mt_Pms (((12, 59), 140)) := ⟨fun h => absurd h (by decide), fun _ => ⟨⟨by decide, by decide +kernel⟩, Or.inl (mt_in 582 (by decide +kernel) rfl), mt_in 408 (by decide +kernel) rfl, by decide +kernel⟩⟩
set_option maxRecDepth 100000 in
theorem mt_MS_r11 : mt_Pms (((14, 81), 85)) := ⟨fun h => absurd h (by decide), fun _ => ⟨⟨by decide, by decide +kernel⟩, Or.inl (mt_in 870 (by decide +kernel) rfl), mt_in 871 (by decide +kernel) rfl, by decide +kernel⟩⟩
set_option maxRecDepth 100000 in
theorem mt_MS_r12 : mt_Pms (((14, 179), 114)) := ⟨fun h => absurd h (by decide), fun _ => ⟨⟨by decide, by decide +kernel⟩, Or.inl (mt_in 984 (by decide +kernel) rfl), mt_in 985 (by decide +kernel) rfl, by decide +kernel⟩⟩
set_option maxRecDepth 100000 in
theorem mt_MS_r13 : mt_Pms (((14, 188), 113)) := ⟨fun h => absurd h (by decide), fun _ => ⟨⟨by decide, by decide +kernel⟩, Or.inl (mt_in 981 (by decide +kernel) rfl), mt_in 982 (by decide +kernel) rfl, by decide +kernel⟩⟩
set_option maxRecDepth 100000 in
theorem mt_MS_r14 : mt_Pms (((17, 637), 147)) := ⟨fun h => absurd h (by decide), fun _ => ⟨⟨by decide, by decide +kernel⟩, Or.inl (mt_in 401 (by decide +kernel) rfl), mt_in 402 (by decide +kernel) rfl, by decide +kernel⟩⟩
set_option maxRecDepth 100000 in
theorem mt_MS_r15 : mt_Pms (((18, 38), 141)) := ⟨fun h => absurd h (by decide), fun _ => ⟨⟨by decide, by decide +kernel⟩, Or.inl (mt_in 410 (by decide +kernel) rfl), mt_in 411 (by decide +kernel) rfl, by decide +kernel⟩⟩
set_option maxRecDepth 100000 in
theorem mt_MS_r16 : mt_Pms (((18, 88), 148)) := ⟨fun h => absurd h (by decide), fun _ => ⟨⟨by decide, by decide +kernel⟩, Or.inl (mt_in 404 (by decide +kernel) rfl), mt_in 405 (by decide +kernel) rfl, by decide +kernel⟩⟩
set_option maxRecDepth 100000 in
theorem mt_MS_r17 : mt_Pms (((18, 92), 140)) := ⟨fun h => absurd h (by decide), fun _ => ⟨⟨by decide, by decide +kernel⟩, Or.inl (mt_in 407 (by decide +kernel) rfl), mt_in 408 (by decide +kernel) rfl, by decide +kernel⟩⟩
set_option maxRecDepth 100000 in
theorem mt_MS_r18 : mt_Pms (((18, 95), 149)) := ⟨fun h => absurd h (by decide), fun _ => ⟨⟨by decide, by decide +kernel⟩, Or.inl (mt_in 413 (by decide +kernel) rfl), mt_in 414 (by decide +kernel) rfl, by decide +kernel⟩⟩
def mt_MS_0 : List ((Nat × Nat) × Nat) := [((1, 194), 9999), ((3, 35), 137), ((8, 74), 139), ((8, 86), 138), ((9, 65), 138), ((9, 108), 9999), ((9, 151), 140), ((10, 39), 139), ((12, 44), 138), ((12, 54), 141), ((12, 59), 140), ((14, 81), 85), ((14, 179), 114), ((14, 188), 113), ((17, 637), 147), ((18, 38), 141), ((18, 88), 148), ((18, 92), 140), ((18, 95), 149)]
theorem mt_MS_a0 : ∀ e ∈ mt_MS_0, mt_Pms e := List.forall_mem_cons.mpr ⟨mt_MS_r0, List.forall_mem_cons.mpr ⟨mt_MS_r1, List.forall_mem_cons.mpr ⟨mt_MS_r2, List.forall_mem_cons.mpr ⟨mt_MS_r3, List.forall_mem_cons.mpr ⟨mt_MS_r4, List.forall_mem_cons.mpr ⟨mt_MS_r5, List.forall_mem_cons.mpr ⟨mt_MS_r6, List.forall_mem_cons.mpr ⟨mt_MS_r7, List.forall_mem_cons.mpr ⟨mt_MS_r8, List.forall_mem_cons.mpr ⟨mt_MS_r9, List.forall_mem_cons.mpr ⟨mt_MS_r10, List.forall_mem_cons.mpr ⟨mt_MS_r11, List.forall_mem_cons.mpr ⟨mt_MS_r12, List.forall_mem_cons.mpr ⟨mt_MS_r13, List.forall_mem_cons.mpr ⟨mt_MS_r14, List.forall_mem_cons.mpr ⟨mt_MS_r15, List.forall_mem_cons.mpr ⟨mt_MS_r16, List.forall_mem_cons.mpr ⟨mt_MS_r17, List.forall_mem_cons.mpr ⟨mt_MS_r18, fun _ h => absurd h List.not_mem_nil⟩⟩⟩⟩⟩⟩⟩⟩⟩⟩⟩⟩⟩⟩⟩⟩⟩⟩⟩
def mt_MS : List ((Nat × Nat) × Nat) := mt_MS_0
theorem mt_MS_all : ∀ e ∈ mt_MS, mt_Pms e := by
  show ∀ e ∈ mt_MS_0, mt_Pms e
  exact mt_MS_a0
set_option maxRecDepth 100000 in
theorem mt_MI_r0 : mt_Pmi (((1, 1), 9999)) := ⟨fun _ => mt_in 28 (by decide +kernel) rfl, fun h => absurd rfl h⟩
set_option maxRecDepth 100000 in
theorem mt_MI_r1 : mt_Pmi (((1, 9), 2)) := ⟨fun h => absurd h (by decide), fun _ => ⟨⟨by decide, by decide +kernel⟩, Or.inl (mt_in 33 (by decide +kernel) rfl), mt_in 34 (by decide +kernel) rfl, rfl, rfl, by decide +kernel⟩⟩
set_option maxRecDepth 100000 in
theorem mt_MI_r2 : mt_Pmi (((1, 18), 4)) := ⟨fun h => absurd h (by decide), fun _ => ⟨⟨by decide, by decide +kernel⟩, Or.inl (mt_in 81 (by decide +kernel) rfl), mt_in 82 (by decide +kernel) rfl, rfl, rfl, by decide +kernel⟩⟩
set_option maxRecDepth 100000 in
theorem mt_MI_r3 : mt_Pmi (((1, 27), 5)) := ⟨fun h => absurd h (by decide), fun _ => ⟨⟨by decide, by decide +kernel⟩, Or.inr ⟨"HealBench", mt_nin 117 (by decide +kernel) rfl⟩, mt_in 118 (by decide +kernel) rfl, rfl, rfl, by decide +kernel⟩⟩
set_option maxRecDepth 100000 in
theorem mt_MI_r4 : mt_Pmi (((1, 34), 6)) := ⟨fun h => absurd h (by decide), fun _ => ⟨⟨by decide, by decide +kernel⟩, Or.inl (mt_in 144 (by decide +kernel) rfl), mt_in 145 (by decide +kernel) rfl, rfl, rfl, by decide +kernel⟩⟩
set_option maxRecDepth 100000 in
theorem mt_MI_r5 : mt_Pmi (((1, 200), 19)) := ⟨fun h => absurd h (by decide), fun _ => ⟨⟨by decide, by decide +kernel⟩, Or.inl (mt_in 296 (by decide +kernel) rfl), mt_in 297 (by decide +kernel) rfl, rfl, rfl, by decide +kernel⟩⟩
set_option maxRecDepth 100000 in
theorem mt_MI_r6 : mt_Pmi (((2, 1), 26)) := ⟨fun h => absurd h (by decide), fun _ => ⟨⟨by decide, by decide +kernel⟩, Or.inr ⟨"HealBench", mt_nin 491 (by decide +kernel) rfl⟩, mt_in 337 (by decide +kernel) rfl, rfl, rfl, by decide +kernel⟩⟩
set_option maxRecDepth 100000 in
theorem mt_MI_r7 : mt_Pmi (((3, 3), 9999)) := ⟨fun _ => mt_in 36 (by decide +kernel) rfl, fun h => absurd rfl h⟩
set_option maxRecDepth 100000 in
theorem mt_MI_r8 : mt_Pmi (((4, 1), 26)) := ⟨fun h => absurd h (by decide), fun _ => ⟨⟨by decide, by decide +kernel⟩, Or.inr ⟨"HealBench", mt_nin 358 (by decide +kernel) rfl⟩, mt_in 337 (by decide +kernel) rfl, rfl, rfl, by decide +kernel⟩⟩
set_option maxRecDepth 100000 in
theorem mt_MI_r9 : mt_Pmi (((5, 1), 26)) := ⟨fun h => absurd h (by decide), fun _ => ⟨⟨by decide, by decide +kernel⟩, Or.inr ⟨"HealBench", mt_nin 336 (by decide +kernel) rfl⟩, mt_in 337 (by decide +kernel) rfl, rfl, rfl, by decide +kernel⟩⟩
set_option maxRecDepth 100000 in
theorem mt_MI_r10 : mt_Pmi (((6, 1), 26)) := ⟨fun h => absurd h (by decide), fun _ => ⟨⟨by decide, by decide +kernel⟩, Or.inr ⟨"HealBench", mt_nin 507 (by decide +kernel) rfl⟩, mt_in 337 (by decide +kernel) rfl, rfl, rfl, by decide +kernel⟩⟩
set_option maxRecDepth 100000 in
theorem mt_MI_r11 : mt_Pmi (((7, 3), 9999)) := ⟨fun _ => mt_in 299 (by decide +kernel) rfl, fun h => absurd rfl h⟩
set_option maxRecDepth 100000 in
theorem mt_MI_r12 : mt_Pmi (((7, 39), 35)) := ⟨fun h => absurd h (by decide), fun _ => ⟨⟨by decide, by decide +kernel⟩, Or.inl (mt_in 504 (by decide +kernel) rfl), mt_in 505 (by decide +kernel) rfl, rfl, rfl, by decide +kernel⟩⟩
set_option maxRecDepth 100000 in
theorem mt_MI_r13 : mt_Pmi (((7, 47), 25)) := ⟨fun h => absurd h (by decide), fun _ => ⟨⟨by decide, by decide +kernel⟩, Or.inl (mt_in 333 (by decide +kernel) rfl), mt_in 334 (by decide +kernel) rfl, rfl, rfl, by decide +kernel⟩⟩
set_option maxRecDepth 100000 in
theorem mt_MI_r14 : mt_Pmi (((7, 59), 29)) := ⟨fun h => absurd h (by decide), fun _ => ⟨⟨by decide, by decide +kernel⟩, Or.inl (mt_in 355 (by decide +kernel) rfl), mt_in 356 (by decide +kernel) rfl, rfl, rfl, by decide +kernel⟩⟩
set_option maxRecDepth 100000 in
theorem mt_MI_r15 : mt_Pmi (((7, 72), 34)) := ⟨fun h => absurd h (by decide), fun _ => ⟨⟨by decide, by decide +kernel⟩, Or.inl (mt_in 488 (by decide +kernel) rfl), mt_in 489 (by decide +kernel) rfl, rfl, rfl, by decide +kernel⟩⟩
set_option maxRecDepth 100000 in
theorem mt_MI_r16 : mt_Pmi (((7, 81), 33)) := ⟨fun h => absurd h (by decide), fun _ => ⟨⟨by decide, by decide +kernel⟩, Or.inl (mt_in 468 (by decide +kernel) rfl), mt_in 469 (by decide +kernel) rfl, rfl, rfl, by decide +kernel⟩⟩
set_option maxRecDepth 100000 in
theorem mt_MI_r17 : mt_Pmi (((8, 3), 9999)) := ⟨fun _ => mt_in 120 (by decide +kernel) rfl, fun h => absurd rfl h⟩
set_option maxRecDepth 100000 in
theorem mt_MI_r18 : mt_Pmi (((9, 3), 9999)) := ⟨fun _ => mt_in 147 (by decide +kernel) rfl, fun h => absurd rfl h⟩
set_option maxRecDepth 100000 in
theorem mt_MI_r19 : mt_Pmi (((9, 51), 4)) := ⟨fun h => absurd h (by decide), fun _ => ⟨⟨by decide, by decide +kernel⟩, Or.inl (mt_in 149 (by decide +kernel) rfl), mt_in 82 (by decide +kernel) rfl, rfl, rfl, by decide +kernel⟩⟩
set_option maxRecDepth 100000 in
theorem mt_MI_r20 : mt_Pmi (((10, 1), 9999)) := ⟨fun _ => mt_in 471 (by decide +kernel) rfl, fun h => absurd rfl h⟩
set_option maxRecDepth 100000 in
theorem mt_MI_r21 : mt_Pmi (((11, 1), 9999)) := ⟨fun _ => mt_in 339 (by decide +kernel) rfl, fun h => absurd rfl h⟩
set_option maxRecDepth 100000 in
theorem mt_MI_r22 : mt_Pmi (((12, 3), 9999)) := ⟨fun _ => mt_in 84 (by decide +kernel) rfl, fun h => absurd rfl h⟩
set_option maxRecDepth 100000 in
theorem mt_MI_r23 : mt_Pmi (((13, 9), 1)) := ⟨fun h => absurd h (by decide), fun _ => ⟨⟨by decide, by decide +kernel⟩, Or.inl (mt_in 25 (by decide +kernel) rfl), mt_in 26 (by decide +kernel) rfl, rfl, rfl, by decide +kernel⟩⟩
def mt_MI_0 : List ((Nat × Nat) × Nat) := [((1, 1), 9999), ((1, 9), 2), ((1, 18), 4), ((1, 27), 5), ((1, 34), 6), ((1, 200), 19), ((2, 1), 26), ((3, 3), 9999), ((4, 1), 26), ((5, 1), 26), ((6, 1), 26), ((7, 3), 9999), ((7, 39), 35), ((7, 47), 25), ((7, 59), 29), ((7, 72), 34), ((7, 81), 33), ((8, 3), 9999), ((9, 3), 9999), ((9, 51), 4), ((10, 1), 9999), ((11, 1), 9999), ((12, 3), 9999), ((13, 9), 1)]
theorem mt_MI_a0 : ∀ e ∈ mt_MI_0, mt_Pmi e := List.forall_mem_cons.mpr ⟨mt_MI_r0, List.forall_mem_cons.mpr ⟨mt_MI_r1, List.forall_mem_cons.mpr ⟨mt_MI_r2, List.forall_mem_cons.mpr ⟨mt_MI_r3, List.forall_mem_cons.mpr ⟨mt_MI_r4, List.forall_mem_cons.mpr ⟨mt_MI_r5, List.forall_mem_cons.mpr ⟨mt_MI_r6, List.forall_mem_cons.mpr ⟨mt_MI_r7, List.forall_mem_cons.mpr ⟨mt_MI_r8, List.forall_mem_cons.mpr ⟨mt_MI_r9, List.forall_mem_cons.mpr ⟨mt_MI_r10, List.forall_mem_cons.mpr ⟨mt_MI_r11, List.forall_mem_cons.mpr ⟨mt_MI_r12, List.forall_mem_cons.mpr ⟨mt_MI_r13, List.forall_mem_cons.mpr ⟨mt_MI_r14, List.forall_mem_cons.mpr ⟨mt_MI_r15, List.forall_mem_cons.mpr ⟨mt_MI_r16, List.forall_mem_cons.mpr ⟨mt_MI_r17, List.forall_mem_cons.mpr ⟨mt_MI_r18, List.forall_mem_cons.mpr ⟨mt_MI_r19, List.forall_mem_cons.mpr ⟨mt_MI_r20, List.forall_mem_cons.mpr ⟨mt_MI_r21, List.forall_mem_cons.mpr ⟨mt_MI_r22, List.forall_mem_cons.mpr ⟨mt_MI_r23, fun _ h => absurd h List.not_mem_nil⟩⟩⟩⟩⟩⟩⟩⟩⟩⟩⟩⟩⟩⟩⟩⟩⟩⟩⟩⟩⟩⟩⟩⟩
set_option maxRecDepth 100000 in
theorem mt_MI_r24 : mt_Pmi (((13, 12), 82)) := ⟨fun h => absurd h (by decide), fun _ => ⟨⟨by decide, by decide +kernel⟩, Or.inl (mt_in 737 (by decide +kernel) rfl), mt_in 738 (by decide +kernel) rfl, rfl, rfl, by decide +kernel⟩⟩
set_option maxRecDepth 100000 in
theorem mt_MI_r25 : mt_Pmi (((14, 1), 9999)) := ⟨fun _ => mt_in 740 (by decide +kernel) rfl, fun h => absurd rfl h⟩
def mt_MI_1 : List ((Nat × Nat) × Nat) := [((13, 12), 82), ((14, 1), 9999)]
theorem mt_MI_a1 : ∀ e ∈ mt_MI_1, mt_Pmi e := List.forall_mem_cons.mpr ⟨mt_MI_r24, List.forall_mem_cons.mpr ⟨mt_MI_r25, fun _ h => absurd h List.not_mem_nil⟩⟩
def mt_MI : List ((Nat × Nat) × Nat) := mt_MI_0 ++ (mt_MI_1)
theorem mt_MI_all : ∀ e ∈ mt_MI, mt_Pmi e := by
  show ∀ e ∈ mt_MI_0 ++ (mt_MI_1), mt_Pmi e
  exact List.forall_mem_append.mpr ⟨mt_MI_a0, mt_MI_a1⟩
set_option maxRecDepth 100000 in
theorem mt_MV_r0 : mt_Pmv (((1, 45), (3, [(2, 3)]))) := List.forall_mem_cons.mpr ⟨⟨⟨by decide, by decide +kernel⟩, mt_in 39 (by decide +kernel) rfl, by decide +kernel, ("HealBench$Graph", mt_F2, 6), rfl, Or.inr (Or.inl ⟨"HealBench", mt_nin 246 (by decide +kernel) rfl, mt_inS (q := (⟨"HealBench$Graph", "renew", "(II)V"⟩, 6)) 0 (by decide +kernel)⟩)⟩, fun _ h => absurd h List.not_mem_nil⟩
set_option maxRecDepth 100000 in
theorem mt_MV_r1 : mt_Pmv (((1, 49), (1, [(7, 8)]))) := List.forall_mem_cons.mpr ⟨⟨⟨by decide, by decide +kernel⟩, mt_in 249 (by decide +kernel) rfl, by decide +kernel, ("HealBench$Rules", mt_F7, 5), rfl, Or.inr (Or.inl ⟨"HealBench", mt_nin 247 (by decide +kernel) rfl, mt_inS (q := (⟨"HealBench$Rules", "clear", "()V"⟩, 5)) 1 (by decide +kernel)⟩)⟩, fun _ h => absurd h List.not_mem_nil⟩
set_option maxRecDepth 100000 in
theorem mt_MV_r2 : mt_Pmv (((1, 52), (1, [(8, 10)]))) := List.forall_mem_cons.mpr ⟨⟨⟨by decide, by decide +kernel⟩, mt_in 257 (by decide +kernel) rfl, by decide +kernel, ("HealBench$Search", mt_F8, 18), rfl, Or.inr (Or.inl ⟨"HealBench", mt_nin 255 (by decide +kernel) rfl, mt_inS (q := (⟨"HealBench$Search", "forgetMoves", "()V"⟩, 18)) 3 (by decide +kernel)⟩)⟩, fun _ h => absurd h List.not_mem_nil⟩
set_option maxRecDepth 100000 in
theorem mt_MV_r3 : mt_Pmv (((1, 59), (1, [(0, 11)]))) := List.forall_mem_cons.mpr ⟨⟨⟨by decide, by decide +kernel⟩, mt_in 261 (by decide +kernel) rfl, by decide +kernel, ("HealBench", mt_F0, 9), rfl, Or.inl ⟨mt_in 259 (by decide +kernel) rfl, mt_inS (q := (⟨"HealBench", "startCounts", "()V"⟩, 9)) 4 (by decide +kernel)⟩⟩, fun _ h => absurd h List.not_mem_nil⟩
set_option maxRecDepth 100000 in
theorem mt_MV_r4 : mt_Pmv (((1, 65), (2, [(2, 13)]))) := List.forall_mem_cons.mpr ⟨⟨⟨by decide, by decide +kernel⟩, mt_in 269 (by decide +kernel) rfl, by decide +kernel, ("HealBench$Graph", mt_F2, 6), rfl, Or.inr (Or.inl ⟨"HealBench", mt_nin 267 (by decide +kernel) rfl, mt_inS (q := (⟨"HealBench$Graph", "has", "(I)Z"⟩, 6)) 5 (by decide +kernel)⟩)⟩, fun _ h => absurd h List.not_mem_nil⟩
set_option maxRecDepth 100000 in
theorem mt_MV_r5 : mt_Pmv (((1, 69), (3, [(2, 14)]))) := List.forall_mem_cons.mpr ⟨⟨⟨by decide, by decide +kernel⟩, mt_in 273 (by decide +kernel) rfl, by decide +kernel, ("HealBench$Graph", mt_F2, 6), rfl, Or.inr (Or.inl ⟨"HealBench", mt_nin 271 (by decide +kernel) rfl, mt_inS (q := (⟨"HealBench$Graph", "linked", "(II)Z"⟩, 6)) 6 (by decide +kernel)⟩)⟩, fun _ h => absurd h List.not_mem_nil⟩
set_option maxRecDepth 100000 in
theorem mt_MV_r6 : mt_Pmv (((1, 73), (3, [(2, 15)]))) := List.forall_mem_cons.mpr ⟨⟨⟨by decide, by decide +kernel⟩, mt_in 277 (by decide +kernel) rfl, by decide +kernel, ("HealBench$Graph", mt_F2, 6), rfl, Or.inr (Or.inl ⟨"HealBench", mt_nin 275 (by decide +kernel) rfl, mt_inS (q := (⟨"HealBench$Graph", "link", "(II)V"⟩, 6)) 7 (by decide +kernel)⟩)⟩, fun _ h => absurd h List.not_mem_nil⟩
set_option maxRecDepth 100000 in
theorem mt_MV_r7 : mt_Pmv (((1, 82), (1, [(0, 18)]))) := List.forall_mem_cons.mpr ⟨⟨⟨by decide, by decide +kernel⟩, mt_in 289 (by decide +kernel) rfl, by decide +kernel, ("HealBench", mt_F0, 9), rfl, Or.inl ⟨mt_in 287 (by decide +kernel) rfl, mt_inS (q := (⟨"HealBench", "takeText", "()LHealBench$Reader;"⟩, 9)) 8 (by decide +kernel)⟩⟩, fun _ h => absurd h List.not_mem_nil⟩
set_option maxRecDepth 100000 in
theorem mt_MV_r8 : mt_Pmv (((1, 89), (3, [(6, 20)]))) := List.forall_mem_cons.mpr ⟨⟨⟨by decide, by decide +kernel⟩, mt_in 313 (by decide +kernel) rfl, by decide +kernel, ("HealBench$Reader", mt_F6, 3), rfl, Or.inr (Or.inl ⟨"HealBench", mt_nin 311 (by decide +kernel) rfl, mt_inS (q := (⟨"HealBench$Reader", "readGuard", "(IZ)LHealBench$Test;"⟩, 3)) 9 (by decide +kernel)⟩)⟩, fun _ h => absurd h List.not_mem_nil⟩
set_option maxRecDepth 100000 in
theorem mt_MV_r9 : mt_Pmv (((1, 95), (2, [(6, 27)]))) := List.forall_mem_cons.mpr ⟨⟨⟨by decide, by decide +kernel⟩, mt_in 347 (by decide +kernel) rfl, by decide +kernel, ("HealBench$Reader", mt_F6, 3), rfl, Or.inr (Or.inl ⟨"HealBench", mt_nin 518 (by decide +kernel) rfl, mt_inS (q := (⟨"HealBench$Reader", "need", "(C)V"⟩, 3)) 14 (by decide +kernel)⟩)⟩, fun _ h => absurd h List.not_mem_nil⟩
set_option maxRecDepth 100000 in
theorem mt_MV_r10 : mt_Pmv (((1, 99), (2, [(6, 31)]))) := List.forall_mem_cons.mpr ⟨⟨⟨by decide, by decide +kernel⟩, mt_in 372 (by decide +kernel) rfl, by decide +kernel, ("HealBench$Reader", mt_F6, 3), rfl, Or.inr (Or.inl ⟨"HealBench", mt_nin 519 (by decide +kernel) rfl, mt_inS (q := (⟨"HealBench$Reader", "readSum", "(Z)LHealBench$Sum;"⟩, 3)) 17 (by decide +kernel)⟩)⟩, fun _ h => absurd h List.not_mem_nil⟩
set_option maxRecDepth 100000 in
theorem mt_MV_r11 : mt_Pmv (((1, 103), (1, [(6, 36)]))) := List.forall_mem_cons.mpr ⟨⟨⟨by decide, by decide +kernel⟩, mt_in 522 (by decide +kernel) rfl, by decide +kernel, ("HealBench$Reader", mt_F6, 3), rfl, Or.inr (Or.inl ⟨"HealBench", mt_nin 520 (by decide +kernel) rfl, mt_inS (q := (⟨"HealBench$Reader", "needEnd", "()V"⟩, 3)) 19 (by decide +kernel)⟩)⟩, fun _ h => absurd h List.not_mem_nil⟩
set_option maxRecDepth 100000 in
theorem mt_MV_r12 : mt_Pmv (((1, 109), (3, [(7, 37)]))) := List.forall_mem_cons.mpr ⟨⟨⟨by decide, by decide +kernel⟩, mt_in 526 (by decide +kernel) rfl, by decide +kernel, ("HealBench$Rules", mt_F7, 5), rfl, Or.inr (Or.inl ⟨"HealBench", mt_nin 524 (by decide +kernel) rfl, mt_inS (q := (⟨"HealBench$Rules", "add", "(LHealBench$Test;LHealBench$Sum;)V"⟩, 5)) 20 (by decide +kernel)⟩)⟩, fun _ h => absurd h List.not_mem_nil⟩
set_option maxRecDepth 100000 in
theorem mt_MV_r13 : mt_Pmv (((1, 113), (1, [(7, 39)]))) := List.forall_mem_cons.mpr ⟨⟨⟨by decide, by decide +kernel⟩, mt_in 534 (by decide +kernel) rfl, by decide +kernel, ("HealBench$Rules", mt_F7, 5), rfl, Or.inr (Or.inl ⟨"HealBench", mt_nin 532 (by decide +kernel) rfl, mt_inS (q := (⟨"HealBench$Rules", "removeLast", "()V"⟩, 5)) 21 (by decide +kernel)⟩)⟩, fun _ h => absurd h List.not_mem_nil⟩
set_option maxRecDepth 100000 in
theorem mt_MV_r14 : mt_Pmv (((1, 116), (3, [(7, 9)]))) := List.forall_mem_cons.mpr ⟨⟨⟨by decide, by decide +kernel⟩, mt_in 253 (by decide +kernel) rfl, by decide +kernel, ("HealBench$Rules", mt_F7, 5), rfl, Or.inr (Or.inl ⟨"HealBench", mt_nin 540 (by decide +kernel) rfl, mt_inS (q := (⟨"HealBench$Rules", "aimAt", "(ILHealBench$Test;)V"⟩, 5)) 2 (by decide +kernel)⟩)⟩, fun _ h => absurd h List.not_mem_nil⟩
set_option maxRecDepth 100000 in
theorem mt_MV_r15 : mt_Pmv (((1, 120), (1, [(8, 41)]))) := List.forall_mem_cons.mpr ⟨⟨⟨by decide, by decide +kernel⟩, mt_in 543 (by decide +kernel) rfl, by decide +kernel, ("HealBench$Search", mt_F8, 18), rfl, Or.inr (Or.inl ⟨"HealBench", mt_nin 541 (by decide +kernel) rfl, mt_inS (q := (⟨"HealBench$Search", "forgetVerdict", "()V"⟩, 18)) 22 (by decide +kernel)⟩)⟩, fun _ h => absurd h List.not_mem_nil⟩
set_option maxRecDepth 100000 in
theorem mt_MV_r16 : mt_Pmv (((1, 129), (3, [(2, 44)]))) := List.forall_mem_cons.mpr ⟨⟨⟨by decide, by decide +kernel⟩, mt_in 555 (by decide +kernel) rfl, by decide +kernel, ("HealBench$Graph", mt_F2, 6), rfl, Or.inr (Or.inl ⟨"HealBench", mt_nin 553 (by decide +kernel) rfl, mt_inS (q := (⟨"HealBench$Graph", "digit", "(II)I"⟩, 6)) 23 (by decide +kernel)⟩)⟩, fun _ h => absurd h List.not_mem_nil⟩
set_option maxRecDepth 100000 in
theorem mt_MV_r17 : mt_Pmv (((1, 137), (2, [(10, 47)]))) := List.forall_mem_cons.mpr ⟨⟨⟨by decide, by decide +kernel⟩, mt_in 567 (by decide +kernel) rfl, by decide +kernel, ("HealBench$View", mt_F10, 6), rfl, Or.inr (Or.inl ⟨"HealBench", mt_nin 565 (by decide +kernel) rfl, mt_inS (q := (⟨"HealBench$View", "load", "(I)V"⟩, 6)) 24 (by decide +kernel)⟩)⟩, fun _ h => absurd h List.not_mem_nil⟩
set_option maxRecDepth 100000 in
theorem mt_MV_r18 : mt_Pmv (((1, 141), (2, [(10, 48)]))) := List.forall_mem_cons.mpr ⟨⟨⟨by decide, by decide +kernel⟩, mt_in 572 (by decide +kernel) rfl, by decide +kernel, ("HealBench$View", mt_F10, 6), rfl, Or.inr (Or.inl ⟨"HealBench", mt_nin 570 (by decide +kernel) rfl, mt_inS (q := (⟨"HealBench$View", "standAt", "(I)V"⟩, 6)) 25 (by decide +kernel)⟩)⟩, fun _ h => absurd h List.not_mem_nil⟩
set_option maxRecDepth 100000 in
theorem mt_MV_r19 : mt_Pmv (((1, 144), (2, [(7, 49)]))) := List.forall_mem_cons.mpr ⟨⟨⟨by decide, by decide +kernel⟩, mt_in 585 (by decide +kernel) rfl, by decide +kernel, ("HealBench$Rules", mt_F7, 5), rfl, Or.inr (Or.inl ⟨"HealBench", mt_nin 583 (by decide +kernel) rfl, mt_inS (q := (⟨"HealBench$Rules", "first", "(LHealBench$View;)I"⟩, 5)) 26 (by decide +kernel)⟩)⟩, fun _ h => absurd h List.not_mem_nil⟩
set_option maxRecDepth 100000 in
theorem mt_MV_r20 : mt_Pmv (((1, 148), (1, [(0, 57)]))) := List.forall_mem_cons.mpr ⟨⟨⟨by decide, by decide +kernel⟩, mt_in 623 (by decide +kernel) rfl, by decide +kernel, ("HealBench", mt_F0, 9), rfl, Or.inl ⟨mt_in 621 (by decide +kernel) rfl, mt_inS (q := (⟨"HealBench", "lookAround", "()V"⟩, 9)) 29 (by decide +kernel)⟩⟩, fun _ h => absurd h List.not_mem_nil⟩
set_option maxRecDepth 100000 in
theorem mt_MV_r21 : mt_Pmv (((1, 154), (3, [(8, 59)]))) := List.forall_mem_cons.mpr ⟨⟨⟨by decide, by decide +kernel⟩, mt_in 635 (by decide +kernel) rfl, by decide +kernel, ("HealBench$Search", mt_F8, 18), rfl, Or.inr (Or.inl ⟨"HealBench", mt_nin 633 (by decide +kernel) rfl, mt_inS (q := (⟨"HealBench$Search", "allows", "(II)Z"⟩, 18)) 31 (by decide +kernel)⟩)⟩, fun _ h => absurd h List.not_mem_nil⟩
set_option maxRecDepth 100000 in
theorem mt_MV_r22 : mt_Pmv (((1, 169), (2, [(7, 61)]))) := List.forall_mem_cons.mpr ⟨⟨⟨by decide, by decide +kernel⟩, mt_in 644 (by decide +kernel) rfl, by decide +kernel, ("HealBench$Rules", mt_F7, 5), rfl, Or.inr (Or.inl ⟨"HealBench", mt_nin 642 (by decide +kernel) rfl, mt_inS (q := (⟨"HealBench$Rules", "meetAim", "(LHealBench$View;)Z"⟩, 5)) 32 (by decide +kernel)⟩)⟩, fun _ h => absurd h List.not_mem_nil⟩
set_option maxRecDepth 100000 in
theorem mt_MV_r23 : mt_Pmv (((1, 173), (1, [(8, 65)]))) := List.forall_mem_cons.mpr ⟨⟨⟨by decide, by decide +kernel⟩, mt_in 661 (by decide +kernel) rfl, by decide +kernel, ("HealBench$Search", mt_F8, 18), rfl, Or.inr (Or.inl ⟨"HealBench", mt_nin 659 (by decide +kernel) rfl, mt_inS (q := (⟨"HealBench$Search", "judge", "()V"⟩, 18)) 33 (by decide +kernel)⟩)⟩, fun _ h => absurd h List.not_mem_nil⟩
def mt_MV_0 : List ((Nat × Nat) × (Nat × List (Nat × Nat))) := [((1, 45), (3, [(2, 3)])), ((1, 49), (1, [(7, 8)])), ((1, 52), (1, [(8, 10)])), ((1, 59), (1, [(0, 11)])), ((1, 65), (2, [(2, 13)])), ((1, 69), (3, [(2, 14)])), ((1, 73), (3, [(2, 15)])), ((1, 82), (1, [(0, 18)])), ((1, 89), (3, [(6, 20)])), ((1, 95), (2, [(6, 27)])), ((1, 99), (2, [(6, 31)])), ((1, 103), (1, [(6, 36)])), ((1, 109), (3, [(7, 37)])), ((1, 113), (1, [(7, 39)])), ((1, 116), (3, [(7, 9)])), ((1, 120), (1, [(8, 41)])), ((1, 129), (3, [(2, 44)])), ((1, 137), (2, [(10, 47)])), ((1, 141), (2, [(10, 48)])), ((1, 144), (2, [(7, 49)])), ((1, 148), (1, [(0, 57)])), ((1, 154), (3, [(8, 59)])), ((1, 169), (2, [(7, 61)])), ((1, 173), (1, [(8, 65)]))]
theorem mt_MV_a0 : ∀ e ∈ mt_MV_0, mt_Pmv e := List.forall_mem_cons.mpr ⟨mt_MV_r0, List.forall_mem_cons.mpr ⟨mt_MV_r1, List.forall_mem_cons.mpr ⟨mt_MV_r2, List.forall_mem_cons.mpr ⟨mt_MV_r3, List.forall_mem_cons.mpr ⟨mt_MV_r4, List.forall_mem_cons.mpr ⟨mt_MV_r5, List.forall_mem_cons.mpr ⟨mt_MV_r6, List.forall_mem_cons.mpr ⟨mt_MV_r7, List.forall_mem_cons.mpr ⟨mt_MV_r8, List.forall_mem_cons.mpr ⟨mt_MV_r9, List.forall_mem_cons.mpr ⟨mt_MV_r10, List.forall_mem_cons.mpr ⟨mt_MV_r11, List.forall_mem_cons.mpr ⟨mt_MV_r12, List.forall_mem_cons.mpr ⟨mt_MV_r13, List.forall_mem_cons.mpr ⟨mt_MV_r14, List.forall_mem_cons.mpr ⟨mt_MV_r15, List.forall_mem_cons.mpr ⟨mt_MV_r16, List.forall_mem_cons.mpr ⟨mt_MV_r17, List.forall_mem_cons.mpr ⟨mt_MV_r18, List.forall_mem_cons.mpr ⟨mt_MV_r19, List.forall_mem_cons.mpr ⟨mt_MV_r20, List.forall_mem_cons.mpr ⟨mt_MV_r21, List.forall_mem_cons.mpr ⟨mt_MV_r22, List.forall_mem_cons.mpr ⟨mt_MV_r23, fun _ h => absurd h List.not_mem_nil⟩⟩⟩⟩⟩⟩⟩⟩⟩⟩⟩⟩⟩⟩⟩⟩⟩⟩⟩⟩⟩⟩⟩⟩
set_option maxRecDepth 100000 in
theorem mt_MV_r24 : mt_Pmv (((1, 203), (2, [(7, 58)]))) := List.forall_mem_cons.mpr ⟨⟨⟨by decide, by decide +kernel⟩, mt_in 627 (by decide +kernel) rfl, by decide +kernel, ("HealBench$Rules", mt_F7, 5), rfl, Or.inr (Or.inl ⟨"HealBench", mt_nin 625 (by decide +kernel) rfl, mt_inS (q := (⟨"HealBench$Rules", "findMoves", "(LHealBench$View;)V"⟩, 5)) 30 (by decide +kernel)⟩)⟩, fun _ h => absurd h List.not_mem_nil⟩
set_option maxRecDepth 100000 in
theorem mt_MV_r25 : mt_Pmv (((2, 20), (2, [(9, 51)]))) := List.forall_mem_cons.mpr ⟨⟨⟨by decide, by decide +kernel⟩, mt_in 595 (by decide +kernel) rfl, by decide +kernel, ("HealBench$Sum", mt_F9, 4), rfl, Or.inr (Or.inl ⟨"HealBench", mt_nin 593 (by decide +kernel) rfl, mt_inS (q := (⟨"HealBench$Sum", "total", "(LHealBench$View;)I"⟩, 4)) 27 (by decide +kernel)⟩)⟩, fun _ h => absurd h List.not_mem_nil⟩
set_option maxRecDepth 100000 in
theorem mt_MV_r26 : mt_Pmv (((3, 18), (3, [(2, 3)]))) := List.forall_mem_cons.mpr ⟨⟨⟨by decide, by decide +kernel⟩, mt_in 39 (by decide +kernel) rfl, by decide +kernel, ("HealBench$Graph", mt_F2, 6), rfl, Or.inl ⟨mt_in 37 (by decide +kernel) rfl, mt_inS (q := (⟨"HealBench$Graph", "renew", "(II)V"⟩, 6)) 0 (by decide +kernel)⟩⟩, fun _ h => absurd h List.not_mem_nil⟩
set_option maxRecDepth 100000 in
theorem mt_MV_r27 : mt_Pmv (((4, 32), (3, [(2, 14)]))) := List.forall_mem_cons.mpr ⟨⟨⟨by decide, by decide +kernel⟩, mt_in 273 (by decide +kernel) rfl, by decide +kernel, ("HealBench$Graph", mt_F2, 6), rfl, Or.inr (Or.inl ⟨"HealBench", mt_nin 603 (by decide +kernel) rfl, mt_inS (q := (⟨"HealBench$Graph", "linked", "(II)Z"⟩, 6)) 6 (by decide +kernel)⟩)⟩, fun _ h => absurd h List.not_mem_nil⟩
set_option maxRecDepth 100000 in
theorem mt_MV_r28 : mt_Pmv (((4, 36), (2, [(10, 53)]))) := List.forall_mem_cons.mpr ⟨⟨⟨by decide, by decide +kernel⟩, mt_in 606 (by decide +kernel) rfl, by decide +kernel, ("HealBench$View", mt_F10, 6), rfl, Or.inr (Or.inl ⟨"HealBench", mt_nin 604 (by decide +kernel) rfl, mt_inS (q := (⟨"HealBench$View", "lookAt", "(I)V"⟩, 6)) 28 (by decide +kernel)⟩)⟩, fun _ h => absurd h List.not_mem_nil⟩
set_option maxRecDepth 100000 in
theorem mt_MV_r29 : mt_Pmv (((4, 40), (2, [(1, 50), (3, 52), (4, 54), (5, 55)]))) := List.forall_mem_cons.mpr ⟨⟨⟨by decide, by decide +kernel⟩, mt_in 591 (by decide +kernel) rfl, by decide +kernel, ("HealBench$Comparison", mt_F1, 3), rfl, Or.inr (Or.inr ⟨⟨"HealBench$Test", "holds", "(LHealBench$View;)Z"⟩, "HealBench$Test", mt_in 608 (by decide +kernel) rfl, mt_in 589 (by decide +kernel) rfl, mt_in 590 (by decide +kernel) rfl, mt_nin 588 (by decide +kernel) rfl, by decide +kernel, by decide +kernel, rfl⟩)⟩, List.forall_mem_cons.mpr ⟨⟨⟨by decide, by decide +kernel⟩, mt_in 601 (by decide +kernel) rfl, by decide +kernel, ("HealBench$Neighbours", mt_F3, 2), rfl, Or.inr (Or.inr ⟨⟨"HealBench$Test", "holds", "(LHealBench$View;)Z"⟩, "HealBench$Test", mt_in 608 (by decide +kernel) rfl, mt_in 589 (by decide +kernel) rfl, mt_in 600 (by decide +kernel) rfl, mt_nin 588 (by decide +kernel) rfl, by decide +kernel, by decide +kernel, rfl⟩)⟩, List.forall_mem_cons.mpr ⟨⟨⟨by decide, by decide +kernel⟩, mt_in 609 (by decide +kernel) rfl, by decide +kernel, ("HealBench$Not", mt_F4, 1), rfl, Or.inr (Or.inr ⟨⟨"HealBench$Test", "holds", "(LHealBench$View;)Z"⟩, "HealBench$Test", mt_in 608 (by decide +kernel) rfl, mt_in 589 (by decide +kernel) rfl, mt_in 615 (by decide +kernel) rfl, mt_nin 588 (by decide +kernel) rfl, by decide +kernel, by decide +kernel, rfl⟩)⟩, List.forall_mem_cons.mpr ⟨⟨⟨by decide, by decide +kernel⟩, mt_in 612 (by decide +kernel) rfl, by decide +kernel, ("HealBench$Pair", mt_F5, 3), rfl, Or.inr (Or.inr ⟨⟨"HealBench$Test", "holds", "(LHealBench$View;)Z"⟩, "HealBench$Test", mt_in 608 (by decide +kernel) rfl, mt_in 589 (by decide +kernel) rfl, mt_in 616 (by decide +kernel) rfl, mt_nin 588 (by decide +kernel) rfl, by decide +kernel, by decide +kernel, rfl⟩)⟩, fun _ h => absurd h List.not_mem_nil⟩⟩⟩⟩
set_option maxRecDepth 100000 in
theorem mt_MV_r30 : mt_Pmv (((5, 13), (2, [(1, 50), (3, 52), (4, 54), (5, 55)]))) := List.forall_mem_cons.mpr ⟨⟨⟨by decide, by decide +kernel⟩, mt_in 591 (by decide +kernel) rfl, by decide +kernel, ("HealBench$Comparison", mt_F1, 3), rfl, Or.inr (Or.inr ⟨⟨"HealBench$Test", "holds", "(LHealBench$View;)Z"⟩, "HealBench$Test", mt_in 611 (by decide +kernel) rfl, mt_in 589 (by decide +kernel) rfl, mt_in 590 (by decide +kernel) rfl, mt_nin 588 (by decide +kernel) rfl, by decide +kernel, by decide +kernel, rfl⟩)⟩, List.forall_mem_cons.mpr ⟨⟨⟨by decide, by decide +kernel⟩, mt_in 601 (by decide +kernel) rfl, by decide +kernel, ("HealBench$Neighbours", mt_F3, 2), rfl, Or.inr (Or.inr ⟨⟨"HealBench$Test", "holds", "(LHealBench$View;)Z"⟩, "HealBench$Test", mt_in 611 (by decide +kernel) rfl, mt_in 589 (by decide +kernel) rfl, mt_in 600 (by decide +kernel) rfl, mt_nin 588 (by decide +kernel) rfl, by decide +kernel, by decide +kernel, rfl⟩)⟩, List.forall_mem_cons.mpr ⟨⟨⟨by decide, by decide +kernel⟩, mt_in 609 (by decide +kernel) rfl, by decide +kernel, ("HealBench$Not", mt_F4, 1), rfl, Or.inr (Or.inr ⟨⟨"HealBench$Test", "holds", "(LHealBench$View;)Z"⟩, "HealBench$Test", mt_in 611 (by decide +kernel) rfl, mt_in 589 (by decide +kernel) rfl, mt_in 615 (by decide +kernel) rfl, mt_nin 588 (by decide +kernel) rfl, by decide +kernel, by decide +kernel, rfl⟩)⟩, List.forall_mem_cons.mpr ⟨⟨⟨by decide, by decide +kernel⟩, mt_in 612 (by decide +kernel) rfl, by decide +kernel, ("HealBench$Pair", mt_F5, 3), rfl, Or.inr (Or.inr ⟨⟨"HealBench$Test", "holds", "(LHealBench$View;)Z"⟩, "HealBench$Test", mt_in 611 (by decide +kernel) rfl, mt_in 589 (by decide +kernel) rfl, mt_in 616 (by decide +kernel) rfl, mt_nin 588 (by decide +kernel) rfl, by decide +kernel, by decide +kernel, rfl⟩)⟩, fun _ h => absurd h List.not_mem_nil⟩⟩⟩⟩
set_option maxRecDepth 100000 in
theorem mt_MV_r31 : mt_Pmv (((6, 20), (2, [(1, 50), (3, 52), (4, 54), (5, 55)]))) := List.forall_mem_cons.mpr ⟨⟨⟨by decide, by decide +kernel⟩, mt_in 591 (by decide +kernel) rfl, by decide +kernel, ("HealBench$Comparison", mt_F1, 3), rfl, Or.inr (Or.inr ⟨⟨"HealBench$Test", "holds", "(LHealBench$View;)Z"⟩, "HealBench$Test", mt_in 614 (by decide +kernel) rfl, mt_in 589 (by decide +kernel) rfl, mt_in 590 (by decide +kernel) rfl, mt_nin 588 (by decide +kernel) rfl, by decide +kernel, by decide +kernel, rfl⟩)⟩, List.forall_mem_cons.mpr ⟨⟨⟨by decide, by decide +kernel⟩, mt_in 601 (by decide +kernel) rfl, by decide +kernel, ("HealBench$Neighbours", mt_F3, 2), rfl, Or.inr (Or.inr ⟨⟨"HealBench$Test", "holds", "(LHealBench$View;)Z"⟩, "HealBench$Test", mt_in 614 (by decide +kernel) rfl, mt_in 589 (by decide +kernel) rfl, mt_in 600 (by decide +kernel) rfl, mt_nin 588 (by decide +kernel) rfl, by decide +kernel, by decide +kernel, rfl⟩)⟩, List.forall_mem_cons.mpr ⟨⟨⟨by decide, by decide +kernel⟩, mt_in 609 (by decide +kernel) rfl, by decide +kernel, ("HealBench$Not", mt_F4, 1), rfl, Or.inr (Or.inr ⟨⟨"HealBench$Test", "holds", "(LHealBench$View;)Z"⟩, "HealBench$Test", mt_in 614 (by decide +kernel) rfl, mt_in 589 (by decide +kernel) rfl, mt_in 615 (by decide +kernel) rfl, mt_nin 588 (by decide +kernel) rfl, by decide +kernel, by decide +kernel, rfl⟩)⟩, List.forall_mem_cons.mpr ⟨⟨⟨by decide, by decide +kernel⟩, mt_in 612 (by decide +kernel) rfl, by decide +kernel, ("HealBench$Pair", mt_F5, 3), rfl, Or.inr (Or.inr ⟨⟨"HealBench$Test", "holds", "(LHealBench$View;)Z"⟩, "HealBench$Test", mt_in 614 (by decide +kernel) rfl, mt_in 589 (by decide +kernel) rfl, mt_in 616 (by decide +kernel) rfl, mt_nin 588 (by decide +kernel) rfl, by decide +kernel, by decide +kernel, rfl⟩)⟩, fun _ h => absurd h List.not_mem_nil⟩⟩⟩⟩
set_option maxRecDepth 100000 in
theorem mt_MV_r32 : mt_Pmv (((7, 22), (1, [(6, 24)]))) := List.forall_mem_cons.mpr ⟨⟨⟨by decide, by decide +kernel⟩, mt_in 329 (by decide +kernel) rfl, by decide +kernel, ("HealBench$Reader", mt_F6, 3), rfl, Or.inl ⟨mt_in 327 (by decide +kernel) rfl, mt_inS (q := (⟨"HealBench$Reader", "next", "()C"⟩, 3)) 13 (by decide +kernel)⟩⟩, fun _ h => absurd h List.not_mem_nil⟩
set_option maxRecDepth 100000 in
theorem mt_MV_r33 : mt_Pmv (((7, 26), (2, [(6, 23)]))) := List.forall_mem_cons.mpr ⟨⟨⟨by decide, by decide +kernel⟩, mt_in 325 (by decide +kernel) rfl, by decide +kernel, ("HealBench$Reader", mt_F6, 3), rfl, Or.inl ⟨mt_in 323 (by decide +kernel) rfl, mt_inS (q := (⟨"HealBench$Reader", "take", "(C)Z"⟩, 3)) 12 (by decide +kernel)⟩⟩, fun _ h => absurd h List.not_mem_nil⟩
set_option maxRecDepth 100000 in
theorem mt_MV_r34 : mt_Pmv (((7, 30), (1, [(6, 28)]))) := List.forall_mem_cons.mpr ⟨⟨⟨by decide, by decide +kernel⟩, mt_in 351 (by decide +kernel) rfl, by decide +kernel, ("HealBench$Reader", mt_F6, 3), rfl, Or.inl ⟨mt_in 349 (by decide +kernel) rfl, mt_inS (q := (⟨"HealBench$Reader", "refuse", "()V"⟩, 3)) 15 (by decide +kernel)⟩⟩, fun _ h => absurd h List.not_mem_nil⟩
set_option maxRecDepth 100000 in
theorem mt_MV_r35 : mt_Pmv (((7, 33), (3, [(6, 21)]))) := List.forall_mem_cons.mpr ⟨⟨⟨by decide, by decide +kernel⟩, mt_in 317 (by decide +kernel) rfl, by decide +kernel, ("HealBench$Reader", mt_F6, 3), rfl, Or.inl ⟨mt_in 315 (by decide +kernel) rfl, mt_inS (q := (⟨"HealBench$Reader", "readBoth", "(IZ)LHealBench$Test;"⟩, 3)) 10 (by decide +kernel)⟩⟩, fun _ h => absurd h List.not_mem_nil⟩
set_option maxRecDepth 100000 in
theorem mt_MV_r36 : mt_Pmv (((7, 42), (3, [(6, 22)]))) := List.forall_mem_cons.mpr ⟨⟨⟨by decide, by decide +kernel⟩, mt_in 321 (by decide +kernel) rfl, by decide +kernel, ("HealBench$Reader", mt_F6, 3), rfl, Or.inl ⟨mt_in 319 (by decide +kernel) rfl, mt_inS (q := (⟨"HealBench$Reader", "readTest", "(IZ)LHealBench$Test;"⟩, 3)) 11 (by decide +kernel)⟩⟩, fun _ h => absurd h List.not_mem_nil⟩
set_option maxRecDepth 100000 in
theorem mt_MV_r37 : mt_Pmv (((7, 50), (3, [(6, 20)]))) := List.forall_mem_cons.mpr ⟨⟨⟨by decide, by decide +kernel⟩, mt_in 313 (by decide +kernel) rfl, by decide +kernel, ("HealBench$Reader", mt_F6, 3), rfl, Or.inl ⟨mt_in 344 (by decide +kernel) rfl, mt_inS (q := (⟨"HealBench$Reader", "readGuard", "(IZ)LHealBench$Test;"⟩, 3)) 9 (by decide +kernel)⟩⟩, fun _ h => absurd h List.not_mem_nil⟩
set_option maxRecDepth 100000 in
theorem mt_MV_r38 : mt_Pmv (((7, 53), (2, [(6, 27)]))) := List.forall_mem_cons.mpr ⟨⟨⟨by decide, by decide +kernel⟩, mt_in 347 (by decide +kernel) rfl, by decide +kernel, ("HealBench$Reader", mt_F6, 3), rfl, Or.inl ⟨mt_in 345 (by decide +kernel) rfl, mt_inS (q := (⟨"HealBench$Reader", "need", "(C)V"⟩, 3)) 14 (by decide +kernel)⟩⟩, fun _ h => absurd h List.not_mem_nil⟩
set_option maxRecDepth 100000 in
theorem mt_MV_r39 : mt_Pmv (((7, 62), (2, [(6, 30)]))) := List.forall_mem_cons.mpr ⟨⟨⟨by decide, by decide +kernel⟩, mt_in 368 (by decide +kernel) rfl, by decide +kernel, ("HealBench$Reader", mt_F6, 3), rfl, Or.inl ⟨mt_in 366 (by decide +kernel) rfl, mt_inS (q := (⟨"HealBench$Reader", "readComparison", "(Z)LHealBench$Test;"⟩, 3)) 16 (by decide +kernel)⟩⟩, fun _ h => absurd h List.not_mem_nil⟩
set_option maxRecDepth 100000 in
theorem mt_MV_r40 : mt_Pmv (((7, 66), (2, [(6, 31)]))) := List.forall_mem_cons.mpr ⟨⟨⟨by decide, by decide +kernel⟩, mt_in 372 (by decide +kernel) rfl, by decide +kernel, ("HealBench$Reader", mt_F6, 3), rfl, Or.inl ⟨mt_in 370 (by decide +kernel) rfl, mt_inS (q := (⟨"HealBench$Reader", "readSum", "(Z)LHealBench$Sum;"⟩, 3)) 17 (by decide +kernel)⟩⟩, fun _ h => absurd h List.not_mem_nil⟩
set_option maxRecDepth 100000 in
theorem mt_MV_r41 : mt_Pmv (((7, 75), (2, [(6, 32)]))) := List.forall_mem_cons.mpr ⟨⟨⟨by decide, by decide +kernel⟩, mt_in 376 (by decide +kernel) rfl, by decide +kernel, ("HealBench$Reader", mt_F6, 3), rfl, Or.inl ⟨mt_in 374 (by decide +kernel) rfl, mt_inS (q := (⟨"HealBench$Reader", "readPart", "(Z)V"⟩, 3)) 18 (by decide +kernel)⟩⟩, fun _ h => absurd h List.not_mem_nil⟩
set_option maxRecDepth 100000 in
theorem mt_MV_r42 : mt_Pmv (((8, 30), (3, [(7, 9)]))) := List.forall_mem_cons.mpr ⟨⟨⟨by decide, by decide +kernel⟩, mt_in 253 (by decide +kernel) rfl, by decide +kernel, ("HealBench$Rules", mt_F7, 5), rfl, Or.inl ⟨mt_in 251 (by decide +kernel) rfl, mt_inS (q := (⟨"HealBench$Rules", "aimAt", "(ILHealBench$Test;)V"⟩, 5)) 2 (by decide +kernel)⟩⟩, fun _ h => absurd h List.not_mem_nil⟩
set_option maxRecDepth 100000 in
theorem mt_MV_r43 : mt_Pmv (((8, 38), (2, [(1, 50), (3, 52), (4, 54), (5, 55)]))) := List.forall_mem_cons.mpr ⟨⟨⟨by decide, by decide +kernel⟩, mt_in 591 (by decide +kernel) rfl, by decide +kernel, ("HealBench$Comparison", mt_F1, 3), rfl, Or.inr (Or.inr ⟨⟨"HealBench$Test", "holds", "(LHealBench$View;)Z"⟩, "HealBench$Test", mt_in 587 (by decide +kernel) rfl, mt_in 589 (by decide +kernel) rfl, mt_in 590 (by decide +kernel) rfl, mt_nin 588 (by decide +kernel) rfl, by decide +kernel, by decide +kernel, rfl⟩)⟩, List.forall_mem_cons.mpr ⟨⟨⟨by decide, by decide +kernel⟩, mt_in 601 (by decide +kernel) rfl, by decide +kernel, ("HealBench$Neighbours", mt_F3, 2), rfl, Or.inr (Or.inr ⟨⟨"HealBench$Test", "holds", "(LHealBench$View;)Z"⟩, "HealBench$Test", mt_in 587 (by decide +kernel) rfl, mt_in 589 (by decide +kernel) rfl, mt_in 600 (by decide +kernel) rfl, mt_nin 588 (by decide +kernel) rfl, by decide +kernel, by decide +kernel, rfl⟩)⟩, List.forall_mem_cons.mpr ⟨⟨⟨by decide, by decide +kernel⟩, mt_in 609 (by decide +kernel) rfl, by decide +kernel, ("HealBench$Not", mt_F4, 1), rfl, Or.inr (Or.inr ⟨⟨"HealBench$Test", "holds", "(LHealBench$View;)Z"⟩, "HealBench$Test", mt_in 587 (by decide +kernel) rfl, mt_in 589 (by decide +kernel) rfl, mt_in 615 (by decide +kernel) rfl, mt_nin 588 (by decide +kernel) rfl, by decide +kernel, by decide +kernel, rfl⟩)⟩, List.forall_mem_cons.mpr ⟨⟨⟨by decide, by decide +kernel⟩, mt_in 612 (by decide +kernel) rfl, by decide +kernel, ("HealBench$Pair", mt_F5, 3), rfl, Or.inr (Or.inr ⟨⟨"HealBench$Test", "holds", "(LHealBench$View;)Z"⟩, "HealBench$Test", mt_in 587 (by decide +kernel) rfl, mt_in 589 (by decide +kernel) rfl, mt_in 616 (by decide +kernel) rfl, mt_nin 588 (by decide +kernel) rfl, by decide +kernel, by decide +kernel, rfl⟩)⟩, fun _ h => absurd h List.not_mem_nil⟩⟩⟩⟩
set_option maxRecDepth 100000 in
theorem mt_MV_r44 : mt_Pmv (((8, 56), (2, [(10, 48)]))) := List.forall_mem_cons.mpr ⟨⟨⟨by decide, by decide +kernel⟩, mt_in 572 (by decide +kernel) rfl, by decide +kernel, ("HealBench$View", mt_F10, 6), rfl, Or.inr (Or.inl ⟨"HealBench", mt_nin 629 (by decide +kernel) rfl, mt_inS (q := (⟨"HealBench$View", "standAt", "(I)V"⟩, 6)) 25 (by decide +kernel)⟩)⟩, fun _ h => absurd h List.not_mem_nil⟩
set_option maxRecDepth 100000 in
theorem mt_MV_r45 : mt_Pmv (((8, 60), (2, [(7, 49)]))) := List.forall_mem_cons.mpr ⟨⟨⟨by decide, by decide +kernel⟩, mt_in 585 (by decide +kernel) rfl, by decide +kernel, ("HealBench$Rules", mt_F7, 5), rfl, Or.inl ⟨mt_in 630 (by decide +kernel) rfl, mt_inS (q := (⟨"HealBench$Rules", "first", "(LHealBench$View;)I"⟩, 5)) 26 (by decide +kernel)⟩⟩, fun _ h => absurd h List.not_mem_nil⟩
set_option maxRecDepth 100000 in
theorem mt_MV_r46 : mt_Pmv (((8, 68), (2, [(9, 51)]))) := List.forall_mem_cons.mpr ⟨⟨⟨by decide, by decide +kernel⟩, mt_in 595 (by decide +kernel) rfl, by decide +kernel, ("HealBench$Sum", mt_F9, 4), rfl, Or.inr (Or.inl ⟨"HealBench", mt_nin 631 (by decide +kernel) rfl, mt_inS (q := (⟨"HealBench$Sum", "total", "(LHealBench$View;)I"⟩, 4)) 27 (by decide +kernel)⟩)⟩, fun _ h => absurd h List.not_mem_nil⟩
set_option maxRecDepth 100000 in
theorem mt_MV_r47 : mt_Pmv (((9, 71), (1, [(8, 66)]))) := List.forall_mem_cons.mpr ⟨⟨⟨by decide, by decide +kernel⟩, mt_in 665 (by decide +kernel) rfl, by decide +kernel, ("HealBench$Search", mt_F8, 18), rfl, Or.inl ⟨mt_in 663 (by decide +kernel) rfl, mt_inS (q := (⟨"HealBench$Search", "findAllMoves", "()V"⟩, 18)) 34 (by decide +kernel)⟩⟩, fun _ h => absurd h List.not_mem_nil⟩
def mt_MV_1 : List ((Nat × Nat) × (Nat × List (Nat × Nat))) := [((1, 203), (2, [(7, 58)])), ((2, 20), (2, [(9, 51)])), ((3, 18), (3, [(2, 3)])), ((4, 32), (3, [(2, 14)])), ((4, 36), (2, [(10, 53)])), ((4, 40), (2, [(1, 50), (3, 52), (4, 54), (5, 55)])), ((5, 13), (2, [(1, 50), (3, 52), (4, 54), (5, 55)])), ((6, 20), (2, [(1, 50), (3, 52), (4, 54), (5, 55)])), ((7, 22), (1, [(6, 24)])), ((7, 26), (2, [(6, 23)])), ((7, 30), (1, [(6, 28)])), ((7, 33), (3, [(6, 21)])), ((7, 42), (3, [(6, 22)])), ((7, 50), (3, [(6, 20)])), ((7, 53), (2, [(6, 27)])), ((7, 62), (2, [(6, 30)])), ((7, 66), (2, [(6, 31)])), ((7, 75), (2, [(6, 32)])), ((8, 30), (3, [(7, 9)])), ((8, 38), (2, [(1, 50), (3, 52), (4, 54), (5, 55)])), ((8, 56), (2, [(10, 48)])), ((8, 60), (2, [(7, 49)])), ((8, 68), (2, [(9, 51)])), ((9, 71), (1, [(8, 66)]))]
theorem mt_MV_a1 : ∀ e ∈ mt_MV_1, mt_Pmv e := List.forall_mem_cons.mpr ⟨mt_MV_r24, List.forall_mem_cons.mpr ⟨mt_MV_r25, List.forall_mem_cons.mpr ⟨mt_MV_r26, List.forall_mem_cons.mpr ⟨mt_MV_r27, List.forall_mem_cons.mpr ⟨mt_MV_r28, List.forall_mem_cons.mpr ⟨mt_MV_r29, List.forall_mem_cons.mpr ⟨mt_MV_r30, List.forall_mem_cons.mpr ⟨mt_MV_r31, List.forall_mem_cons.mpr ⟨mt_MV_r32, List.forall_mem_cons.mpr ⟨mt_MV_r33, List.forall_mem_cons.mpr ⟨mt_MV_r34, List.forall_mem_cons.mpr ⟨mt_MV_r35, List.forall_mem_cons.mpr ⟨mt_MV_r36, List.forall_mem_cons.mpr ⟨mt_MV_r37, List.forall_mem_cons.mpr ⟨mt_MV_r38, List.forall_mem_cons.mpr ⟨mt_MV_r39, List.forall_mem_cons.mpr ⟨mt_MV_r40, List.forall_mem_cons.mpr ⟨mt_MV_r41, List.forall_mem_cons.mpr ⟨mt_MV_r42, List.forall_mem_cons.mpr ⟨mt_MV_r43, List.forall_mem_cons.mpr ⟨mt_MV_r44, List.forall_mem_cons.mpr ⟨mt_MV_r45, List.forall_mem_cons.mpr ⟨mt_MV_r46, List.forall_mem_cons.mpr ⟨mt_MV_r47, fun _ h => absurd h List.not_mem_nil⟩⟩⟩⟩⟩⟩⟩⟩⟩⟩⟩⟩⟩⟩⟩⟩⟩⟩⟩⟩⟩⟩⟩⟩
set_option maxRecDepth 100000 in
theorem mt_MV_r48 : mt_Pmv (((9, 74), (1, [(8, 67)]))) := List.forall_mem_cons.mpr ⟨⟨⟨by decide, by decide +kernel⟩, mt_in 672 (by decide +kernel) rfl, by decide +kernel, ("HealBench$Search", mt_F8, 18), rfl, Or.inl ⟨mt_in 670 (by decide +kernel) rfl, mt_inS (q := (⟨"HealBench$Search", "findGoodStates", "()V"⟩, 18)) 35 (by decide +kernel)⟩⟩, fun _ h => absurd h List.not_mem_nil⟩
set_option maxRecDepth 100000 in
theorem mt_MV_r49 : mt_Pmv (((9, 80), (1, [(8, 68)]))) := List.forall_mem_cons.mpr ⟨⟨⟨by decide, by decide +kernel⟩, mt_in 677 (by decide +kernel) rfl, by decide +kernel, ("HealBench$Search", mt_F8, 18), rfl, Or.inl ⟨mt_in 675 (by decide +kernel) rfl, mt_inS (q := (⟨"HealBench$Search", "findVerdict", "()I"⟩, 18)) 36 (by decide +kernel)⟩⟩, fun _ h => absurd h List.not_mem_nil⟩
set_option maxRecDepth 100000 in
theorem mt_MV_r50 : mt_Pmv (((9, 92), (2, [(10, 47)]))) := List.forall_mem_cons.mpr ⟨⟨⟨by decide, by decide +kernel⟩, mt_in 567 (by decide +kernel) rfl, by decide +kernel, ("HealBench$View", mt_F10, 6), rfl, Or.inr (Or.inl ⟨"HealBench", mt_nin 667 (by decide +kernel) rfl, mt_inS (q := (⟨"HealBench$View", "load", "(I)V"⟩, 6)) 24 (by decide +kernel)⟩)⟩, fun _ h => absurd h List.not_mem_nil⟩
set_option maxRecDepth 100000 in
theorem mt_MV_r51 : mt_Pmv (((9, 96), (2, [(7, 58)]))) := List.forall_mem_cons.mpr ⟨⟨⟨by decide, by decide +kernel⟩, mt_in 627 (by decide +kernel) rfl, by decide +kernel, ("HealBench$Rules", mt_F7, 5), rfl, Or.inr (Or.inl ⟨"HealBench", mt_nin 668 (by decide +kernel) rfl, mt_inS (q := (⟨"HealBench$Rules", "findMoves", "(LHealBench$View;)V"⟩, 5)) 30 (by decide +kernel)⟩)⟩, fun _ h => absurd h List.not_mem_nil⟩
set_option maxRecDepth 100000 in
theorem mt_MV_r52 : mt_Pmv (((9, 117), (2, [(7, 61)]))) := List.forall_mem_cons.mpr ⟨⟨⟨by decide, by decide +kernel⟩, mt_in 644 (by decide +kernel) rfl, by decide +kernel, ("HealBench$Rules", mt_F7, 5), rfl, Or.inr (Or.inl ⟨"HealBench", mt_nin 674 (by decide +kernel) rfl, mt_inS (q := (⟨"HealBench$Rules", "meetAim", "(LHealBench$View;)Z"⟩, 5)) 32 (by decide +kernel)⟩)⟩, fun _ h => absurd h List.not_mem_nil⟩
set_option maxRecDepth 100000 in
theorem mt_MV_r53 : mt_Pmv (((9, 121), (1, [(8, 69)]))) := List.forall_mem_cons.mpr ⟨⟨⟨by decide, by decide +kernel⟩, mt_in 681 (by decide +kernel) rfl, by decide +kernel, ("HealBench$Search", mt_F8, 18), rfl, Or.inl ⟨mt_in 679 (by decide +kernel) rfl, mt_inS (q := (⟨"HealBench$Search", "findStepOutOfGood", "()Z"⟩, 18)) 37 (by decide +kernel)⟩⟩, fun _ h => absurd h List.not_mem_nil⟩
set_option maxRecDepth 100000 in
theorem mt_MV_r54 : mt_Pmv (((9, 125), (1, [(8, 72)]))) := List.forall_mem_cons.mpr ⟨⟨⟨by decide, by decide +kernel⟩, mt_in 694 (by decide +kernel) rfl, by decide +kernel, ("HealBench$Search", mt_F8, 18), rfl, Or.inl ⟨mt_in 692 (by decide +kernel) rfl, mt_inS (q := (⟨"HealBench$Search", "findStandstill", "()Z"⟩, 18)) 40 (by decide +kernel)⟩⟩, fun _ h => absurd h List.not_mem_nil⟩
set_option maxRecDepth 100000 in
theorem mt_MV_r55 : mt_Pmv (((9, 128), (1, [(8, 73)]))) := List.forall_mem_cons.mpr ⟨⟨⟨by decide, by decide +kernel⟩, mt_in 698 (by decide +kernel) rfl, by decide +kernel, ("HealBench$Search", mt_F8, 18), rfl, Or.inl ⟨mt_in 696 (by decide +kernel) rfl, mt_inS (q := (⟨"HealBench$Search", "measure", "()V"⟩, 18)) 41 (by decide +kernel)⟩⟩, fun _ h => absurd h List.not_mem_nil⟩
set_option maxRecDepth 100000 in
theorem mt_MV_r56 : mt_Pmv (((9, 131), (1, [(8, 76)]))) := List.forall_mem_cons.mpr ⟨⟨⟨by decide, by decide +kernel⟩, mt_in 713 (by decide +kernel) rfl, by decide +kernel, ("HealBench$Search", mt_F8, 18), rfl, Or.inl ⟨mt_in 711 (by decide +kernel) rfl, mt_inS (q := (⟨"HealBench$Search", "findEndlessRun", "()Z"⟩, 18)) 44 (by decide +kernel)⟩⟩, fun _ h => absurd h List.not_mem_nil⟩
set_option maxRecDepth 100000 in
theorem mt_MV_r57 : mt_Pmv (((9, 134), (3, [(8, 59)]))) := List.forall_mem_cons.mpr ⟨⟨⟨by decide, by decide +kernel⟩, mt_in 635 (by decide +kernel) rfl, by decide +kernel, ("HealBench$Search", mt_F8, 18), rfl, Or.inl ⟨mt_in 683 (by decide +kernel) rfl, mt_inS (q := (⟨"HealBench$Search", "allows", "(II)Z"⟩, 18)) 31 (by decide +kernel)⟩⟩, fun _ h => absurd h List.not_mem_nil⟩
set_option maxRecDepth 100000 in
theorem mt_MV_r58 : mt_Pmv (((9, 138), (3, [(8, 70)]))) := List.forall_mem_cons.mpr ⟨⟨⟨by decide, by decide +kernel⟩, mt_in 686 (by decide +kernel) rfl, by decide +kernel, ("HealBench$Search", mt_F8, 18), rfl, Or.inl ⟨mt_in 684 (by decide +kernel) rfl, mt_inS (q := (⟨"HealBench$Search", "after", "(II)I"⟩, 18)) 38 (by decide +kernel)⟩⟩, fun _ h => absurd h List.not_mem_nil⟩
set_option maxRecDepth 100000 in
theorem mt_MV_r59 : mt_Pmv (((9, 142), (2, [(8, 71)]))) := List.forall_mem_cons.mpr ⟨⟨⟨by decide, by decide +kernel⟩, mt_in 690 (by decide +kernel) rfl, by decide +kernel, ("HealBench$Search", mt_F8, 18), rfl, Or.inl ⟨mt_in 688 (by decide +kernel) rfl, mt_inS (q := (⟨"HealBench$Search", "addToRun", "(I)V"⟩, 18)) 39 (by decide +kernel)⟩⟩, fun _ h => absurd h List.not_mem_nil⟩
set_option maxRecDepth 100000 in
theorem mt_MV_r60 : mt_Pmv (((9, 148), (2, [(8, 74)]))) := List.forall_mem_cons.mpr ⟨⟨⟨by decide, by decide +kernel⟩, mt_in 702 (by decide +kernel) rfl, by decide +kernel, ("HealBench$Search", mt_F8, 18), rfl, Or.inl ⟨mt_in 700 (by decide +kernel) rfl, mt_inS (q := (⟨"HealBench$Search", "measureFrom", "(I)V"⟩, 18)) 42 (by decide +kernel)⟩⟩, fun _ h => absurd h List.not_mem_nil⟩
set_option maxRecDepth 100000 in
theorem mt_MV_r61 : mt_Pmv (((9, 157), (3, [(8, 75)]))) := List.forall_mem_cons.mpr ⟨⟨⟨by decide, by decide +kernel⟩, mt_in 707 (by decide +kernel) rfl, by decide +kernel, ("HealBench$Search", mt_F8, 18), rfl, Or.inl ⟨mt_in 705 (by decide +kernel) rfl, mt_inS (q := (⟨"HealBench$Search", "learn", "(II)V"⟩, 18)) 43 (by decide +kernel)⟩⟩, fun _ h => absurd h List.not_mem_nil⟩
set_option maxRecDepth 100000 in
theorem mt_MV_r62 : mt_Pmv (((9, 162), (2, [(8, 77)]))) := List.forall_mem_cons.mpr ⟨⟨⟨by decide, by decide +kernel⟩, mt_in 717 (by decide +kernel) rfl, by decide +kernel, ("HealBench$Search", mt_F8, 18), rfl, Or.inl ⟨mt_in 715 (by decide +kernel) rfl, mt_inS (q := (⟨"HealBench$Search", "endlessAfter", "(I)I"⟩, 18)) 45 (by decide +kernel)⟩⟩, fun _ h => absurd h List.not_mem_nil⟩
set_option maxRecDepth 100000 in
theorem mt_MV_r63 : mt_Pmv (((12, 31), (3, [(2, 44)]))) := List.forall_mem_cons.mpr ⟨⟨⟨by decide, by decide +kernel⟩, mt_in 555 (by decide +kernel) rfl, by decide +kernel, ("HealBench$Graph", mt_F2, 6), rfl, Or.inr (Or.inl ⟨"HealBench", mt_nin 569 (by decide +kernel) rfl, mt_inS (q := (⟨"HealBench$Graph", "digit", "(II)I"⟩, 6)) 23 (by decide +kernel)⟩)⟩, fun _ h => absurd h List.not_mem_nil⟩
set_option maxRecDepth 100000 in
theorem mt_MV_r64 : mt_Pmv (((12, 50), (3, [(2, 14)]))) := List.forall_mem_cons.mpr ⟨⟨⟨by decide, by decide +kernel⟩, mt_in 273 (by decide +kernel) rfl, by decide +kernel, ("HealBench$Graph", mt_F2, 6), rfl, Or.inr (Or.inl ⟨"HealBench", mt_nin 580 (by decide +kernel) rfl, mt_inS (q := (⟨"HealBench$Graph", "linked", "(II)Z"⟩, 6)) 6 (by decide +kernel)⟩)⟩, fun _ h => absurd h List.not_mem_nil⟩
set_option maxRecDepth 100000 in
theorem mt_MV_r65 : mt_Pmv (((13, 13), (3, [(0, 7)]))) := List.forall_mem_cons.mpr ⟨⟨⟨by decide, by decide +kernel⟩, mt_in 243 (by decide +kernel) rfl, by decide +kernel, ("HealBench", mt_F0, 9), rfl, Or.inl ⟨mt_in 242 (by decide +kernel) rfl, mt_in 244 (by decide +kernel) rfl⟩⟩, fun _ h => absurd h List.not_mem_nil⟩
set_option maxRecDepth 100000 in
theorem mt_MV_r66 : mt_Pmv (((13, 17), (3, [(11, 83)]))) := List.forall_mem_cons.mpr ⟨⟨⟨by decide, by decide +kernel⟩, mt_in 863 (by decide +kernel) rfl, by decide +kernel, ("HealBenchModel", mt_F11, 40), rfl, Or.inl ⟨mt_in 862 (by decide +kernel) rfl, mt_in 864 (by decide +kernel) rfl⟩⟩, fun _ h => absurd h List.not_mem_nil⟩
set_option maxRecDepth 100000 in
theorem mt_MV_r67 : mt_Pmv (((13, 18), (3, [(0, 12)]))) := List.forall_mem_cons.mpr ⟨⟨⟨by decide, by decide +kernel⟩, mt_in 264 (by decide +kernel) rfl, by decide +kernel, ("HealBench", mt_F0, 9), rfl, Or.inl ⟨mt_in 263 (by decide +kernel) rfl, mt_in 265 (by decide +kernel) rfl⟩⟩, fun _ h => absurd h List.not_mem_nil⟩
set_option maxRecDepth 100000 in
theorem mt_MV_r68 : mt_Pmv (((13, 21), (3, [(11, 86)]))) := List.forall_mem_cons.mpr ⟨⟨⟨by decide, by decide +kernel⟩, mt_in 874 (by decide +kernel) rfl, by decide +kernel, ("HealBenchModel", mt_F11, 40), rfl, Or.inl ⟨mt_in 873 (by decide +kernel) rfl, mt_in 875 (by decide +kernel) rfl⟩⟩, fun _ h => absurd h List.not_mem_nil⟩
set_option maxRecDepth 100000 in
theorem mt_MV_r69 : mt_Pmv (((13, 22), (2, [(0, 16)]))) := List.forall_mem_cons.mpr ⟨⟨⟨by decide, by decide +kernel⟩, mt_in 280 (by decide +kernel) rfl, by decide +kernel, ("HealBench", mt_F0, 9), rfl, Or.inl ⟨mt_in 279 (by decide +kernel) rfl, mt_in 281 (by decide +kernel) rfl⟩⟩, fun _ h => absurd h List.not_mem_nil⟩
set_option maxRecDepth 100000 in
theorem mt_MV_r70 : mt_Pmv (((13, 26), (2, [(11, 88)]))) := List.forall_mem_cons.mpr ⟨⟨⟨by decide, by decide +kernel⟩, mt_in 882 (by decide +kernel) rfl, by decide +kernel, ("HealBenchModel", mt_F11, 40), rfl, Or.inl ⟨mt_in 881 (by decide +kernel) rfl, mt_in 883 (by decide +kernel) rfl⟩⟩, fun _ h => absurd h List.not_mem_nil⟩
set_option maxRecDepth 100000 in
theorem mt_MV_r71 : mt_Pmv (((13, 27), (1, [(0, 17)]))) := List.forall_mem_cons.mpr ⟨⟨⟨by decide, by decide +kernel⟩, mt_in 284 (by decide +kernel) rfl, by decide +kernel, ("HealBench", mt_F0, 9), rfl, Or.inl ⟨mt_in 283 (by decide +kernel) rfl, mt_in 285 (by decide +kernel) rfl⟩⟩, fun _ h => absurd h List.not_mem_nil⟩
def mt_MV_2 : List ((Nat × Nat) × (Nat × List (Nat × Nat))) := [((9, 74), (1, [(8, 67)])), ((9, 80), (1, [(8, 68)])), ((9, 92), (2, [(10, 47)])), ((9, 96), (2, [(7, 58)])), ((9, 117), (2, [(7, 61)])), ((9, 121), (1, [(8, 69)])), ((9, 125), (1, [(8, 72)])), ((9, 128), (1, [(8, 73)])), ((9, 131), (1, [(8, 76)])), ((9, 134), (3, [(8, 59)])), ((9, 138), (3, [(8, 70)])), ((9, 142), (2, [(8, 71)])), ((9, 148), (2, [(8, 74)])), ((9, 157), (3, [(8, 75)])), ((9, 162), (2, [(8, 77)])), ((12, 31), (3, [(2, 44)])), ((12, 50), (3, [(2, 14)])), ((13, 13), (3, [(0, 7)])), ((13, 17), (3, [(11, 83)])), ((13, 18), (3, [(0, 12)])), ((13, 21), (3, [(11, 86)])), ((13, 22), (2, [(0, 16)])), ((13, 26), (2, [(11, 88)])), ((13, 27), (1, [(0, 17)]))]
theorem mt_MV_a2 : ∀ e ∈ mt_MV_2, mt_Pmv e := List.forall_mem_cons.mpr ⟨mt_MV_r48, List.forall_mem_cons.mpr ⟨mt_MV_r49, List.forall_mem_cons.mpr ⟨mt_MV_r50, List.forall_mem_cons.mpr ⟨mt_MV_r51, List.forall_mem_cons.mpr ⟨mt_MV_r52, List.forall_mem_cons.mpr ⟨mt_MV_r53, List.forall_mem_cons.mpr ⟨mt_MV_r54, List.forall_mem_cons.mpr ⟨mt_MV_r55, List.forall_mem_cons.mpr ⟨mt_MV_r56, List.forall_mem_cons.mpr ⟨mt_MV_r57, List.forall_mem_cons.mpr ⟨mt_MV_r58, List.forall_mem_cons.mpr ⟨mt_MV_r59, List.forall_mem_cons.mpr ⟨mt_MV_r60, List.forall_mem_cons.mpr ⟨mt_MV_r61, List.forall_mem_cons.mpr ⟨mt_MV_r62, List.forall_mem_cons.mpr ⟨mt_MV_r63, List.forall_mem_cons.mpr ⟨mt_MV_r64, List.forall_mem_cons.mpr ⟨mt_MV_r65, List.forall_mem_cons.mpr ⟨mt_MV_r66, List.forall_mem_cons.mpr ⟨mt_MV_r67, List.forall_mem_cons.mpr ⟨mt_MV_r68, List.forall_mem_cons.mpr ⟨mt_MV_r69, List.forall_mem_cons.mpr ⟨mt_MV_r70, List.forall_mem_cons.mpr ⟨mt_MV_r71, fun _ h => absurd h List.not_mem_nil⟩⟩⟩⟩⟩⟩⟩⟩⟩⟩⟩⟩⟩⟩⟩⟩⟩⟩⟩⟩⟩⟩⟩⟩
set_option maxRecDepth 100000 in
theorem mt_MV_r72 : mt_Pmv (((13, 31), (1, [(11, 89)]))) := List.forall_mem_cons.mpr ⟨⟨⟨by decide, by decide +kernel⟩, mt_in 886 (by decide +kernel) rfl, by decide +kernel, ("HealBenchModel", mt_F11, 40), rfl, Or.inl ⟨mt_in 885 (by decide +kernel) rfl, mt_in 887 (by decide +kernel) rfl⟩⟩, fun _ h => absurd h List.not_mem_nil⟩
set_option maxRecDepth 100000 in
theorem mt_MV_r73 : mt_Pmv (((13, 32), (1, [(0, 38)]))) := List.forall_mem_cons.mpr ⟨⟨⟨by decide, by decide +kernel⟩, mt_in 529 (by decide +kernel) rfl, by decide +kernel, ("HealBench", mt_F0, 9), rfl, Or.inl ⟨mt_in 528 (by decide +kernel) rfl, mt_in 530 (by decide +kernel) rfl⟩⟩, fun _ h => absurd h List.not_mem_nil⟩
set_option maxRecDepth 100000 in
theorem mt_MV_r74 : mt_Pmv (((13, 35), (1, [(11, 101)]))) := List.forall_mem_cons.mpr ⟨⟨⟨by decide, by decide +kernel⟩, mt_in 934 (by decide +kernel) rfl, by decide +kernel, ("HealBenchModel", mt_F11, 40), rfl, Or.inl ⟨mt_in 933 (by decide +kernel) rfl, mt_in 935 (by decide +kernel) rfl⟩⟩, fun _ h => absurd h List.not_mem_nil⟩
set_option maxRecDepth 100000 in
theorem mt_MV_r75 : mt_Pmv (((13, 36), (2, [(0, 40)]))) := List.forall_mem_cons.mpr ⟨⟨⟨by decide, by decide +kernel⟩, mt_in 537 (by decide +kernel) rfl, by decide +kernel, ("HealBench", mt_F0, 9), rfl, Or.inl ⟨mt_in 536 (by decide +kernel) rfl, mt_in 538 (by decide +kernel) rfl⟩⟩, fun _ h => absurd h List.not_mem_nil⟩
set_option maxRecDepth 100000 in
theorem mt_MV_r76 : mt_Pmv (((13, 39), (2, [(11, 102)]))) := List.forall_mem_cons.mpr ⟨⟨⟨by decide, by decide +kernel⟩, mt_in 938 (by decide +kernel) rfl, by decide +kernel, ("HealBenchModel", mt_F11, 40), rfl, Or.inl ⟨mt_in 937 (by decide +kernel) rfl, mt_in 939 (by decide +kernel) rfl⟩⟩, fun _ h => absurd h List.not_mem_nil⟩
set_option maxRecDepth 100000 in
theorem mt_MV_r77 : mt_Pmv (((13, 40), (2, [(0, 42)]))) := List.forall_mem_cons.mpr ⟨⟨⟨by decide, by decide +kernel⟩, mt_in 546 (by decide +kernel) rfl, by decide +kernel, ("HealBench", mt_F0, 9), rfl, Or.inl ⟨mt_in 545 (by decide +kernel) rfl, mt_in 547 (by decide +kernel) rfl⟩⟩, fun _ h => absurd h List.not_mem_nil⟩
set_option maxRecDepth 100000 in
theorem mt_MV_r78 : mt_Pmv (((13, 43), (2, [(11, 103)]))) := List.forall_mem_cons.mpr ⟨⟨⟨by decide, by decide +kernel⟩, mt_in 942 (by decide +kernel) rfl, by decide +kernel, ("HealBenchModel", mt_F11, 40), rfl, Or.inl ⟨mt_in 941 (by decide +kernel) rfl, mt_in 943 (by decide +kernel) rfl⟩⟩, fun _ h => absurd h List.not_mem_nil⟩
set_option maxRecDepth 100000 in
theorem mt_MV_r79 : mt_Pmv (((13, 44), (3, [(0, 43)]))) := List.forall_mem_cons.mpr ⟨⟨⟨by decide, by decide +kernel⟩, mt_in 550 (by decide +kernel) rfl, by decide +kernel, ("HealBench", mt_F0, 9), rfl, Or.inl ⟨mt_in 549 (by decide +kernel) rfl, mt_in 551 (by decide +kernel) rfl⟩⟩, fun _ h => absurd h List.not_mem_nil⟩
set_option maxRecDepth 100000 in
theorem mt_MV_r80 : mt_Pmv (((13, 47), (3, [(11, 131)]))) := List.forall_mem_cons.mpr ⟨⟨⟨by decide, by decide +kernel⟩, mt_in 1052 (by decide +kernel) rfl, by decide +kernel, ("HealBenchModel", mt_F11, 40), rfl, Or.inl ⟨mt_in 1051 (by decide +kernel) rfl, mt_in 1053 (by decide +kernel) rfl⟩⟩, fun _ h => absurd h List.not_mem_nil⟩
set_option maxRecDepth 100000 in
theorem mt_MV_r81 : mt_Pmv (((13, 48), (2, [(0, 45)]))) := List.forall_mem_cons.mpr ⟨⟨⟨by decide, by decide +kernel⟩, mt_in 558 (by decide +kernel) rfl, by decide +kernel, ("HealBench", mt_F0, 9), rfl, Or.inl ⟨mt_in 557 (by decide +kernel) rfl, mt_in 559 (by decide +kernel) rfl⟩⟩, fun _ h => absurd h List.not_mem_nil⟩
set_option maxRecDepth 100000 in
theorem mt_MV_r82 : mt_Pmv (((13, 51), (2, [(11, 132)]))) := List.forall_mem_cons.mpr ⟨⟨⟨by decide, by decide +kernel⟩, mt_in 1056 (by decide +kernel) rfl, by decide +kernel, ("HealBenchModel", mt_F11, 40), rfl, Or.inl ⟨mt_in 1055 (by decide +kernel) rfl, mt_in 1057 (by decide +kernel) rfl⟩⟩, fun _ h => absurd h List.not_mem_nil⟩
set_option maxRecDepth 100000 in
theorem mt_MV_r83 : mt_Pmv (((13, 52), (2, [(0, 46)]))) := List.forall_mem_cons.mpr ⟨⟨⟨by decide, by decide +kernel⟩, mt_in 562 (by decide +kernel) rfl, by decide +kernel, ("HealBench", mt_F0, 9), rfl, Or.inl ⟨mt_in 561 (by decide +kernel) rfl, mt_in 563 (by decide +kernel) rfl⟩⟩, fun _ h => absurd h List.not_mem_nil⟩
set_option maxRecDepth 100000 in
theorem mt_MV_r84 : mt_Pmv (((13, 55), (2, [(11, 133)]))) := List.forall_mem_cons.mpr ⟨⟨⟨by decide, by decide +kernel⟩, mt_in 1060 (by decide +kernel) rfl, by decide +kernel, ("HealBenchModel", mt_F11, 40), rfl, Or.inl ⟨mt_in 1059 (by decide +kernel) rfl, mt_in 1061 (by decide +kernel) rfl⟩⟩, fun _ h => absurd h List.not_mem_nil⟩
set_option maxRecDepth 100000 in
theorem mt_MV_r85 : mt_Pmv (((13, 56), (2, [(0, 56)]))) := List.forall_mem_cons.mpr ⟨⟨⟨by decide, by decide +kernel⟩, mt_in 618 (by decide +kernel) rfl, by decide +kernel, ("HealBench", mt_F0, 9), rfl, Or.inl ⟨mt_in 617 (by decide +kernel) rfl, mt_in 619 (by decide +kernel) rfl⟩⟩, fun _ h => absurd h List.not_mem_nil⟩
set_option maxRecDepth 100000 in
theorem mt_MV_r86 : mt_Pmv (((13, 59), (2, [(11, 134)]))) := List.forall_mem_cons.mpr ⟨⟨⟨by decide, by decide +kernel⟩, mt_in 1065 (by decide +kernel) rfl, by decide +kernel, ("HealBenchModel", mt_F11, 40), rfl, Or.inl ⟨mt_in 1064 (by decide +kernel) rfl, mt_in 1066 (by decide +kernel) rfl⟩⟩, fun _ h => absurd h List.not_mem_nil⟩
set_option maxRecDepth 100000 in
theorem mt_MV_r87 : mt_Pmv (((13, 60), (1, [(0, 60)]))) := List.forall_mem_cons.mpr ⟨⟨⟨by decide, by decide +kernel⟩, mt_in 639 (by decide +kernel) rfl, by decide +kernel, ("HealBench", mt_F0, 9), rfl, Or.inl ⟨mt_in 638 (by decide +kernel) rfl, mt_in 640 (by decide +kernel) rfl⟩⟩, fun _ h => absurd h List.not_mem_nil⟩
set_option maxRecDepth 100000 in
theorem mt_MV_r88 : mt_Pmv (((13, 64), (1, [(11, 135)]))) := List.forall_mem_cons.mpr ⟨⟨⟨by decide, by decide +kernel⟩, mt_in 1069 (by decide +kernel) rfl, by decide +kernel, ("HealBenchModel", mt_F11, 40), rfl, Or.inl ⟨mt_in 1068 (by decide +kernel) rfl, mt_in 1070 (by decide +kernel) rfl⟩⟩, fun _ h => absurd h List.not_mem_nil⟩
set_option maxRecDepth 100000 in
theorem mt_MV_r89 : mt_Pmv (((13, 65), (1, [(0, 62)]))) := List.forall_mem_cons.mpr ⟨⟨⟨by decide, by decide +kernel⟩, mt_in 648 (by decide +kernel) rfl, by decide +kernel, ("HealBench", mt_F0, 9), rfl, Or.inl ⟨mt_in 647 (by decide +kernel) rfl, mt_in 649 (by decide +kernel) rfl⟩⟩, fun _ h => absurd h List.not_mem_nil⟩
set_option maxRecDepth 100000 in
theorem mt_MV_r90 : mt_Pmv (((13, 68), (1, [(11, 130)]))) := List.forall_mem_cons.mpr ⟨⟨⟨by decide, by decide +kernel⟩, mt_in 1048 (by decide +kernel) rfl, by decide +kernel, ("HealBenchModel", mt_F11, 40), rfl, Or.inl ⟨mt_in 1047 (by decide +kernel) rfl, mt_in 1049 (by decide +kernel) rfl⟩⟩, fun _ h => absurd h List.not_mem_nil⟩
set_option maxRecDepth 100000 in
theorem mt_MV_r91 : mt_Pmv (((13, 69), (2, [(0, 63)]))) := List.forall_mem_cons.mpr ⟨⟨⟨by decide, by decide +kernel⟩, mt_in 652 (by decide +kernel) rfl, by decide +kernel, ("HealBench", mt_F0, 9), rfl, Or.inl ⟨mt_in 651 (by decide +kernel) rfl, mt_in 653 (by decide +kernel) rfl⟩⟩, fun _ h => absurd h List.not_mem_nil⟩
set_option maxRecDepth 100000 in
theorem mt_MV_r92 : mt_Pmv (((13, 72), (2, [(11, 136)]))) := List.forall_mem_cons.mpr ⟨⟨⟨by decide, by decide +kernel⟩, mt_in 1073 (by decide +kernel) rfl, by decide +kernel, ("HealBenchModel", mt_F11, 40), rfl, Or.inl ⟨mt_in 1072 (by decide +kernel) rfl, mt_in 1074 (by decide +kernel) rfl⟩⟩, fun _ h => absurd h List.not_mem_nil⟩
set_option maxRecDepth 100000 in
theorem mt_MV_r93 : mt_Pmv (((13, 73), (1, [(0, 64)]))) := List.forall_mem_cons.mpr ⟨⟨⟨by decide, by decide +kernel⟩, mt_in 656 (by decide +kernel) rfl, by decide +kernel, ("HealBench", mt_F0, 9), rfl, Or.inl ⟨mt_in 655 (by decide +kernel) rfl, mt_in 657 (by decide +kernel) rfl⟩⟩, fun _ h => absurd h List.not_mem_nil⟩
set_option maxRecDepth 100000 in
theorem mt_MV_r94 : mt_Pmv (((13, 76), (1, [(11, 104)]))) := List.forall_mem_cons.mpr ⟨⟨⟨by decide, by decide +kernel⟩, mt_in 946 (by decide +kernel) rfl, by decide +kernel, ("HealBenchModel", mt_F11, 40), rfl, Or.inl ⟨mt_in 945 (by decide +kernel) rfl, mt_in 947 (by decide +kernel) rfl⟩⟩, fun _ h => absurd h List.not_mem_nil⟩
set_option maxRecDepth 100000 in
theorem mt_MV_r95 : mt_Pmv (((13, 77), (1, [(0, 78)]))) := List.forall_mem_cons.mpr ⟨⟨⟨by decide, by decide +kernel⟩, mt_in 720 (by decide +kernel) rfl, by decide +kernel, ("HealBench", mt_F0, 9), rfl, Or.inl ⟨mt_in 719 (by decide +kernel) rfl, mt_in 721 (by decide +kernel) rfl⟩⟩, fun _ h => absurd h List.not_mem_nil⟩
def mt_MV_3 : List ((Nat × Nat) × (Nat × List (Nat × Nat))) := [((13, 31), (1, [(11, 89)])), ((13, 32), (1, [(0, 38)])), ((13, 35), (1, [(11, 101)])), ((13, 36), (2, [(0, 40)])), ((13, 39), (2, [(11, 102)])), ((13, 40), (2, [(0, 42)])), ((13, 43), (2, [(11, 103)])), ((13, 44), (3, [(0, 43)])), ((13, 47), (3, [(11, 131)])), ((13, 48), (2, [(0, 45)])), ((13, 51), (2, [(11, 132)])), ((13, 52), (2, [(0, 46)])), ((13, 55), (2, [(11, 133)])), ((13, 56), (2, [(0, 56)])), ((13, 59), (2, [(11, 134)])), ((13, 60), (1, [(0, 60)])), ((13, 64), (1, [(11, 135)])), ((13, 65), (1, [(0, 62)])), ((13, 68), (1, [(11, 130)])), ((13, 69), (2, [(0, 63)])), ((13, 72), (2, [(11, 136)])), ((13, 73), (1, [(0, 64)])), ((13, 76), (1, [(11, 104)])), ((13, 77), (1, [(0, 78)]))]
theorem mt_MV_a3 : ∀ e ∈ mt_MV_3, mt_Pmv e := List.forall_mem_cons.mpr ⟨mt_MV_r72, List.forall_mem_cons.mpr ⟨mt_MV_r73, List.forall_mem_cons.mpr ⟨mt_MV_r74, List.forall_mem_cons.mpr ⟨mt_MV_r75, List.forall_mem_cons.mpr ⟨mt_MV_r76, List.forall_mem_cons.mpr ⟨mt_MV_r77, List.forall_mem_cons.mpr ⟨mt_MV_r78, List.forall_mem_cons.mpr ⟨mt_MV_r79, List.forall_mem_cons.mpr ⟨mt_MV_r80, List.forall_mem_cons.mpr ⟨mt_MV_r81, List.forall_mem_cons.mpr ⟨mt_MV_r82, List.forall_mem_cons.mpr ⟨mt_MV_r83, List.forall_mem_cons.mpr ⟨mt_MV_r84, List.forall_mem_cons.mpr ⟨mt_MV_r85, List.forall_mem_cons.mpr ⟨mt_MV_r86, List.forall_mem_cons.mpr ⟨mt_MV_r87, List.forall_mem_cons.mpr ⟨mt_MV_r88, List.forall_mem_cons.mpr ⟨mt_MV_r89, List.forall_mem_cons.mpr ⟨mt_MV_r90, List.forall_mem_cons.mpr ⟨mt_MV_r91, List.forall_mem_cons.mpr ⟨mt_MV_r92, List.forall_mem_cons.mpr ⟨mt_MV_r93, List.forall_mem_cons.mpr ⟨mt_MV_r94, List.forall_mem_cons.mpr ⟨mt_MV_r95, fun _ h => absurd h List.not_mem_nil⟩⟩⟩⟩⟩⟩⟩⟩⟩⟩⟩⟩⟩⟩⟩⟩⟩⟩⟩⟩⟩⟩⟩⟩
set_option maxRecDepth 100000 in
theorem mt_MV_r96 : mt_Pmv (((13, 80), (1, [(11, 126)]))) := List.forall_mem_cons.mpr ⟨⟨⟨by decide, by decide +kernel⟩, mt_in 1032 (by decide +kernel) rfl, by decide +kernel, ("HealBenchModel", mt_F11, 40), rfl, Or.inl ⟨mt_in 1031 (by decide +kernel) rfl, mt_in 1033 (by decide +kernel) rfl⟩⟩, fun _ h => absurd h List.not_mem_nil⟩
set_option maxRecDepth 100000 in
theorem mt_MV_r97 : mt_Pmv (((13, 81), (2, [(0, 79)]))) := List.forall_mem_cons.mpr ⟨⟨⟨by decide, by decide +kernel⟩, mt_in 724 (by decide +kernel) rfl, by decide +kernel, ("HealBench", mt_F0, 9), rfl, Or.inl ⟨mt_in 723 (by decide +kernel) rfl, mt_in 725 (by decide +kernel) rfl⟩⟩, fun _ h => absurd h List.not_mem_nil⟩
set_option maxRecDepth 100000 in
theorem mt_MV_r98 : mt_Pmv (((13, 84), (2, [(11, 127)]))) := List.forall_mem_cons.mpr ⟨⟨⟨by decide, by decide +kernel⟩, mt_in 1036 (by decide +kernel) rfl, by decide +kernel, ("HealBenchModel", mt_F11, 40), rfl, Or.inl ⟨mt_in 1035 (by decide +kernel) rfl, mt_in 1037 (by decide +kernel) rfl⟩⟩, fun _ h => absurd h List.not_mem_nil⟩
set_option maxRecDepth 100000 in
theorem mt_MV_r99 : mt_Pmv (((13, 85), (2, [(0, 80)]))) := List.forall_mem_cons.mpr ⟨⟨⟨by decide, by decide +kernel⟩, mt_in 728 (by decide +kernel) rfl, by decide +kernel, ("HealBench", mt_F0, 9), rfl, Or.inl ⟨mt_in 727 (by decide +kernel) rfl, mt_in 729 (by decide +kernel) rfl⟩⟩, fun _ h => absurd h List.not_mem_nil⟩
set_option maxRecDepth 100000 in
theorem mt_MV_r100 : mt_Pmv (((13, 88), (2, [(11, 128)]))) := List.forall_mem_cons.mpr ⟨⟨⟨by decide, by decide +kernel⟩, mt_in 1040 (by decide +kernel) rfl, by decide +kernel, ("HealBenchModel", mt_F11, 40), rfl, Or.inl ⟨mt_in 1039 (by decide +kernel) rfl, mt_in 1041 (by decide +kernel) rfl⟩⟩, fun _ h => absurd h List.not_mem_nil⟩
set_option maxRecDepth 100000 in
theorem mt_MV_r101 : mt_Pmv (((13, 89), (1, [(0, 81)]))) := List.forall_mem_cons.mpr ⟨⟨⟨by decide, by decide +kernel⟩, mt_in 732 (by decide +kernel) rfl, by decide +kernel, ("HealBench", mt_F0, 9), rfl, Or.inl ⟨mt_in 731 (by decide +kernel) rfl, mt_in 733 (by decide +kernel) rfl⟩⟩, fun _ h => absurd h List.not_mem_nil⟩
set_option maxRecDepth 100000 in
theorem mt_MV_r102 : mt_Pmv (((13, 92), (1, [(11, 129)]))) := List.forall_mem_cons.mpr ⟨⟨⟨by decide, by decide +kernel⟩, mt_in 1044 (by decide +kernel) rfl, by decide +kernel, ("HealBenchModel", mt_F11, 40), rfl, Or.inl ⟨mt_in 1043 (by decide +kernel) rfl, mt_in 1045 (by decide +kernel) rfl⟩⟩, fun _ h => absurd h List.not_mem_nil⟩
set_option maxRecDepth 100000 in
theorem mt_MV_r103 : mt_Pmv (((14, 101), (1, [(11, 84)]))) := List.forall_mem_cons.mpr ⟨⟨⟨by decide, by decide +kernel⟩, mt_in 868 (by decide +kernel) rfl, by decide +kernel, ("HealBenchModel", mt_F11, 40), rfl, Or.inl ⟨mt_in 866 (by decide +kernel) rfl, mt_inS (q := (⟨"HealBenchModel", "states", "()I"⟩, 40)) 46 (by decide +kernel)⟩⟩, fun _ h => absurd h List.not_mem_nil⟩
set_option maxRecDepth 100000 in
theorem mt_MV_r104 : mt_Pmv (((14, 105), (2, [(11, 87)]))) := List.forall_mem_cons.mpr ⟨⟨⟨by decide, by decide +kernel⟩, mt_in 879 (by decide +kernel) rfl, by decide +kernel, ("HealBenchModel", mt_F11, 40), rfl, Or.inl ⟨mt_in 877 (by decide +kernel) rfl, mt_inS (q := (⟨"HealBenchModel", "isNode", "(I)Z"⟩, 40)) 47 (by decide +kernel)⟩⟩, fun _ h => absurd h List.not_mem_nil⟩
set_option maxRecDepth 100000 in
theorem mt_MV_r105 : mt_Pmv (((14, 127), (2, [(11, 93)]))) := List.forall_mem_cons.mpr ⟨⟨⟨by decide, by decide +kernel⟩, mt_in 903 (by decide +kernel) rfl, by decide +kernel, ("HealBenchModel", mt_F11, 40), rfl, Or.inl ⟨mt_in 901 (by decide +kernel) rfl, mt_inS (q := (⟨"HealBenchModel", "sign", "(I)V"⟩, 40)) 51 (by decide +kernel)⟩⟩, fun _ h => absurd h List.not_mem_nil⟩
set_option maxRecDepth 100000 in
theorem mt_MV_r106 : mt_Pmv (((14, 134), (1, [(11, 97)]))) := List.forall_mem_cons.mpr ⟨⟨⟨by decide, by decide +kernel⟩, mt_in 919 (by decide +kernel) rfl, by decide +kernel, ("HealBenchModel", mt_F11, 40), rfl, Or.inl ⟨mt_in 917 (by decide +kernel) rfl, mt_inS (q := (⟨"HealBenchModel", "endTest", "()V"⟩, 40)) 55 (by decide +kernel)⟩⟩, fun _ h => absurd h List.not_mem_nil⟩
set_option maxRecDepth 100000 in
theorem mt_MV_r107 : mt_Pmv (((14, 137), (2, [(11, 92)]))) := List.forall_mem_cons.mpr ⟨⟨⟨by decide, by decide +kernel⟩, mt_in 899 (by decide +kernel) rfl, by decide +kernel, ("HealBenchModel", mt_F11, 40), rfl, Or.inl ⟨mt_in 897 (by decide +kernel) rfl, mt_inS (q := (⟨"HealBenchModel", "isPart", "(I)Z"⟩, 40)) 50 (by decide +kernel)⟩⟩, fun _ h => absurd h List.not_mem_nil⟩
set_option maxRecDepth 100000 in
theorem mt_MV_r108 : mt_Pmv (((14, 143), (2, [(11, 94)]))) := List.forall_mem_cons.mpr ⟨⟨⟨by decide, by decide +kernel⟩, mt_in 907 (by decide +kernel) rfl, by decide +kernel, ("HealBenchModel", mt_F11, 40), rfl, Or.inl ⟨mt_in 905 (by decide +kernel) rfl, mt_inS (q := (⟨"HealBenchModel", "begins", "(I)Z"⟩, 40)) 52 (by decide +kernel)⟩⟩, fun _ h => absurd h List.not_mem_nil⟩
set_option maxRecDepth 100000 in
theorem mt_MV_r109 : mt_Pmv (((14, 145), (1, [(11, 99)]))) := List.forall_mem_cons.mpr ⟨⟨⟨by decide, by decide +kernel⟩, mt_in 927 (by decide +kernel) rfl, by decide +kernel, ("HealBenchModel", mt_F11, 40), rfl, Or.inl ⟨mt_in 925 (by decide +kernel) rfl, mt_inS (q := (⟨"HealBenchModel", "endBoth", "()V"⟩, 40)) 57 (by decide +kernel)⟩⟩, fun _ h => absurd h List.not_mem_nil⟩
set_option maxRecDepth 100000 in
theorem mt_MV_r110 : mt_Pmv (((14, 148), (1, [(11, 96)]))) := List.forall_mem_cons.mpr ⟨⟨⟨by decide, by decide +kernel⟩, mt_in 915 (by decide +kernel) rfl, by decide +kernel, ("HealBenchModel", mt_F11, 40), rfl, Or.inl ⟨mt_in 913 (by decide +kernel) rfl, mt_inS (q := (⟨"HealBenchModel", "endComparison", "()V"⟩, 40)) 54 (by decide +kernel)⟩⟩, fun _ h => absurd h List.not_mem_nil⟩
set_option maxRecDepth 100000 in
theorem mt_MV_r111 : mt_Pmv (((14, 151), (3, [(11, 98)]))) := List.forall_mem_cons.mpr ⟨⟨⟨by decide, by decide +kernel⟩, mt_in 923 (by decide +kernel) rfl, by decide +kernel, ("HealBenchModel", mt_F11, 40), rfl, Or.inl ⟨mt_in 921 (by decide +kernel) rfl, mt_inS (q := (⟨"HealBenchModel", "goOn", "(IZ)I"⟩, 40)) 56 (by decide +kernel)⟩⟩, fun _ h => absurd h List.not_mem_nil⟩
set_option maxRecDepth 100000 in
theorem mt_MV_r112 : mt_Pmv (((14, 155), (3, [(11, 91)]))) := List.forall_mem_cons.mpr ⟨⟨⟨by decide, by decide +kernel⟩, mt_in 895 (by decide +kernel) rfl, by decide +kernel, ("HealBenchModel", mt_F11, 40), rfl, Or.inl ⟨mt_in 893 (by decide +kernel) rfl, mt_inS (q := (⟨"HealBenchModel", "start", "(IZ)I"⟩, 40)) 49 (by decide +kernel)⟩⟩, fun _ h => absurd h List.not_mem_nil⟩
set_option maxRecDepth 100000 in
theorem mt_MV_r113 : mt_Pmv (((14, 158), (4, [(11, 95)]))) := List.forall_mem_cons.mpr ⟨⟨⟨by decide, by decide +kernel⟩, mt_in 911 (by decide +kernel) rfl, by decide +kernel, ("HealBenchModel", mt_F11, 40), rfl, Or.inl ⟨mt_in 909 (by decide +kernel) rfl, mt_inS (q := (⟨"HealBenchModel", "follow", "(IIZ)I"⟩, 40)) 53 (by decide +kernel)⟩⟩, fun _ h => absurd h List.not_mem_nil⟩
set_option maxRecDepth 100000 in
theorem mt_MV_r114 : mt_Pmv (((14, 162), (2, [(11, 90)]))) := List.forall_mem_cons.mpr ⟨⟨⟨by decide, by decide +kernel⟩, mt_in 891 (by decide +kernel) rfl, by decide +kernel, ("HealBenchModel", mt_F11, 40), rfl, Or.inl ⟨mt_in 889 (by decide +kernel) rfl, mt_inS (q := (⟨"HealBenchModel", "read", "(Z)I"⟩, 40)) 48 (by decide +kernel)⟩⟩, fun _ h => absurd h List.not_mem_nil⟩
set_option maxRecDepth 100000 in
theorem mt_MV_r115 : mt_Pmv (((14, 166), (2, [(11, 100)]))) := List.forall_mem_cons.mpr ⟨⟨⟨by decide, by decide +kernel⟩, mt_in 931 (by decide +kernel) rfl, by decide +kernel, ("HealBenchModel", mt_F11, 40), rfl, Or.inl ⟨mt_in 929 (by decide +kernel) rfl, mt_inS (q := (⟨"HealBenchModel", "keep", "(I)V"⟩, 40)) 58 (by decide +kernel)⟩⟩, fun _ h => absurd h List.not_mem_nil⟩
set_option maxRecDepth 100000 in
theorem mt_MV_r116 : mt_Pmv (((14, 172), (2, [(11, 116)]))) := List.forall_mem_cons.mpr ⟨⟨⟨by decide, by decide +kernel⟩, mt_in 993 (by decide +kernel) rfl, by decide +kernel, ("HealBenchModel", mt_F11, 40), rfl, Or.inl ⟨mt_in 991 (by decide +kernel) rfl, mt_inS (q := (⟨"HealBenchModel", "neighbours", "(I)I"⟩, 40)) 68 (by decide +kernel)⟩⟩, fun _ h => absurd h List.not_mem_nil⟩
set_option maxRecDepth 100000 in
theorem mt_MV_r117 : mt_Pmv (((14, 176), (3, [(11, 117)]))) := List.forall_mem_cons.mpr ⟨⟨⟨by decide, by decide +kernel⟩, mt_in 997 (by decide +kernel) rfl, by decide +kernel, ("HealBenchModel", mt_F11, 40), rfl, Or.inl ⟨mt_in 995 (by decide +kernel) rfl, mt_inS (q := (⟨"HealBenchModel", "extreme", "(IZ)I"⟩, 40)) 69 (by decide +kernel)⟩⟩, fun _ h => absurd h List.not_mem_nil⟩
set_option maxRecDepth 100000 in
theorem mt_MV_r118 : mt_Pmv (((14, 185), (2, [(11, 112)]))) := List.forall_mem_cons.mpr ⟨⟨⟨by decide, by decide +kernel⟩, mt_in 979 (by decide +kernel) rfl, by decide +kernel, ("HealBenchModel", mt_F11, 40), rfl, Or.inl ⟨mt_in 977 (by decide +kernel) rfl, mt_inS (q := (⟨"HealBenchModel", "modulo", "(I)I"⟩, 40)) 66 (by decide +kernel)⟩⟩, fun _ h => absurd h List.not_mem_nil⟩
set_option maxRecDepth 100000 in
theorem mt_MV_r119 : mt_Pmv (((14, 192), (4, [(11, 115)]))) := List.forall_mem_cons.mpr ⟨⟨⟨by decide, by decide +kernel⟩, mt_in 989 (by decide +kernel) rfl, by decide +kernel, ("HealBenchModel", mt_F11, 40), rfl, Or.inl ⟨mt_in 987 (by decide +kernel) rfl, mt_inS (q := (⟨"HealBenchModel", "part", "(III)I"⟩, 40)) 67 (by decide +kernel)⟩⟩, fun _ h => absurd h List.not_mem_nil⟩
def mt_MV_4 : List ((Nat × Nat) × (Nat × List (Nat × Nat))) := [((13, 80), (1, [(11, 126)])), ((13, 81), (2, [(0, 79)])), ((13, 84), (2, [(11, 127)])), ((13, 85), (2, [(0, 80)])), ((13, 88), (2, [(11, 128)])), ((13, 89), (1, [(0, 81)])), ((13, 92), (1, [(11, 129)])), ((14, 101), (1, [(11, 84)])), ((14, 105), (2, [(11, 87)])), ((14, 127), (2, [(11, 93)])), ((14, 134), (1, [(11, 97)])), ((14, 137), (2, [(11, 92)])), ((14, 143), (2, [(11, 94)])), ((14, 145), (1, [(11, 99)])), ((14, 148), (1, [(11, 96)])), ((14, 151), (3, [(11, 98)])), ((14, 155), (3, [(11, 91)])), ((14, 158), (4, [(11, 95)])), ((14, 162), (2, [(11, 90)])), ((14, 166), (2, [(11, 100)])), ((14, 172), (2, [(11, 116)])), ((14, 176), (3, [(11, 117)])), ((14, 185), (2, [(11, 112)])), ((14, 192), (4, [(11, 115)]))]
theorem mt_MV_a4 : ∀ e ∈ mt_MV_4, mt_Pmv e := List.forall_mem_cons.mpr ⟨mt_MV_r96, List.forall_mem_cons.mpr ⟨mt_MV_r97, List.forall_mem_cons.mpr ⟨mt_MV_r98, List.forall_mem_cons.mpr ⟨mt_MV_r99, List.forall_mem_cons.mpr ⟨mt_MV_r100, List.forall_mem_cons.mpr ⟨mt_MV_r101, List.forall_mem_cons.mpr ⟨mt_MV_r102, List.forall_mem_cons.mpr ⟨mt_MV_r103, List.forall_mem_cons.mpr ⟨mt_MV_r104, List.forall_mem_cons.mpr ⟨mt_MV_r105, List.forall_mem_cons.mpr ⟨mt_MV_r106, List.forall_mem_cons.mpr ⟨mt_MV_r107, List.forall_mem_cons.mpr ⟨mt_MV_r108, List.forall_mem_cons.mpr ⟨mt_MV_r109, List.forall_mem_cons.mpr ⟨mt_MV_r110, List.forall_mem_cons.mpr ⟨mt_MV_r111, List.forall_mem_cons.mpr ⟨mt_MV_r112, List.forall_mem_cons.mpr ⟨mt_MV_r113, List.forall_mem_cons.mpr ⟨mt_MV_r114, List.forall_mem_cons.mpr ⟨mt_MV_r115, List.forall_mem_cons.mpr ⟨mt_MV_r116, List.forall_mem_cons.mpr ⟨mt_MV_r117, List.forall_mem_cons.mpr ⟨mt_MV_r118, List.forall_mem_cons.mpr ⟨mt_MV_r119, fun _ h => absurd h List.not_mem_nil⟩⟩⟩⟩⟩⟩⟩⟩⟩⟩⟩⟩⟩⟩⟩⟩⟩⟩⟩⟩⟩⟩⟩⟩
set_option maxRecDepth 100000 in
theorem mt_MV_r120 : mt_Pmv (((14, 195), (4, [(11, 111)]))) := List.forall_mem_cons.mpr ⟨⟨⟨by decide, by decide +kernel⟩, mt_in 975 (by decide +kernel) rfl, by decide +kernel, ("HealBenchModel", mt_F11, 40), rfl, Or.inl ⟨mt_in 973 (by decide +kernel) rfl, mt_inS (q := (⟨"HealBenchModel", "work", "(III)V"⟩, 40)) 65 (by decide +kernel)⟩⟩, fun _ h => absurd h List.not_mem_nil⟩
set_option maxRecDepth 100000 in
theorem mt_MV_r121 : mt_Pmv (((14, 199), (5, [(11, 110)]))) := List.forall_mem_cons.mpr ⟨⟨⟨by decide, by decide +kernel⟩, mt_in 971 (by decide +kernel) rfl, by decide +kernel, ("HealBenchModel", mt_F11, 40), rfl, Or.inl ⟨mt_in 969 (by decide +kernel) rfl, mt_inS (q := (⟨"HealBenchModel", "around", "(IIII)I"⟩, 40)) 64 (by decide +kernel)⟩⟩, fun _ h => absurd h List.not_mem_nil⟩
set_option maxRecDepth 100000 in
theorem mt_MV_r122 : mt_Pmv (((14, 203), (3, [(11, 109)]))) := List.forall_mem_cons.mpr ⟨⟨⟨by decide, by decide +kernel⟩, mt_in 967 (by decide +kernel) rfl, by decide +kernel, ("HealBenchModel", mt_F11, 40), rfl, Or.inl ⟨mt_in 965 (by decide +kernel) rfl, mt_inS (q := (⟨"HealBenchModel", "holds", "(II)Z"⟩, 40)) 63 (by decide +kernel)⟩⟩, fun _ h => absurd h List.not_mem_nil⟩
set_option maxRecDepth 100000 in
theorem mt_MV_r123 : mt_Pmv (((14, 207), (2, [(11, 107)]))) := List.forall_mem_cons.mpr ⟨⟨⟨by decide, by decide +kernel⟩, mt_in 959 (by decide +kernel) rfl, by decide +kernel, ("HealBenchModel", mt_F11, 40), rfl, Or.inl ⟨mt_in 957 (by decide +kernel) rfl, mt_inS (q := (⟨"HealBenchModel", "lookAt", "(I)V"⟩, 40)) 61 (by decide +kernel)⟩⟩, fun _ h => absurd h List.not_mem_nil⟩
set_option maxRecDepth 100000 in
theorem mt_MV_r124 : mt_Pmv (((14, 210), (2, [(11, 108)]))) := List.forall_mem_cons.mpr ⟨⟨⟨by decide, by decide +kernel⟩, mt_in 963 (by decide +kernel) rfl, by decide +kernel, ("HealBenchModel", mt_F11, 40), rfl, Or.inl ⟨mt_in 961 (by decide +kernel) rfl, mt_inS (q := (⟨"HealBenchModel", "ruleFor", "(I)I"⟩, 40)) 62 (by decide +kernel)⟩⟩, fun _ h => absurd h List.not_mem_nil⟩
set_option maxRecDepth 100000 in
theorem mt_MV_r125 : mt_Pmv (((14, 213), (3, [(11, 118)]))) := List.forall_mem_cons.mpr ⟨⟨⟨by decide, by decide +kernel⟩, mt_in 1001 (by decide +kernel) rfl, by decide +kernel, ("HealBenchModel", mt_F11, 40), rfl, Or.inl ⟨mt_in 999 (by decide +kernel) rfl, mt_inS (q := (⟨"HealBenchModel", "sumFor", "(II)I"⟩, 40)) 70 (by decide +kernel)⟩⟩, fun _ h => absurd h List.not_mem_nil⟩
set_option maxRecDepth 100000 in
theorem mt_MV_r126 : mt_Pmv (((14, 216), (3, [(11, 121)]))) := List.forall_mem_cons.mpr ⟨⟨⟨by decide, by decide +kernel⟩, mt_in 1013 (by decide +kernel) rfl, by decide +kernel, ("HealBenchModel", mt_F11, 40), rfl, Or.inl ⟨mt_in 1011 (by decide +kernel) rfl, mt_inS (q := (⟨"HealBenchModel", "isChoice", "(II)Z"⟩, 40)) 73 (by decide +kernel)⟩⟩, fun _ h => absurd h List.not_mem_nil⟩
set_option maxRecDepth 100000 in
theorem mt_MV_r127 : mt_Pmv (((14, 219), (3, [(11, 122)]))) := List.forall_mem_cons.mpr ⟨⟨⟨by decide, by decide +kernel⟩, mt_in 1017 (by decide +kernel) rfl, by decide +kernel, ("HealBenchModel", mt_F11, 40), rfl, Or.inl ⟨mt_in 1015 (by decide +kernel) rfl, mt_inS (q := (⟨"HealBenchModel", "behind", "(II)I"⟩, 40)) 74 (by decide +kernel)⟩⟩, fun _ h => absurd h List.not_mem_nil⟩
set_option maxRecDepth 100000 in
theorem mt_MV_r128 : mt_Pmv (((14, 222), (4, [(11, 120)]))) := List.forall_mem_cons.mpr ⟨⟨⟨by decide, by decide +kernel⟩, mt_in 1009 (by decide +kernel) rfl, by decide +kernel, ("HealBenchModel", mt_F11, 40), rfl, Or.inl ⟨mt_in 1007 (by decide +kernel) rfl, mt_inS (q := (⟨"HealBenchModel", "choiceTo", "(IZZ)I"⟩, 40)) 72 (by decide +kernel)⟩⟩, fun _ h => absurd h List.not_mem_nil⟩
set_option maxRecDepth 100000 in
theorem mt_MV_r129 : mt_Pmv (((14, 229), (1, [(11, 106)]))) := List.forall_mem_cons.mpr ⟨⟨⟨by decide, by decide +kernel⟩, mt_in 955 (by decide +kernel) rfl, by decide +kernel, ("HealBenchModel", mt_F11, 40), rfl, Or.inl ⟨mt_in 953 (by decide +kernel) rfl, mt_inS (q := (⟨"HealBenchModel", "layTables", "()V"⟩, 40)) 60 (by decide +kernel)⟩⟩, fun _ h => absurd h List.not_mem_nil⟩
set_option maxRecDepth 100000 in
theorem mt_MV_r130 : mt_Pmv (((14, 232), (1, [(11, 119)]))) := List.forall_mem_cons.mpr ⟨⟨⟨by decide, by decide +kernel⟩, mt_in 1005 (by decide +kernel) rfl, by decide +kernel, ("HealBenchModel", mt_F11, 40), rfl, Or.inl ⟨mt_in 1003 (by decide +kernel) rfl, mt_inS (q := (⟨"HealBenchModel", "leavesGood", "()Z"⟩, 40)) 71 (by decide +kernel)⟩⟩, fun _ h => absurd h List.not_mem_nil⟩
set_option maxRecDepth 100000 in
theorem mt_MV_r131 : mt_Pmv (((14, 236), (1, [(11, 123)]))) := List.forall_mem_cons.mpr ⟨⟨⟨by decide, by decide +kernel⟩, mt_in 1021 (by decide +kernel) rfl, by decide +kernel, ("HealBenchModel", mt_F11, 40), rfl, Or.inl ⟨mt_in 1019 (by decide +kernel) rfl, mt_inS (q := (⟨"HealBenchModel", "isStuck", "()Z"⟩, 40)) 75 (by decide +kernel)⟩⟩, fun _ h => absurd h List.not_mem_nil⟩
set_option maxRecDepth 100000 in
theorem mt_MV_r132 : mt_Pmv (((14, 239), (1, [(11, 124)]))) := List.forall_mem_cons.mpr ⟨⟨⟨by decide, by decide +kernel⟩, mt_in 1025 (by decide +kernel) rfl, by decide +kernel, ("HealBenchModel", mt_F11, 40), rfl, Or.inl ⟨mt_in 1023 (by decide +kernel) rfl, mt_inS (q := (⟨"HealBenchModel", "goesRound", "()Z"⟩, 40)) 76 (by decide +kernel)⟩⟩, fun _ h => absurd h List.not_mem_nil⟩
set_option maxRecDepth 100000 in
theorem mt_MV_r133 : mt_Pmv (((14, 245), (1, [(11, 125)]))) := List.forall_mem_cons.mpr ⟨⟨⟨by decide, by decide +kernel⟩, mt_in 1029 (by decide +kernel) rfl, by decide +kernel, ("HealBenchModel", mt_F11, 40), rfl, Or.inl ⟨mt_in 1027 (by decide +kernel) rfl, mt_inS (q := (⟨"HealBenchModel", "layFars", "()V"⟩, 40)) 77 (by decide +kernel)⟩⟩, fun _ h => absurd h List.not_mem_nil⟩
set_option maxRecDepth 100000 in
theorem mt_MV_r134 : mt_Pmv (((14, 248), (1, [(11, 105)]))) := List.forall_mem_cons.mpr ⟨⟨⟨by decide, by decide +kernel⟩, mt_in 951 (by decide +kernel) rfl, by decide +kernel, ("HealBenchModel", mt_F11, 40), rfl, Or.inl ⟨mt_in 949 (by decide +kernel) rfl, mt_inS (q := (⟨"HealBenchModel", "findOut", "()V"⟩, 40)) 59 (by decide +kernel)⟩⟩, fun _ h => absurd h List.not_mem_nil⟩
set_option maxRecDepth 100000 in
theorem mt_MV_r135 : mt_Pmv (((14, 251), (1, [(11, 130)]))) := List.forall_mem_cons.mpr ⟨⟨⟨by decide, by decide +kernel⟩, mt_in 1048 (by decide +kernel) rfl, by decide +kernel, ("HealBenchModel", mt_F11, 40), rfl, Or.inl ⟨mt_in 1063 (by decide +kernel) rfl, mt_in 1049 (by decide +kernel) rfl⟩⟩, fun _ h => absurd h List.not_mem_nil⟩
def mt_MV_5 : List ((Nat × Nat) × (Nat × List (Nat × Nat))) := [((14, 195), (4, [(11, 111)])), ((14, 199), (5, [(11, 110)])), ((14, 203), (3, [(11, 109)])), ((14, 207), (2, [(11, 107)])), ((14, 210), (2, [(11, 108)])), ((14, 213), (3, [(11, 118)])), ((14, 216), (3, [(11, 121)])), ((14, 219), (3, [(11, 122)])), ((14, 222), (4, [(11, 120)])), ((14, 229), (1, [(11, 106)])), ((14, 232), (1, [(11, 119)])), ((14, 236), (1, [(11, 123)])), ((14, 239), (1, [(11, 124)])), ((14, 245), (1, [(11, 125)])), ((14, 248), (1, [(11, 105)])), ((14, 251), (1, [(11, 130)]))]
theorem mt_MV_a5 : ∀ e ∈ mt_MV_5, mt_Pmv e := List.forall_mem_cons.mpr ⟨mt_MV_r120, List.forall_mem_cons.mpr ⟨mt_MV_r121, List.forall_mem_cons.mpr ⟨mt_MV_r122, List.forall_mem_cons.mpr ⟨mt_MV_r123, List.forall_mem_cons.mpr ⟨mt_MV_r124, List.forall_mem_cons.mpr ⟨mt_MV_r125, List.forall_mem_cons.mpr ⟨mt_MV_r126, List.forall_mem_cons.mpr ⟨mt_MV_r127, List.forall_mem_cons.mpr ⟨mt_MV_r128, List.forall_mem_cons.mpr ⟨mt_MV_r129, List.forall_mem_cons.mpr ⟨mt_MV_r130, List.forall_mem_cons.mpr ⟨mt_MV_r131, List.forall_mem_cons.mpr ⟨mt_MV_r132, List.forall_mem_cons.mpr ⟨mt_MV_r133, List.forall_mem_cons.mpr ⟨mt_MV_r134, List.forall_mem_cons.mpr ⟨mt_MV_r135, fun _ h => absurd h List.not_mem_nil⟩⟩⟩⟩⟩⟩⟩⟩⟩⟩⟩⟩⟩⟩⟩⟩
def mt_MV : List ((Nat × Nat) × (Nat × List (Nat × Nat))) := mt_MV_0 ++ (mt_MV_1 ++ (mt_MV_2 ++ (mt_MV_3 ++ (mt_MV_4 ++ (mt_MV_5)))))
theorem mt_MV_all : ∀ e ∈ mt_MV, mt_Pmv e := by
  show ∀ e ∈ mt_MV_0 ++ (mt_MV_1 ++ (mt_MV_2 ++ (mt_MV_3 ++ (mt_MV_4 ++ (mt_MV_5))))), mt_Pmv e
  exact List.forall_mem_append.mpr ⟨mt_MV_a0, List.forall_mem_append.mpr ⟨mt_MV_a1, List.forall_mem_append.mpr ⟨mt_MV_a2, List.forall_mem_append.mpr ⟨mt_MV_a3, List.forall_mem_append.mpr ⟨mt_MV_a4, mt_MV_a5⟩⟩⟩⟩⟩
set_option maxRecDepth 100000 in
theorem mt_ML_r0 : mt_Pml (((7, 86), 142)) := ⟨⟨by decide, by decide +kernel⟩, mt_in 380 (by decide +kernel) rfl, by decide +kernel, Or.inl ⟨mt_in 379 (by decide +kernel) rfl, mt_in 381 (by decide +kernel) rfl⟩⟩
set_option maxRecDepth 100000 in
theorem mt_ML_r1 : mt_Pml (((17, 335), 146)) := ⟨⟨by decide, by decide +kernel⟩, mt_in 398 (by decide +kernel) rfl, by decide +kernel, Or.inl ⟨mt_in 397 (by decide +kernel) rfl, mt_in 399 (by decide +kernel) rfl⟩⟩
set_option maxRecDepth 100000 in
theorem mt_ML_r2 : mt_Pml (((17, 492), 144)) := ⟨⟨by decide, by decide +kernel⟩, mt_in 388 (by decide +kernel) rfl, by decide +kernel, Or.inl ⟨mt_in 387 (by decide +kernel) rfl, mt_in 389 (by decide +kernel) rfl⟩⟩
set_option maxRecDepth 100000 in
theorem mt_ML_r3 : mt_Pml (((17, 505), 145)) := ⟨⟨by decide, by decide +kernel⟩, mt_in 394 (by decide +kernel) rfl, by decide +kernel, Or.inl ⟨mt_in 393 (by decide +kernel) rfl, mt_in 395 (by decide +kernel) rfl⟩⟩
set_option maxRecDepth 100000 in
theorem mt_ML_r4 : mt_Pml (((17, 633), 143)) := ⟨⟨by decide, by decide +kernel⟩, mt_in 384 (by decide +kernel) rfl, by decide +kernel, Or.inl ⟨mt_in 383 (by decide +kernel) rfl, mt_in 385 (by decide +kernel) rfl⟩⟩
def mt_ML_0 : List ((Nat × Nat) × Nat) := [((7, 86), 142), ((17, 335), 146), ((17, 492), 144), ((17, 505), 145), ((17, 633), 143)]
theorem mt_ML_a0 : ∀ e ∈ mt_ML_0, mt_Pml e := List.forall_mem_cons.mpr ⟨mt_ML_r0, List.forall_mem_cons.mpr ⟨mt_ML_r1, List.forall_mem_cons.mpr ⟨mt_ML_r2, List.forall_mem_cons.mpr ⟨mt_ML_r3, List.forall_mem_cons.mpr ⟨mt_ML_r4, fun _ h => absurd h List.not_mem_nil⟩⟩⟩⟩⟩
def mt_ML : List ((Nat × Nat) × Nat) := mt_ML_0
theorem mt_ML_all : ∀ e ∈ mt_ML, mt_Pml e := by
  show ∀ e ∈ mt_ML_0, mt_Pml e
  exact mt_ML_a0
set_option maxRecDepth 100000 in
theorem mt_sub_r0 : mt_Pb ((1, 200)) := ⟨3, "HealBench$Test", ("HealBench$Comparison", mt_F1, 3), rfl, by decide, rfl, Or.inr (mt_nin 1076 (by decide +kernel) rfl)⟩
set_option maxRecDepth 100000 in
theorem mt_sub_r1 : mt_Pb ((3, 200)) := ⟨3, "HealBench$Test", ("HealBench$Neighbours", mt_F3, 2), rfl, by decide, rfl, Or.inr (mt_nin 1077 (by decide +kernel) rfl)⟩
set_option maxRecDepth 100000 in
theorem mt_sub_r2 : mt_Pb ((4, 200)) := ⟨3, "HealBench$Test", ("HealBench$Not", mt_F4, 1), rfl, by decide, rfl, Or.inr (mt_nin 1078 (by decide +kernel) rfl)⟩
set_option maxRecDepth 100000 in
theorem mt_sub_r3 : mt_Pb ((5, 200)) := ⟨3, "HealBench$Test", ("HealBench$Pair", mt_F5, 3), rfl, by decide, rfl, Or.inr (mt_nin 1079 (by decide +kernel) rfl)⟩
set_option maxRecDepth 100000 in
theorem mt_sub_r4 : mt_Pb ((9, 201)) := ⟨4, "HealBench$Sum", ("HealBench$Sum", mt_F9, 4), rfl, by decide, rfl, Or.inl rfl⟩
def mt_sub_0 : List (Nat × Nat) := [(1, 200), (3, 200), (4, 200), (5, 200), (9, 201)]
theorem mt_sub_a0 : ∀ e ∈ mt_sub_0, mt_Pb e := List.forall_mem_cons.mpr ⟨mt_sub_r0, List.forall_mem_cons.mpr ⟨mt_sub_r1, List.forall_mem_cons.mpr ⟨mt_sub_r2, List.forall_mem_cons.mpr ⟨mt_sub_r3, List.forall_mem_cons.mpr ⟨mt_sub_r4, fun _ h => absurd h List.not_mem_nil⟩⟩⟩⟩⟩
def mt_sub : List (Nat × Nat) := mt_sub_0
theorem mt_sub_all : ∀ e ∈ mt_sub, mt_Pb e := by
  show ∀ e ∈ mt_sub_0, mt_Pb e
  exact mt_sub_a0
theorem mt_cpyW : Cond.native arraycopyName ∈ mt_TB ∧ Cond.static arraycopyName ∈ mt_TB ∧ Cond.initialized "java/lang/System" ∈ mt_TB := ⟨mt_in 293 (by decide +kernel) rfl, mt_in 292 (by decide +kernel) rfl, mt_in 8 (by decide +kernel) rfl⟩
set_option maxRecDepth 100000 in
theorem mt_objW : Cond.instanceMethod Lib.objectInit ∈ mt_TB ∧ Cond.code Lib.objectInit ⟨#[0xb1]⟩ 1 none ∈ mt_TB := ⟨mt_in 29 (by decide +kernel) rfl, mt_in 30 rfl rfl⟩
theorem mt_c0 : mt_Pc 0 ("HealBench", mt_F0, 9) := ⟨by decide, rfl, by decide +kernel, by decide +kernel, mt_ins [222, 224, 226, 228, 230, 232, 234, 236, 238] (by decide +kernel) (by decide +kernel), by decide +kernel⟩
theorem mt_c1 : mt_Pc 1 ("HealBench$Comparison", mt_F1, 3) := ⟨by decide, rfl, by decide +kernel, by decide +kernel, mt_ins [495, 497, 499] (by decide +kernel) (by decide +kernel), by decide +kernel⟩
theorem mt_c2 : mt_Pc 2 ("HealBench$Graph", mt_F2, 6) := ⟨by decide, rfl, by decide +kernel, by decide +kernel, mt_ins [65, 67, 69, 71, 73, 75] (by decide +kernel) (by decide +kernel), by decide +kernel⟩
theorem mt_c3 : mt_Pc 3 ("HealBench$Neighbours", mt_F3, 2) := ⟨by decide, rfl, by decide +kernel, by decide +kernel, mt_ins [361, 363] (by decide +kernel) (by decide +kernel), by decide +kernel⟩
theorem mt_c4 : mt_Pc 4 ("HealBench$Not", mt_F4, 1) := ⟨by decide, rfl, by decide +kernel, by decide +kernel, mt_ins [341] (by decide +kernel) (by decide +kernel), by decide +kernel⟩
theorem mt_c5 : mt_Pc 5 ("HealBench$Pair", mt_F5, 3) := ⟨by decide, rfl, by decide +kernel, by decide +kernel, mt_ins [511, 513, 515] (by decide +kernel) (by decide +kernel), by decide +kernel⟩
theorem mt_c6 : mt_Pc 6 ("HealBench$Reader", mt_F6, 3) := ⟨by decide, rfl, by decide +kernel, by decide +kernel, mt_ins [304, 306, 308] (by decide +kernel) (by decide +kernel), by decide +kernel⟩
theorem mt_c7 : mt_Pc 7 ("HealBench$Rules", mt_F7, 5) := ⟨by decide, rfl, by decide +kernel, by decide +kernel, mt_ins [131, 133, 135, 137, 139] (by decide +kernel) (by decide +kernel), by decide +kernel⟩
theorem mt_c8 : mt_Pc 8 ("HealBench$Search", mt_F8, 18) := ⟨by decide, rfl, by decide +kernel, by decide +kernel, mt_ins [175, 177, 179, 181, 183, 185, 187, 189, 191, 193, 195, 197, 199, 201, 203, 205, 207, 209] (by decide +kernel) (by decide +kernel), by decide +kernel⟩
theorem mt_c9 : mt_Pc 9 ("HealBench$Sum", mt_F9, 4) := ⟨by decide, rfl, by decide +kernel, by decide +kernel, mt_ins [476, 478, 480, 482] (by decide +kernel) (by decide +kernel), by decide +kernel⟩
theorem mt_c10 : mt_Pc 10 ("HealBench$View", mt_F10, 6) := ⟨by decide, rfl, by decide +kernel, by decide +kernel, mt_ins [102, 104, 106, 108, 110, 112] (by decide +kernel) (by decide +kernel), by decide +kernel⟩
theorem mt_c11 : mt_Pc 11 ("HealBenchModel", mt_F11, 40) := ⟨by decide, rfl, by decide +kernel, by decide +kernel, mt_ins [781, 783, 785, 787, 789, 791, 793, 795, 797, 799, 801, 803, 805, 807, 809, 811, 813, 815, 817, 819, 821, 823, 825, 827, 829, 831, 833, 835, 837, 839, 841, 843, 845, 847, 849, 851, 853, 855, 857, 859] (by decide +kernel) (by decide +kernel), by decide +kernel⟩
theorem mt_ok_cl : ∀ (ci : Nat) (r : vw_C), mt_cl[ci]? = some r → mt_Pc ci r
  | 0, _, h => by cases h; exact mt_c0
  | 1, _, h => by cases h; exact mt_c1
  | 2, _, h => by cases h; exact mt_c2
  | 3, _, h => by cases h; exact mt_c3
  | 4, _, h => by cases h; exact mt_c4
  | 5, _, h => by cases h; exact mt_c5
  | 6, _, h => by cases h; exact mt_c6
  | 7, _, h => by cases h; exact mt_c7
  | 8, _, h => by cases h; exact mt_c8
  | 9, _, h => by cases h; exact mt_c9
  | 10, _, h => by cases h; exact mt_c10
  | 11, _, h => by cases h; exact mt_c11
  | n + 12, _, h => by simp [mt_cl] at h
theorem mt_ma0 : ∀ r ∈ [mt_T1, mt_T2, mt_T3, mt_T4, mt_T5, mt_T6, mt_T7, mt_T8, mt_T9, mt_T10, mt_T11, mt_T12, mt_T13, mt_T14, mt_T15, mt_T16, mt_T17, mt_T18, mt_T19, mt_T20, mt_T21, mt_T22, mt_T23, mt_T24], mt_Pm r := List.forall_mem_cons.mpr ⟨mt_m1, List.forall_mem_cons.mpr ⟨mt_m2, List.forall_mem_cons.mpr ⟨mt_m3, List.forall_mem_cons.mpr ⟨mt_m4, List.forall_mem_cons.mpr ⟨mt_m5, List.forall_mem_cons.mpr ⟨mt_m6, List.forall_mem_cons.mpr ⟨mt_m7, List.forall_mem_cons.mpr ⟨mt_m8, List.forall_mem_cons.mpr ⟨mt_m9, List.forall_mem_cons.mpr ⟨mt_m10, List.forall_mem_cons.mpr ⟨mt_m11, List.forall_mem_cons.mpr ⟨mt_m12, List.forall_mem_cons.mpr ⟨mt_m13, List.forall_mem_cons.mpr ⟨mt_m14, List.forall_mem_cons.mpr ⟨mt_m15, List.forall_mem_cons.mpr ⟨mt_m16, List.forall_mem_cons.mpr ⟨mt_m17, List.forall_mem_cons.mpr ⟨mt_m18, List.forall_mem_cons.mpr ⟨mt_m19, List.forall_mem_cons.mpr ⟨mt_m20, List.forall_mem_cons.mpr ⟨mt_m21, List.forall_mem_cons.mpr ⟨mt_m22, List.forall_mem_cons.mpr ⟨mt_m23, List.forall_mem_cons.mpr ⟨mt_m24, fun _ h => absurd h List.not_mem_nil⟩⟩⟩⟩⟩⟩⟩⟩⟩⟩⟩⟩⟩⟩⟩⟩⟩⟩⟩⟩⟩⟩⟩⟩
theorem mt_ma1 : ∀ r ∈ [mt_T25, mt_T26, mt_T27, mt_T28, mt_T29, mt_T30, mt_T31, mt_T32, mt_T33, mt_T34, mt_T35, mt_T36, mt_T37, mt_T38, mt_T39, mt_T40, mt_T41, mt_T42, mt_T43, mt_T44, mt_T45, mt_T46, mt_T47, mt_T48], mt_Pm r := List.forall_mem_cons.mpr ⟨mt_m25, List.forall_mem_cons.mpr ⟨mt_m26, List.forall_mem_cons.mpr ⟨mt_m27, List.forall_mem_cons.mpr ⟨mt_m28, List.forall_mem_cons.mpr ⟨mt_m29, List.forall_mem_cons.mpr ⟨mt_m30, List.forall_mem_cons.mpr ⟨mt_m31, List.forall_mem_cons.mpr ⟨mt_m32, List.forall_mem_cons.mpr ⟨mt_m33, List.forall_mem_cons.mpr ⟨mt_m34, List.forall_mem_cons.mpr ⟨mt_m35, List.forall_mem_cons.mpr ⟨mt_m36, List.forall_mem_cons.mpr ⟨mt_m37, List.forall_mem_cons.mpr ⟨mt_m38, List.forall_mem_cons.mpr ⟨mt_m39, List.forall_mem_cons.mpr ⟨mt_m40, List.forall_mem_cons.mpr ⟨mt_m41, List.forall_mem_cons.mpr ⟨mt_m42, List.forall_mem_cons.mpr ⟨mt_m43, List.forall_mem_cons.mpr ⟨mt_m44, List.forall_mem_cons.mpr ⟨mt_m45, List.forall_mem_cons.mpr ⟨mt_m46, List.forall_mem_cons.mpr ⟨mt_m47, List.forall_mem_cons.mpr ⟨mt_m48, fun _ h => absurd h List.not_mem_nil⟩⟩⟩⟩⟩⟩⟩⟩⟩⟩⟩⟩⟩⟩⟩⟩⟩⟩⟩⟩⟩⟩⟩⟩
theorem mt_ma2 : ∀ r ∈ [mt_T49, mt_T50, mt_T51, mt_T52, mt_T53, mt_T54, mt_T55, mt_T56, mt_T57, mt_T58, mt_T59, mt_T60, mt_T61, mt_T62, mt_T63, mt_T64, mt_T65, mt_T66, mt_T67, mt_T68, mt_T69, mt_T70, mt_T71, mt_T72], mt_Pm r := List.forall_mem_cons.mpr ⟨mt_m49, List.forall_mem_cons.mpr ⟨mt_m50, List.forall_mem_cons.mpr ⟨mt_m51, List.forall_mem_cons.mpr ⟨mt_m52, List.forall_mem_cons.mpr ⟨mt_m53, List.forall_mem_cons.mpr ⟨mt_m54, List.forall_mem_cons.mpr ⟨mt_m55, List.forall_mem_cons.mpr ⟨mt_m56, List.forall_mem_cons.mpr ⟨mt_m57, List.forall_mem_cons.mpr ⟨mt_m58, List.forall_mem_cons.mpr ⟨mt_m59, List.forall_mem_cons.mpr ⟨mt_m60, List.forall_mem_cons.mpr ⟨mt_m61, List.forall_mem_cons.mpr ⟨mt_m62, List.forall_mem_cons.mpr ⟨mt_m63, List.forall_mem_cons.mpr ⟨mt_m64, List.forall_mem_cons.mpr ⟨mt_m65, List.forall_mem_cons.mpr ⟨mt_m66, List.forall_mem_cons.mpr ⟨mt_m67, List.forall_mem_cons.mpr ⟨mt_m68, List.forall_mem_cons.mpr ⟨mt_m69, List.forall_mem_cons.mpr ⟨mt_m70, List.forall_mem_cons.mpr ⟨mt_m71, List.forall_mem_cons.mpr ⟨mt_m72, fun _ h => absurd h List.not_mem_nil⟩⟩⟩⟩⟩⟩⟩⟩⟩⟩⟩⟩⟩⟩⟩⟩⟩⟩⟩⟩⟩⟩⟩⟩
theorem mt_ma3 : ∀ r ∈ [mt_T73, mt_T74, mt_T75, mt_T76, mt_T77, mt_T78, mt_T79, mt_T80, mt_T81, mt_T82, mt_T83, mt_T84, mt_T85, mt_T86, mt_T87, mt_T88, mt_T89, mt_T90, mt_T91, mt_T92, mt_T93, mt_T94, mt_T95, mt_T96], mt_Pm r := List.forall_mem_cons.mpr ⟨mt_m73, List.forall_mem_cons.mpr ⟨mt_m74, List.forall_mem_cons.mpr ⟨mt_m75, List.forall_mem_cons.mpr ⟨mt_m76, List.forall_mem_cons.mpr ⟨mt_m77, List.forall_mem_cons.mpr ⟨mt_m78, List.forall_mem_cons.mpr ⟨mt_m79, List.forall_mem_cons.mpr ⟨mt_m80, List.forall_mem_cons.mpr ⟨mt_m81, List.forall_mem_cons.mpr ⟨mt_m82, List.forall_mem_cons.mpr ⟨mt_m83, List.forall_mem_cons.mpr ⟨mt_m84, List.forall_mem_cons.mpr ⟨mt_m85, List.forall_mem_cons.mpr ⟨mt_m86, List.forall_mem_cons.mpr ⟨mt_m87, List.forall_mem_cons.mpr ⟨mt_m88, List.forall_mem_cons.mpr ⟨mt_m89, List.forall_mem_cons.mpr ⟨mt_m90, List.forall_mem_cons.mpr ⟨mt_m91, List.forall_mem_cons.mpr ⟨mt_m92, List.forall_mem_cons.mpr ⟨mt_m93, List.forall_mem_cons.mpr ⟨mt_m94, List.forall_mem_cons.mpr ⟨mt_m95, List.forall_mem_cons.mpr ⟨mt_m96, fun _ h => absurd h List.not_mem_nil⟩⟩⟩⟩⟩⟩⟩⟩⟩⟩⟩⟩⟩⟩⟩⟩⟩⟩⟩⟩⟩⟩⟩⟩
theorem mt_ma4 : ∀ r ∈ [mt_T97, mt_T98, mt_T99, mt_T100, mt_T101, mt_T102, mt_T103, mt_T104, mt_T105, mt_T106, mt_T107, mt_T108, mt_T109, mt_T110, mt_T111, mt_T112, mt_T113, mt_T114, mt_T115, mt_T116, mt_T117, mt_T118, mt_T119, mt_T120], mt_Pm r := List.forall_mem_cons.mpr ⟨mt_m97, List.forall_mem_cons.mpr ⟨mt_m98, List.forall_mem_cons.mpr ⟨mt_m99, List.forall_mem_cons.mpr ⟨mt_m100, List.forall_mem_cons.mpr ⟨mt_m101, List.forall_mem_cons.mpr ⟨mt_m102, List.forall_mem_cons.mpr ⟨mt_m103, List.forall_mem_cons.mpr ⟨mt_m104, List.forall_mem_cons.mpr ⟨mt_m105, List.forall_mem_cons.mpr ⟨mt_m106, List.forall_mem_cons.mpr ⟨mt_m107, List.forall_mem_cons.mpr ⟨mt_m108, List.forall_mem_cons.mpr ⟨mt_m109, List.forall_mem_cons.mpr ⟨mt_m110, List.forall_mem_cons.mpr ⟨mt_m111, List.forall_mem_cons.mpr ⟨mt_m112, List.forall_mem_cons.mpr ⟨mt_m113, List.forall_mem_cons.mpr ⟨mt_m114, List.forall_mem_cons.mpr ⟨mt_m115, List.forall_mem_cons.mpr ⟨mt_m116, List.forall_mem_cons.mpr ⟨mt_m117, List.forall_mem_cons.mpr ⟨mt_m118, List.forall_mem_cons.mpr ⟨mt_m119, List.forall_mem_cons.mpr ⟨mt_m120, fun _ h => absurd h List.not_mem_nil⟩⟩⟩⟩⟩⟩⟩⟩⟩⟩⟩⟩⟩⟩⟩⟩⟩⟩⟩⟩⟩⟩⟩⟩
theorem mt_ma5 : ∀ r ∈ [mt_T121, mt_T122, mt_T123, mt_T124, mt_T125, mt_T126, mt_T127, mt_T128, mt_T129, mt_T130, mt_T131, mt_T132, mt_T133, mt_T134, mt_T135, mt_T136, mt_T137, mt_T138, mt_T139, mt_T140, mt_T141, mt_T142, mt_T143, mt_T144], mt_Pm r := List.forall_mem_cons.mpr ⟨mt_m121, List.forall_mem_cons.mpr ⟨mt_m122, List.forall_mem_cons.mpr ⟨mt_m123, List.forall_mem_cons.mpr ⟨mt_m124, List.forall_mem_cons.mpr ⟨mt_m125, List.forall_mem_cons.mpr ⟨mt_m126, List.forall_mem_cons.mpr ⟨mt_m127, List.forall_mem_cons.mpr ⟨mt_m128, List.forall_mem_cons.mpr ⟨mt_m129, List.forall_mem_cons.mpr ⟨mt_m130, List.forall_mem_cons.mpr ⟨mt_m131, List.forall_mem_cons.mpr ⟨mt_m132, List.forall_mem_cons.mpr ⟨mt_m133, List.forall_mem_cons.mpr ⟨mt_m134, List.forall_mem_cons.mpr ⟨mt_m135, List.forall_mem_cons.mpr ⟨mt_m136, List.forall_mem_cons.mpr ⟨mt_m137, List.forall_mem_cons.mpr ⟨mt_m138, List.forall_mem_cons.mpr ⟨mt_m139, List.forall_mem_cons.mpr ⟨mt_m140, List.forall_mem_cons.mpr ⟨mt_m141, List.forall_mem_cons.mpr ⟨mt_m142, List.forall_mem_cons.mpr ⟨mt_m143, List.forall_mem_cons.mpr ⟨mt_m144, fun _ h => absurd h List.not_mem_nil⟩⟩⟩⟩⟩⟩⟩⟩⟩⟩⟩⟩⟩⟩⟩⟩⟩⟩⟩⟩⟩⟩⟩⟩
theorem mt_ma6 : ∀ r ∈ [mt_T145, mt_T146, mt_T147, mt_T148, mt_T149], mt_Pm r := List.forall_mem_cons.mpr ⟨mt_m145, List.forall_mem_cons.mpr ⟨mt_m146, List.forall_mem_cons.mpr ⟨mt_m147, List.forall_mem_cons.mpr ⟨mt_m148, List.forall_mem_cons.mpr ⟨mt_m149, fun _ h => absurd h List.not_mem_nil⟩⟩⟩⟩⟩
theorem mt_m_all : ∀ r ∈ mt_T.drop 1, mt_Pm r := by
  show ∀ r ∈ [mt_T1, mt_T2, mt_T3, mt_T4, mt_T5, mt_T6, mt_T7, mt_T8, mt_T9, mt_T10, mt_T11, mt_T12, mt_T13, mt_T14, mt_T15, mt_T16, mt_T17, mt_T18, mt_T19, mt_T20, mt_T21, mt_T22, mt_T23, mt_T24] ++ ([mt_T25, mt_T26, mt_T27, mt_T28, mt_T29, mt_T30, mt_T31, mt_T32, mt_T33, mt_T34, mt_T35, mt_T36, mt_T37, mt_T38, mt_T39, mt_T40, mt_T41, mt_T42, mt_T43, mt_T44, mt_T45, mt_T46, mt_T47, mt_T48] ++ ([mt_T49, mt_T50, mt_T51, mt_T52, mt_T53, mt_T54, mt_T55, mt_T56, mt_T57, mt_T58, mt_T59, mt_T60, mt_T61, mt_T62, mt_T63, mt_T64, mt_T65, mt_T66, mt_T67, mt_T68, mt_T69, mt_T70, mt_T71, mt_T72] ++ ([mt_T73, mt_T74, mt_T75, mt_T76, mt_T77, mt_T78, mt_T79, mt_T80, mt_T81, mt_T82, mt_T83, mt_T84, mt_T85, mt_T86, mt_T87, mt_T88, mt_T89, mt_T90, mt_T91, mt_T92, mt_T93, mt_T94, mt_T95, mt_T96] ++ ([mt_T97, mt_T98, mt_T99, mt_T100, mt_T101, mt_T102, mt_T103, mt_T104, mt_T105, mt_T106, mt_T107, mt_T108, mt_T109, mt_T110, mt_T111, mt_T112, mt_T113, mt_T114, mt_T115, mt_T116, mt_T117, mt_T118, mt_T119, mt_T120] ++ ([mt_T121, mt_T122, mt_T123, mt_T124, mt_T125, mt_T126, mt_T127, mt_T128, mt_T129, mt_T130, mt_T131, mt_T132, mt_T133, mt_T134, mt_T135, mt_T136, mt_T137, mt_T138, mt_T139, mt_T140, mt_T141, mt_T142, mt_T143, mt_T144] ++ ([mt_T145, mt_T146, mt_T147, mt_T148, mt_T149])))))), mt_Pm r
  exact List.forall_mem_append.mpr ⟨mt_ma0, List.forall_mem_append.mpr ⟨mt_ma1, List.forall_mem_append.mpr ⟨mt_ma2, List.forall_mem_append.mpr ⟨mt_ma3, List.forall_mem_append.mpr ⟨mt_ma4, List.forall_mem_append.mpr ⟨mt_ma5, mt_ma6⟩⟩⟩⟩⟩⟩
theorem mt_ok_M (mj : Nat) (h : 0 < mj ∧ mj < mt_T.length) : plainFor (mt_y mj) = true ∧ Cond.code (mt_y mj) (mt_b mj) (mt_L mj) (mt_ret mj) ∈ mt_TB ∧ Cond.initialized (mt_y mj).cls ∈ mt_TB ∧ ((mt_y mj).cls ≠ "java/lang/invoke/MethodHandle" ∧ (mt_y mj).cls ≠ "java/lang/invoke/VarHandle") ∧ mt_n mj ≤ mt_L mj ∧ mt_L mj + 19 ≤ 64 := by
  have h1 : mt_row mj ∈ mt_T.drop 1 := by
    refine List.mem_of_getElem? (i := mj - 1) ?_
    rw [List.getElem?_drop, show 1 + (mj - 1) = mj by omega]
    simp [mt_row, List.getD, h.2]
  exact mt_m_all _ h1
def mj_get {α : Type} (l : List ((Nat × Nat) × α)) (o i : Nat) : Option α := (l.find? (fun x => x.1.1 == o && x.1.2 == i)).map (fun x => x.2)
theorem mj_get_mem {α : Type} {l : List ((Nat × Nat) × α)} {o i : Nat} {v : α} (h : mj_get l o i = some v) : ((o, i), v) ∈ l := by
  unfold mj_get at h
  cases hf : l.find? (fun x => x.1.1 == o && x.1.2 == i) with
  | none => rw [hf] at h; cases h
  | some x =>
    rw [hf] at h
    have h1 := List.mem_of_find?_eq_some hf
    have h2 := List.find?_some hf
    simp only [Bool.and_eq_true, beq_iff_eq] at h2
    obtain ⟨⟨a, b⟩, c⟩ := x
    simp only [Option.map_some, Option.some.injEq] at h
    obtain ⟨h2, h3⟩ := h2
    dsimp only at h2 h3 h
    subst h2 h3 h
    exact h1
theorem mt_ok_F (o i ci k : Nat) (h : mj_get mt_F o i = some (ci, k)) : mt_Pf ((o, i), (ci, k)) := mt_F_all _ (mj_get_mem h)
theorem mt_ok_P (o i ci k : Nat) (b : Bool) (h : mj_get mt_P o i = some (ci, k, b)) : mt_Pp ((o, i), (ci, k, b)) := mt_P_all _ (mj_get_mem h)
theorem mt_ok_LF0 (o i : Nat) (h : mj_get mt_LF o i = some 0) : Cond.fieldLink (mt_cn o) i "java/lang/String" "value" "[B" ∈ mt_TB := (mt_LF_all _ (mj_get_mem h)).1 rfl
theorem mt_ok_LF1 (o i : Nat) (h : mj_get mt_LF o i = some 1) : Cond.fieldLink (mt_cn o) i "java/lang/String" "coder" "B" ∈ mt_TB := (mt_LF_all _ (mj_get_mem h)).2 rfl
theorem mt_ok_S (o i : Nat) (v : Int32) (h : mj_get mt_S o i = some v) : mt_Ps ((o, i), v) := mt_S_all _ (mj_get_mem h)
theorem mt_ok_K (o i : Nat) (v : Value) (h : mj_get mt_K o i = some v) : mt_Pk ((o, i), v) := mt_K_all _ (mj_get_mem h)
theorem mt_ok_N (o i ci : Nat) (h : mj_get mt_N o i = some ci) : mt_Pn ((o, i), ci) := mt_N_all _ (mj_get_mem h)
theorem mt_ok_NA (o i kd : Nat) (h : mj_get mt_NA o i = some kd) : mt_Pa ((o, i), kd) := mt_NA_all _ (mj_get_mem h)
theorem mt_ok_MS (o i mj : Nat) (h : mj_get mt_MS o i = some mj) : mt_Pms ((o, i), mj) := mt_MS_all _ (mj_get_mem h)
theorem mt_ok_MI (o i mj : Nat) (h : mj_get mt_MI o i = some mj) : mt_Pmi ((o, i), mj) := mt_MI_all _ (mj_get_mem h)
theorem mt_ok_MV (o i k : Nat) (rows : List (Nat × Nat)) (h : mj_get mt_MV o i = some (k, rows)) : mt_Pmv ((o, i), (k, rows)) := mt_MV_all _ (mj_get_mem h)
theorem mt_ok_ML (o i mj : Nat) (h : mj_get mt_ML o i = some mj) : mt_Pml ((o, i), mj) := mt_ML_all _ (mj_get_mem h)
theorem mt_ok_sub (q : Nat × Nat) (h : q ∈ mt_sub) : mt_Pb q := mt_sub_all q h
theorem mt_on_all : ∀ r ∈ mt_T, mt_cn r.2.2.2.2.1 = r.1.cls := by decide +kernel
theorem mt_ok_on (mi : Nat) : mt_cn (mt_on mi) = (mt_y mi).cls := by
  by_cases h : mi < mt_T.length
  · have h1 : mt_row mi ∈ mt_T := by
      refine List.mem_of_getElem? (i := mi) ?_
      simp [mt_row, List.getD, h]
    exact mt_on_all _ h1
  · have h1 : mt_row mi = (⟨"", "", ""⟩, ⟨#[]⟩, 0, none, 0, 0) := by
      simp [mt_row, List.getD, h]
    show mt_cn (mt_row mi).2.2.2.2.1 = (mt_row mi).1.cls
    rw [h1]
    rfl
theorem mt_ok_in : ∀ (ci : Nat) (r : vw_C), mt_cl[ci]? = some r → Cond.instantiable r.1 r.2.2 ∈ mt_TB
  | 0, _, h => by cases h; exact mt_in 24 (by decide +kernel) rfl
  | 1, _, h => by cases h; exact mt_in 487 (by decide +kernel) rfl
  | 2, _, h => by cases h; exact mt_in 32 (by decide +kernel) rfl
  | 3, _, h => by cases h; exact mt_in 354 (by decide +kernel) rfl
  | 4, _, h => by cases h; exact mt_in 332 (by decide +kernel) rfl
  | 5, _, h => by cases h; exact mt_in 503 (by decide +kernel) rfl
  | 6, _, h => by cases h; exact mt_in 295 (by decide +kernel) rfl
  | 7, _, h => by cases h; exact mt_in 116 (by decide +kernel) rfl
  | 8, _, h => by cases h; exact mt_in 143 (by decide +kernel) rfl
  | 9, _, h => by cases h; exact mt_in 467 (by decide +kernel) rfl
  | 10, _, h => by cases h; exact mt_in 80 (by decide +kernel) rfl
  | 11, _, h => by cases h; exact mt_in 736 (by decide +kernel) rfl
  | n + 12, _, h => by simp [mt_cl] at h
end
section
/-! A small machine over a pure heap, that reads the claim's own bytes. A heap: (how many cells, how many slots, (kind, length) of a cell, its ints, its references).
Kinds: below 100 an object of that class; 100 int[], 101 boolean[], 102 char[]; 200 and on: an array of references. A value .retAddr k stands for a thing that was there before: 0 the script, 2i+1 the i-th literal, 2i+2 its bytes. -/
abbrev MH : Type := Nat × Nat × (Nat → Nat × Nat) × (Nat → Nat → Int32) × (Nat → Nat → Option Nat)
abbrev MFr : Type := Nat × List (Option Value) × List Value × MH
abbrev MOut : Type := MFr ⊕ ((Nat × List Value × Nat × List Value) ⊕ Option Value)
def mj_z (h : MH) : Nat := h.1
def mj_u (h : MH) : Nat := h.2.1
def mj_m (h : MH) (a : Nat) : Nat × Nat := h.2.2.1 a
def mj_i (h : MH) (a k : Nat) : Int32 := h.2.2.2.1 a k
def mj_r (h : MH) (a k : Nat) : Option Nat := h.2.2.2.2 a k
/-- a row of ints is written -/
def mj_wa (h : MH) (a : Nat) (f : Nat → Int32) : MH := (h.1, h.2.1, h.2.2.1, va_up h.2.2.2.1 a f, h.2.2.2.2)
/-- an int is written -/
def mj_wi (h : MH) (a k : Nat) (x : Int32) : MH := mj_wa h a (upd (mj_i h a) k x)
/-- a reference is written -/
def mj_wr (h : MH) (a k : Nat) (x : Option Nat) : MH := (h.1, h.2.1, h.2.2.1, h.2.2.2.1, va_up h.2.2.2.2 a (va_up (mj_r h a) k x))
/-- a new cell -/
def mj_nw (h : MH) (kd n : Nat) : MH := (h.1 + 1, h.2.1 + n, va_up h.2.2.1 h.1 (kd, n), va_up h.2.2.2.1 h.1 (fun _ => 0), va_up h.2.2.2.2 h.1 (fun _ => none))
def mj_rv (r : Option Nat) : Value := match r with
  | none => .null
  | some a => .ref a
def mj_rd (h : MH) (ci a k : Nat) : Value := if mj_fr ci k then mj_rv (mj_r h a k) else .int (mj_i h a k)
def mj_fit (ty : FieldType) (x : Int32) : Bool := decide (narrow ty (.int x) = .int x) && fits ty (.int x)
def mj_in (i : Int32) (n : Nat) : Bool := !(decide (i < 0)) && decide (i.toNatClampNeg < n)
def mj_nx (pc : Nat) (ls : List (Option Value)) (st : List Value) (h : MH) : Option MOut := some (.inl (pc, ls, st, h))
def mj_un (n pc : Nat) (ls : List (Option Value)) (st : List Value) (h : MH) (f : Int32 → Int32) : Option MOut := if n = 1 then (match st with
  | .int x :: r => mj_nx (pc + 1) ls (.int (f x) :: r) h
  | _ => none) else none
def mj_bi (n pc : Nat) (ls : List (Option Value)) (st : List Value) (h : MH) (ok : Int32 → Bool) (f : Int32 → Int32 → Int32) : Option MOut := if n = 1 then (match st with
  | .int y :: .int x :: r => if ok y = true then mj_nx (pc + 1) ls (.int (f x y) :: r) h else none
  | _ => none) else none
def mj_to (pc : Nat) (off : Int) : Nat := ((pc : Int) + off).toNat
def mj_ok (pc : Nat) (off : Int) : Bool := decide (0 ≤ (pc : Int) + off)
def mj_if (n pc : Nat) (off : Int) (b : Bool) (ls : List (Option Value)) (st : List Value) (h : MH) : Option MOut := if n = 3 ∧ mj_ok pc off = true then (if b = true then mj_nx (mj_to pc off) ls st h else mj_nx (pc + 3) ls st h) else none
def mj_i1 (n pc : Nat) (off : Int) (f : Int32 → Bool) (ls : List (Option Value)) (st : List Value) (h : MH) : Option MOut := match st with
  | .int x :: r => mj_if n pc off (f x) ls r h
  | _ => none
def mj_i2 (n pc : Nat) (off : Int) (f : Int32 → Int32 → Bool) (ls : List (Option Value)) (st : List Value) (h : MH) : Option MOut := match st with
  | .int y :: .int x :: r => mj_if n pc off (f x y) ls r h
  | _ => none
def mj_nul (n pc : Nat) (off : Int) (b : Bool) (ls : List (Option Value)) (st : List Value) (h : MH) : Option MOut := match st with
  | .null :: r => mj_if n pc off b ls r h
  | .ref _ :: r => mj_if n pc off (!b) ls r h
  | _ => none
def mj_li (i len pc n : Nat) (ls : List (Option Value)) (st : List Value) (h : MH) : Option MOut := if n = len then (match ls.getD i none with
  | some (.int x) => mj_nx (pc + len) ls (.int x :: st) h
  | _ => none) else none
def mj_la (i len pc n : Nat) (ls : List (Option Value)) (st : List Value) (h : MH) : Option MOut := if n = len then (match ls.getD i none with
  | some .null => mj_nx (pc + len) ls (.null :: st) h
  | some (.ref a) => mj_nx (pc + len) ls (.ref a :: st) h
  | some (.retAddr a) => mj_nx (pc + len) ls (.retAddr a :: st) h
  | _ => none) else none
def mj_si (i len pc n : Nat) (ls : List (Option Value)) (st : List Value) (h : MH) : Option MOut := if n = len ∧ i < ls.length then (match st with
  | .int x :: r => mj_nx (pc + len) (ls.set i (some (.int x))) r h
  | _ => none) else none
def mj_sa (i len pc n : Nat) (ls : List (Option Value)) (st : List Value) (h : MH) : Option MOut := if n = len ∧ i < ls.length then (match st with
  | .null :: r => mj_nx (pc + len) (ls.set i (some .null)) r h
  | .ref a :: r => mj_nx (pc + len) (ls.set i (some (.ref a))) r h
  | .retAddr a :: r => mj_nx (pc + len) (ls.set i (some (.retAddr a))) r h
  | _ => none) else none
def mj_inc (i n pc : Nat) (k : Int) (ls : List (Option Value)) (st : List Value) (h : MH) : Option MOut := if n = 3 ∧ i < ls.length then (match ls.getD i none with
  | some (.int x) => mj_nx (pc + 3) (ls.set i (some (.int (x + Int32.ofInt k)))) st h
  | _ => none) else none
def mj_kd (h : MH) (a kd : Nat) (i : Int32) : Bool := decide (a < mj_z h) && decide ((mj_m h a).1 = kd) && mj_in i (mj_m h a).2
def mj_ald (kd n pc : Nat) (ls : List (Option Value)) (st : List Value) (h : MH) : Option MOut := if n = 1 then (match st with
  | .int i :: .ref a :: r => if mj_kd h a kd i = true then mj_nx (pc + 1) ls (.int (mj_i h a i.toNatClampNeg) :: r) h else none
  | _ => none) else none
def mj_ast (kd n pc : Nat) (f : Int32 → Int32) (ls : List (Option Value)) (st : List Value) (h : MH) : Option MOut := if n = 1 then (match st with
  | .int x :: .int i :: .ref a :: r => if mj_kd h a kd i = true then mj_nx (pc + 1) ls r (mj_wi h a i.toNatClampNeg (f x)) else none
  | _ => none) else none
/-- the script's and the literals' bytes -/
def mj_lit (i j : Nat) : Int32 := (mt_lits.getD i []).getD j 0
def mj_c1 (v : Value) : Bool := v.category == 1
def mj_call (pc n mj : Nat) (as rest : List Value) : Option MOut := if n = 3 ∧ rest.length ≤ 8 ∧ rest.all mj_c1 = true ∧ as.all mj_c1 = true ∧ as.length = mt_n mj then some (.inr (.inl (mj, as, pc + 3, rest))) else none
def mj_ent (mj : Nat) (as : List Value) : List (Option Value) := as.map some ++ List.replicate (mt_L mj - as.length) none
def mj_cpy (n pc : Nat) (ls : List (Option Value)) (st : List Value) (h : MH) : Option MOut := if n = 3 then (match st with
  | .int k :: .int dp :: .ref a1 :: .int sp :: .ref a0 :: r =>
    if (decide (r.length ≤ 8) && decide (a0 < mj_z h) && decide (a1 < mj_z h) && decide ((mj_m h a0).1 = (mj_m h a1).1) && (decide ((mj_m h a0).1 = 100) || (decide ((mj_m h a0).1 = 102) && (List.range k.toNatClampNeg).all (fun i => fits .char (.int (mj_i h a0 (sp.toNatClampNeg + i))))))
      && !(decide (sp < 0)) && !(decide (dp < 0)) && !(decide (k < 0)) && decide (sp.toNatClampNeg + k.toNatClampNeg ≤ (mj_m h a0).2) && decide (dp.toNatClampNeg + k.toNatClampNeg ≤ (mj_m h a1).2)) = true
    then mj_nx (pc + 3) ls r (mj_wa h a1 (va_cpy (mj_i h a0) (mj_i h a1) sp.toNatClampNeg dp.toNatClampNeg k.toNatClampNeg)) else none
  | _ => none) else none
def mj_ivs (mi pc n idx : Nat) (ls : List (Option Value)) (st : List Value) (h : MH) : Option MOut := match mj_get mt_MS (mt_on mi) idx with
  | none => none
  | some mj => if mj = 9999 then mj_cpy n pc ls st h else mj_call pc n mj (st.take (mt_n mj)).reverse (st.drop (mt_n mj))
def mj_ivp (mi pc n idx : Nat) (ls : List (Option Value)) (st : List Value) (h : MH) : Option MOut := match mj_get mt_MI (mt_on mi) idx with
  | none => none
  | some mj => if mj = 9999 then (match st with
      | .ref _ :: r => if n = 3 ∧ r.length ≤ 8 then mj_nx (pc + 3) ls r h else none
      | _ => none) else (match (st.take (mt_n mj)).reverse with
      | .ref a :: as => mj_call pc n mj (.ref a :: as) (st.drop (mt_n mj))
      | _ => none)
def mj_ivl (mi pc n idx : Nat) (st : List Value) : Option MOut := match mj_get mt_ML (mt_on mi) idx with
  | none => none
  | some mj => match (st.take (mt_n mj)).reverse with
    | .retAddr a :: as => if a % 2 = 1 ∧ a < 2 * mt_lits.length then mj_call pc n mj (.retAddr a :: as) (st.drop (mt_n mj)) else none
    | _ => none
/-- (receiver's class, method) -/
def mj_ivv (mi pc n idx : Nat) (st : List Value) (h : MH) : Option MOut := match mj_get mt_MV (mt_on mi) idx with
  | none => mj_ivl mi pc n idx st
  | some (k, rows) => match (st.take k).reverse with
    | .ref a :: as => if a < mj_z h then (match rows.find? (fun q => q.1 == (mj_m h a).1) with
        | some q => mj_call pc n q.2 (.ref a :: as) (st.drop k)
        | none => none) else none
    | _ => none
def mj_gf (mi pc n idx : Nat) (ls : List (Option Value)) (st : List Value) (h : MH) : Option MOut := if n = 3 then (match st with
  | .ref a :: r => (match mj_get mt_F (mt_on mi) idx with
    | some (ci, k) => if a < mj_z h ∧ mj_m h a = (ci, (mt_cf ci).length) ∧ k < (mt_cf ci).length then mj_nx (pc + 3) ls (mj_rd h ci a k :: r) h else none
    | none => none)
  | .retAddr a :: r => if a % 2 = 1 ∧ a < 2 * mt_lits.length then (match mj_get mt_LF (mt_on mi) idx with
    | some 0 => mj_nx (pc + 3) ls (.retAddr (a + 1) :: r) h
    | some 1 => mj_nx (pc + 3) ls (.int 0 :: r) h
    | _ => none) else none
  | _ => none) else none
def mj_pf (mi pc n idx : Nat) (ls : List (Option Value)) (st : List Value) (h : MH) : Option MOut := if n = 3 then (match mj_get mt_P (mt_on mi) idx with
  | some (ci, k, b) => if (!b || (mt_y mi).name == "<init>") = true then (match st with
    | .int x :: .ref a :: r => if a < mj_z h ∧ mj_m h a = (ci, (mt_cf ci).length) ∧ k < (mt_cf ci).length ∧ mj_fr ci k = false ∧ mj_fit ((mt_cf ci).getD k .int) x = true then mj_nx (pc + 3) ls r (mj_wi h a k x) else none
    | .null :: .ref a :: r => if a < mj_z h ∧ mj_m h a = (ci, (mt_cf ci).length) ∧ k < (mt_cf ci).length ∧ mj_fr ci k = true then mj_nx (pc + 3) ls r (mj_wr h a k none) else none
    | .ref b :: .ref a :: r => if a < mj_z h ∧ mj_m h a = (ci, (mt_cf ci).length) ∧ k < (mt_cf ci).length ∧ mj_fr ci k = true then mj_nx (pc + 3) ls r (mj_wr h a k (some b)) else none
    | _ => none) else none
  | none => none) else none
def mj_len (L n pc : Nat) (ls : List (Option Value)) (st : List Value) (h : MH) : Option MOut := if n = 1 then (match st with
  | .ref a :: r => if a < mj_z h ∧ 100 ≤ (mj_m h a).1 ∧ mt_ty.any (fun q => q.1 == (mj_m h a).1) = true then mj_nx (pc + 1) ls (.int (Int32.ofNat (mj_m h a).2) :: r) h else none
  | .retAddr a :: r => if a = 0 then mj_nx (pc + 1) ls (.int (Int32.ofNat L) :: r) h else if a % 2 = 0 ∧ a ≤ 2 * mt_lits.length then mj_nx (pc + 1) ls (.int (Int32.ofNat (mt_lits.getD (a / 2 - 1) []).length) :: r) h else none
  | _ => none) else none
def mj_ial (L : Nat) (xs : Nat → Int32) (n pc : Nat) (ls : List (Option Value)) (st : List Value) (h : MH) : Option MOut := match st with
  | .int i :: .retAddr 0 :: r => if n = 1 ∧ mj_in i L = true then mj_nx (pc + 1) ls (.int (xs i.toNatClampNeg) :: r) h else none
  | _ => mj_ald 100 n pc ls st h
def mj_bal (n pc : Nat) (ls : List (Option Value)) (st : List Value) (h : MH) : Option MOut := match st with
  | .int i :: .retAddr a :: r => if n = 1 ∧ a % 2 = 0 ∧ 0 < a ∧ a ≤ 2 * mt_lits.length ∧ mj_in i (mt_lits.getD (a / 2 - 1) []).length = true then mj_nx (pc + 1) ls (.int (mj_lit (a / 2 - 1) i.toNatClampNeg) :: r) h else none
  | _ => mj_ald 101 n pc ls st h
def mj_aal (n pc : Nat) (ls : List (Option Value)) (st : List Value) (h : MH) : Option MOut := if n = 1 then (match st with
  | .int i :: .ref a :: r => if (mj_kd h a 200 i || mj_kd h a 201 i) = true then mj_nx (pc + 1) ls (mj_rv (mj_r h a i.toNatClampNeg) :: r) h else none
  | _ => none) else none
def mj_aas (n pc : Nat) (ls : List (Option Value)) (st : List Value) (h : MH) : Option MOut := if n = 1 then (match st with
  | .ref b :: .int i :: .ref a :: r => if b < mj_z h ∧ mt_sub.any (fun q => q.1 == (mj_m h b).1 && q.2 == (mj_m h a).1) = true ∧ mj_kd h a (mj_m h a).1 i = true then mj_nx (pc + 1) ls r (mj_wr h a i.toNatClampNeg (some b)) else none
  | _ => none) else none
def mj_na (kd n len pc : Nat) (ls : List (Option Value)) (st : List Value) (h : MH) : Option MOut := if n = len then (match st with
  | .int k :: r => if ¬ k < 0 ∧ k.toNatClampNeg ≤ 65536 then mj_nx (pc + len) ls (.ref (mj_z h) :: r) (mj_nw h kd k.toNatClampNeg) else none
  | _ => none) else none
def mj_new (mi pc n idx : Nat) (ls : List (Option Value)) (st : List Value) (h : MH) : Option MOut := match mj_get mt_N (mt_on mi) idx with
  | some ci => if n = 3 then mj_nx (pc + 3) ls (.ref (mj_z h) :: st) (mj_nw h ci (mt_cf ci).length) else none
  | none => none
def mj_d1 (n pc : Nat) (ls : List (Option Value)) (st : List Value) (h : MH) : Option MOut := if n = 1 then (match st with
  | v :: r => if (v.category == 1) = true then mj_nx (pc + 1) ls (v :: v :: r) h else none
  | _ => none) else none
def mj_d2 (n pc : Nat) (ls : List (Option Value)) (st : List Value) (h : MH) : Option MOut := if n = 1 then (match st with
  | v :: w :: r => if (v.category == 1 && w.category == 1) = true then mj_nx (pc + 1) ls (v :: w :: v :: w :: r) h else none
  | _ => none) else none
def mj_p1 (n pc : Nat) (ls : List (Option Value)) (st : List Value) (h : MH) : Option MOut := if n = 1 then (match st with
  | v :: r => if (v.category == 1) = true then mj_nx (pc + 1) ls r h else none
  | _ => none) else none
def mj_ldc (mi pc n len idx : Nat) (ls : List (Option Value)) (st : List Value) (h : MH) : Option MOut := match mj_get mt_K (mt_on mi) idx with
  | some v => if n = len then mj_nx (pc + len) ls (v :: st) h else none
  | none => none
def mj_ldw (mi pc n idx : Nat) (ls : List (Option Value)) (st : List Value) (h : MH) : Option MOut := match mj_get mt_K (mt_on mi) idx with
  | some (.int x) => if n = 3 then mj_nx (pc + 3) ls (.int x :: st) h else none
  | _ => none
def mj_gs (mi pc n idx : Nat) (ls : List (Option Value)) (st : List Value) (h : MH) : Option MOut := match mj_get mt_S (mt_on mi) idx with
  | some v => if n = 3 then mj_nx (pc + 3) ls (.int v :: st) h else none
  | none => none
def mj_tsw (pc : Nat) (dflt lo hi : Int) (offs : Array Int) (ls : List (Option Value)) (st : List Value) (h : MH) : Option MOut := match st with
  | .int x :: r => if x.toInt < lo ∨ hi < x.toInt then (if mj_ok pc dflt = true then mj_nx (mj_to pc dflt) ls r h else none)
    else (match offs[(x.toInt - lo).toNat]? with
      | some off => if mj_ok pc off = true then mj_nx (mj_to pc off) ls r h else none
      | none => none)
  | _ => none
def mj_lsw (pc : Nat) (dflt : Int) (ps : Array (Int × Int)) (ls : List (Option Value)) (st : List Value) (h : MH) : Option MOut := match st with
  | .int x :: r => if (ps.toList.zip (ps.toList.drop 1)).all (fun (a, next) => a.1 < next.1) = true ∧ mj_ok pc (Op.lookupswitch.offset ps.toList dflt x.toInt) = true then mj_nx (mj_to pc (Op.lookupswitch.offset ps.toList dflt x.toInt)) ls r h else none
  | _ => none
def mj_vr (mi n : Nat) (st : List Value) : Option MOut := if n = 1 then (match mt_ret mi, st with
  | none, [] => some (.inr (.inr none))
  | _, _ => none) else none
def mj_ir (mi n : Nat) (st : List Value) : Option MOut := if n = 1 then (match mt_ret mi, st with
  | some ty, [.int x] => if mj_fit ty x = true ∧ mj_isR ty = false then some (.inr (.inr (some (.int x)))) else none
  | _, _ => none) else none
def mj_ar (mi n : Nat) (st : List Value) : Option MOut := if n = 1 then (match mt_ret mi, st with
  | some ty, [.ref a] => if mj_isR ty = true then some (.inr (.inr (some (.ref a)))) else none
  | _, _ => none) else none
def mj_ex (L : Nat) (xs : Nat → Int32) (mi pc : Nat) (ls : List (Option Value)) (st : List Value) (h : MH) (i : ClassFile.Instr) (n : Nat) : Option MOut := match i with
  | .iconst k => if n = 1 then mj_nx (pc + 1) ls (.int (Int32.ofInt k) :: st) h else none
  | .bipush k => if n = 2 then mj_nx (pc + 2) ls (.int (Int8.ofInt k).toInt32 :: st) h else none
  | .sipush k => if n = 3 then mj_nx (pc + 3) ls (.int (Int16.ofInt k).toInt32 :: st) h else none
  | .aconst_null => if n = 1 then mj_nx (pc + 1) ls (.null :: st) h else none
  | .ldc idx => mj_ldc mi pc n 2 idx ls st h
  | .ldc_w idx => mj_ldw mi pc n idx ls st h
  | .iload i => mj_li i 2 pc n ls st h
  | .iload_n i => mj_li i.val 1 pc n ls st h
  | .aload i => mj_la i 2 pc n ls st h
  | .aload_n i => mj_la i.val 1 pc n ls st h
  | .istore i => mj_si i 2 pc n ls st h
  | .istore_n i => mj_si i.val 1 pc n ls st h
  | .astore i => mj_sa i 2 pc n ls st h
  | .astore_n i => mj_sa i.val 1 pc n ls st h
  | .iinc i k => mj_inc i n pc k ls st h
  | .iadd => mj_bi n pc ls st h (fun _ => true) (fun x y => x + y)
  | .isub => mj_bi n pc ls st h (fun _ => true) (fun x y => x - y)
  | .imul => mj_bi n pc ls st h (fun _ => true) (fun x y => x * y)
  | .iand => mj_bi n pc ls st h (fun _ => true) (fun x y => x &&& y)
  | .ior => mj_bi n pc ls st h (fun _ => true) (fun x y => x ||| y)
  | .ixor => mj_bi n pc ls st h (fun _ => true) (fun x y => x ^^^ y)
  | .ishl => mj_bi n pc ls st h (fun _ => true) (fun x y => x <<< (y &&& 31))
  | .ishr => mj_bi n pc ls st h (fun _ => true) (fun x y => x >>> (y &&& 31))
  | .iushr => mj_bi n pc ls st h (fun _ => true) (fun x y => (x.toUInt32 >>> (y.toUInt32 &&& Int32.toUInt32 31)).toInt32)
  | .idiv => mj_bi n pc ls st h (fun y => !(y == 0)) (fun x y => x / y)
  | .irem => mj_bi n pc ls st h (fun y => !(y == 0)) (fun x y => x - x / y * y)
  | .ineg => mj_un n pc ls st h (fun x => -x)
  | .i2c => mj_un n pc ls st h (fun x => (x.toUInt32 % 65536).toInt32)
  | .i2b => mj_un n pc ls st h (fun x => x.toInt8.toInt32)
  | .goto off => if n = 3 ∧ mj_ok pc off = true then mj_nx (mj_to pc off) ls st h else none
  | .ifCond .eq off => mj_i1 n pc off (fun x => decide (x = 0)) ls st h
  | .ifCond .ne off => mj_i1 n pc off (fun x => decide (¬ x = 0)) ls st h
  | .ifCond .lt off => mj_i1 n pc off (fun x => decide (x < 0)) ls st h
  | .ifCond .ge off => mj_i1 n pc off (fun x => decide (0 ≤ x)) ls st h
  | .ifCond .gt off => mj_i1 n pc off (fun x => decide (0 < x)) ls st h
  | .ifCond .le off => mj_i1 n pc off (fun x => decide (x ≤ 0)) ls st h
  | .if_icmp .eq off => mj_i2 n pc off (fun x y => decide (x = y)) ls st h
  | .if_icmp .ne off => mj_i2 n pc off (fun x y => decide (¬ x = y)) ls st h
  | .if_icmp .lt off => mj_i2 n pc off (fun x y => decide (x < y)) ls st h
  | .if_icmp .ge off => mj_i2 n pc off (fun x y => decide (y ≤ x)) ls st h
  | .if_icmp .gt off => mj_i2 n pc off (fun x y => decide (y < x)) ls st h
  | .if_icmp .le off => mj_i2 n pc off (fun x y => decide (x ≤ y)) ls st h
  | .ifnull off => mj_nul n pc off true ls st h
  | .ifnonnull off => mj_nul n pc off false ls st h
  | .dup => mj_d1 n pc ls st h
  | .dup2 => mj_d2 n pc ls st h
  | .pop => mj_p1 n pc ls st h
  | .getfield idx => mj_gf mi pc n idx ls st h
  | .putfield idx => mj_pf mi pc n idx ls st h
  | .getstatic idx => mj_gs mi pc n idx ls st h
  | .iaload => mj_ial L xs n pc ls st h
  | .baload => mj_bal n pc ls st h
  | .caload => mj_ald 102 n pc ls st h
  | .aaload => mj_aal n pc ls st h
  | .iastore => mj_ast 100 n pc (fun x => x) ls st h
  | .bastore => mj_ast 101 n pc (fun x => vp_nar .boolean x) ls st h
  | .castore => mj_ast 102 n pc (fun x => vp_nar .char x) ls st h
  | .aastore => mj_aas n pc ls st h
  | .arraylength => mj_len L n pc ls st h
  | .newarray .int => mj_na 100 n 2 pc ls st h
  | .newarray .boolean => mj_na 101 n 2 pc ls st h
  | .newarray .char => mj_na 102 n 2 pc ls st h
  | .anewarray idx => (match mj_get mt_NA (mt_on mi) idx with
    | some kd => mj_na kd n 3 pc ls st h
    | none => none)
  | .new idx => mj_new mi pc n idx ls st h
  | .tableswitch dflt lo hi offs => mj_tsw pc dflt lo hi offs ls st h
  | .lookupswitch dflt ps => mj_lsw pc dflt ps ls st h
  | .invokestatic idx => mj_ivs mi pc n idx ls st h
  | .invokespecial idx => mj_ivp mi pc n idx ls st h
  | .invokevirtual idx => mj_ivv mi pc n idx st h
  | .return_ => mj_vr mi n st
  | .ireturn => mj_ir mi n st
  | .areturn => mj_ar mi n st
  | _ => none
def mj_ft (mi pc : Nat) : Option (ClassFile.Instr × Nat) := match decode (mt_b mi) pc with
  | .ok x => some x
  | .error _ => none
/-- n: how many instructions at most; d: how many frames above this one -/
def mj_run (L : Nat) (xs : Nat → Int32) : (n d mi pc : Nat) → (ls : List (Option Value)) → (st : List Value) → (h : MH) → Option (Option Value × MH)
  | 0, _, _, _, _, _, _ => none
  | n + 1, d, mi, pc, ls, st, h => match mj_ft mi pc with
    | none => none
    | some (i, len) => match mj_ex L xs mi pc ls st h i len with
      | none => none
      | some (.inl f) => mj_run L xs n d mi f.1 f.2.1 f.2.2.1 f.2.2.2
      | some (.inr (.inr v)) => some (v, h)
      | some (.inr (.inl q)) => match d with
        | 0 => none
        | d + 1 => match mj_run L xs n d q.1 0 (mj_ent q.1 q.2.1) [] h with
          | none => none
          | some r => mj_run L xs n (d + 1) mi q.2.2.1 ls (r.1.toList ++ q.2.2.2) r.2
def mj_Wp (L : Nat) (xs : Nat → Int32) (d mi pc : Nat) (ls : List (Option Value)) (st : List Value) (h : MH) (Q : Option Value × MH → Prop) : Prop := ∃ n r, mj_run L xs n d mi pc ls st h = some r ∧ Q r
end
section
/-! The small machine's heap as the kit's worlds. g: (the first address, the classes' numbers, the array classes, where things stood before, the script's length and ints) -/
abbrev mj_G : Type := Nat × va_G × (Nat → ClassId) × (Nat → Nat) × Nat × (Nat → Int32)
def mj_A (g : mj_G) : Nat → Prop := fun q => g.1 ≤ q
def mj_v (g : mj_G) : Value → Value
  | .ref a => .ref (g.1 + a)
  | .retAddr k => .ref (g.2.2.2.1 k)
  | v => v
def mj_fs (g : mj_G) (h : MH) (ci n a : Nat) : List Value := (List.range n).map (fun k => mj_v g (mj_rd h ci a k))
def mj_e (g : mj_G) (h : MH) (a : Nat) : va_E := if (mj_m h a).1 < 100 then .inr ((mj_m h a).1, mj_fs g h (mj_m h a).1 (mj_m h a).2 a)
  else if (mj_m h a).1 < 200 then .inl (g.2.2.1 (mj_m h a).1, (mj_m h a).2, .inl (mj_i h a))
  else .inl (g.2.2.1 (mj_m h a).1, (mj_m h a).2, .inr (.inr (.inr (.inr (fun j => (mj_r h a j).map (fun x => g.1 + x))))))
def mj_ws (g : mj_G) (h : MH) : va_W := (List.range (mj_z h)).map (fun a => (g.1 + a, mj_e g h a))
theorem mj_ws_at {g : mj_G} {h : MH} {a : Nat} (ha : a < mj_z h) : (mj_ws g h)[a]? = some (g.1 + a, mj_e g h a) := by
  simp [mj_ws, ha]
theorem mj_ws_set {g : mj_G} {h h' : MH} {a : Nat} (hz : mj_z h' = mj_z h) (ho : ∀ i, i ≠ a → mj_e g h' i = mj_e g h i) : mj_ws g h' = (mj_ws g h).set a (g.1 + a, mj_e g h' a) := by
  apply List.ext_getElem?
  intro i
  by_cases hi : i < mj_z h
  · rw [mj_ws_at (by rw [hz]; exact hi)]
    by_cases hia : i = a
    · subst hia
      rw [List.getElem?_set_self (by simp [mj_ws, hi])]
    · rw [List.getElem?_set_ne (Ne.symm hia), mj_ws_at hi, ho i hia]
  · rw [List.getElem?_eq_none (by simp [mj_ws, hz]; omega), List.getElem?_eq_none (by simp [mj_ws]; omega)]
theorem mj_ws_nw {g : mj_G} {h h' : MH} (hz : mj_z h' = mj_z h + 1) (ho : ∀ i, i < mj_z h → mj_e g h' i = mj_e g h i) : mj_ws g h' = mj_ws g h ++ [(g.1 + mj_z h, mj_e g h' (mj_z h))] := by
  unfold mj_ws
  rw [hz, List.range_succ, List.map_append]
  congr 1
  apply List.map_congr_left
  intro a ha
  rw [ho a (List.mem_range.mp ha)]
theorem mj_ws_D {g : mj_G} {h : MH} : va_D (mj_A g) (mj_ws g h) := by
  have key : ∀ (k : Nat) (q : Nat × va_E), (mj_ws g h)[k]? = some q → q.1 = g.1 + k := by
    intro k q hk
    by_cases hi : k < mj_z h
    · rw [mj_ws_at hi] at hk
      cases hk
      rfl
    · rw [List.getElem?_eq_none (by simp [mj_ws]; omega)] at hk
      cases hk
  refine ⟨fun i j p q hp hq hpq => ?_, fun k q hk => ?_⟩
  · have h1 := key i p hp
    have h2 := key j q hq
    omega
  · have h1 := key k q hk
    show g.1 ≤ q.1
    omega
/-- the heap holds the pure one -/
def mj_Hp (g : mj_G) (h : MH) (H : Heap) : Prop := H.size = g.1 + mj_z h ∧ va_P g.2.1 mt_cl (mj_ws g h) H
theorem mj_e_obj {g : mj_G} {h : MH} {a ci n : Nat} (hm : mj_m h a = (ci, n)) (hc : ci < 100) : mj_e g h a = .inr (ci, mj_fs g h ci n a) := by
  simp [mj_e, hm, hc]
theorem mj_e_int {g : mj_G} {h : MH} {a kd n : Nat} (hm : mj_m h a = (kd, n)) (h1 : 100 ≤ kd) (h2 : kd < 200) : mj_e g h a = .inl (g.2.2.1 kd, n, .inl (mj_i h a)) := by
  have : ¬ kd < 100 := by omega
  simp [mj_e, hm, this, h2]
theorem mj_e_ref {g : mj_G} {h : MH} {a kd n : Nat} (hm : mj_m h a = (kd, n)) (h1 : 200 ≤ kd) : mj_e g h a = .inl (g.2.2.1 kd, n, .inr (.inr (.inr (.inr (fun j => (mj_r h a j).map (fun x => g.1 + x)))))) := by
  have e1 : ¬ kd < 100 := by omega
  have e2 : ¬ kd < 200 := by omega
  simp [mj_e, hm, e1, e2]
theorem mj_fs_at {g : mj_G} {h : MH} {ci n a k : Nat} (hk : k < n) : (mj_fs g h ci n a)[k]? = some (mj_v g (mj_rd h ci a k)) := by
  simp [mj_fs, hk]
theorem mj_fs_len {g : mj_G} {h : MH} {ci n a : Nat} : (mj_fs g h ci n a).length = n := by simp [mj_fs]
theorem mj_fs_set {g : mj_G} {h h' : MH} {ci n a k : Nat} {v : Value} (hv : mj_v g (mj_rd h' ci a k) = v) (ho : ∀ j, j ≠ k → mj_rd h' ci a j = mj_rd h ci a j) : (mj_fs g h ci n a).set k v = mj_fs g h' ci n a := by
  apply List.ext_getElem?
  intro i
  by_cases hi : i < n
  · rw [mj_fs_at hi]
    by_cases hik : i = k
    · subst hik
      rw [List.getElem?_set_self (by rw [mj_fs_len]; exact hi), hv]
    · rw [List.getElem?_set_ne (Ne.symm hik), mj_fs_at hi, ho i hik]
  · rw [List.getElem?_eq_none (by rw [List.length_set, mj_fs_len]; omega), List.getElem?_eq_none (by rw [mj_fs_len]; omega)]
-- what writing does
theorem mj_wa_z {h : MH} {a : Nat} {f : Nat → Int32} : mj_z (mj_wa h a f) = mj_z h := rfl
theorem mj_wa_u {h : MH} {a : Nat} {f : Nat → Int32} : mj_u (mj_wa h a f) = mj_u h := rfl
theorem mj_wa_m {h : MH} {a b : Nat} {f : Nat → Int32} : mj_m (mj_wa h a f) b = mj_m h b := rfl
theorem mj_wa_r {h : MH} {a b : Nat} {f : Nat → Int32} : mj_r (mj_wa h a f) b = mj_r h b := rfl
theorem mj_wa_i {h : MH} {a : Nat} {f : Nat → Int32} : mj_i (mj_wa h a f) a = f := by
  funext j; simp [mj_i, mj_wa, va_up]
theorem mj_wa_o {h : MH} {a b : Nat} {f : Nat → Int32} (hb : b ≠ a) : mj_i (mj_wa h a f) b = mj_i h b := by
  funext j; simp [mj_i, mj_wa, va_up, hb]
theorem mj_wr_z {h : MH} {a k : Nat} {x : Option Nat} : mj_z (mj_wr h a k x) = mj_z h := rfl
theorem mj_wr_u {h : MH} {a k : Nat} {x : Option Nat} : mj_u (mj_wr h a k x) = mj_u h := rfl
theorem mj_wr_m {h : MH} {a b k : Nat} {x : Option Nat} : mj_m (mj_wr h a k x) b = mj_m h b := rfl
theorem mj_wr_i {h : MH} {a b k : Nat} {x : Option Nat} : mj_i (mj_wr h a k x) b = mj_i h b := rfl
theorem mj_wr_r {h : MH} {a k : Nat} {x : Option Nat} : mj_r (mj_wr h a k x) a = va_up (mj_r h a) k x := by
  funext j; simp [mj_r, mj_wr, va_up]
theorem mj_wr_o {h : MH} {a b k : Nat} {x : Option Nat} (hb : b ≠ a) : mj_r (mj_wr h a k x) b = mj_r h b := by
  funext j; simp [mj_r, mj_wr, va_up, hb]
theorem mj_e_wa {g : mj_G} {h : MH} {a b : Nat} {f : Nat → Int32} (hb : b ≠ a) : mj_e g (mj_wa h a f) b = mj_e g h b := by
  simp [mj_e, mj_wa_m, mj_wa_r, mj_wa_o hb, mj_fs, mj_rd]
theorem mj_e_wr {g : mj_G} {h : MH} {a b k : Nat} {x : Option Nat} (hb : b ≠ a) : mj_e g (mj_wr h a k x) b = mj_e g h b := by
  simp [mj_e, mj_wr_m, mj_wr_i, mj_wr_o hb, mj_fs, mj_rd]
theorem mj_nw_z {h : MH} {kd n : Nat} : mj_z (mj_nw h kd n) = mj_z h + 1 := rfl
theorem mj_nw_u {h : MH} {kd n : Nat} : mj_u (mj_nw h kd n) = mj_u h + n := rfl
theorem mj_nw_m {h : MH} {kd n : Nat} : mj_m (mj_nw h kd n) (mj_z h) = (kd, n) := by simp [mj_m, mj_nw, va_up, mj_z]
theorem mj_nw_i {h : MH} {kd n : Nat} : mj_i (mj_nw h kd n) (mj_z h) = fun _ => 0 := by funext j; simp [mj_i, mj_nw, va_up, mj_z]
theorem mj_nw_r {h : MH} {kd n : Nat} : mj_r (mj_nw h kd n) (mj_z h) = fun _ => none := by funext j; simp [mj_r, mj_nw, va_up, mj_z]
theorem mj_nw_mo {h : MH} {kd n b : Nat} (hb : b ≠ mj_z h) : mj_m (mj_nw h kd n) b = mj_m h b := by
  have : ¬ b = h.1 := hb
  simp [mj_m, mj_nw, va_up, this]
theorem mj_nw_io {h : MH} {kd n b : Nat} (hb : b ≠ mj_z h) : mj_i (mj_nw h kd n) b = mj_i h b := by
  have : ¬ b = h.1 := hb
  funext j; simp [mj_i, mj_nw, va_up, this]
theorem mj_nw_ro {h : MH} {kd n b : Nat} (hb : b ≠ mj_z h) : mj_r (mj_nw h kd n) b = mj_r h b := by
  have : ¬ b = h.1 := hb
  funext j; simp [mj_r, mj_nw, va_up, this]
theorem mj_e_nw {g : mj_G} {h : MH} {kd n b : Nat} (hb : b < mj_z h) : mj_e g (mj_nw h kd n) b = mj_e g h b := by
  have hn : b ≠ mj_z h := by omega
  simp [mj_e, mj_nw_mo hn, mj_nw_io hn, mj_nw_ro hn, mj_fs, mj_rd]
theorem mj_v_rv {g : mj_G} {r : Option Nat} : mj_v g (mj_rv r) = va_rf (r.map (fun x => g.1 + x)) := by
  cases r <;> rfl
theorem mj_v_cat {g : mj_G} {v : Value} (hv : v.category = 1) : (mj_v g v).category = 1 := by
  cases v <;> first | rfl | exact hv
theorem mj_in_vp {i : Int32} {n : Nat} (h : mj_in i n = true) : vp_in i n := by
  simp only [mj_in, Bool.and_eq_true, Bool.not_eq_true', decide_eq_false_iff_not, decide_eq_true_eq] at h
  intro q
  rcases q with q | q
  · exact h.1 q
  · omega
-- locals
def mj_Lo (g : mj_G) (nL : Nat) (ls : List (Option Value)) (rl : Array Slot) : Prop := rl.size = nL ∧ lv_wf rl ∧ ls.length = nL ∧ ∀ (i : Nat) (v : Value), ls[i]? = some (some v) → rl[i]? = some (.val (mj_v g v)) ∧ v.category = 1
def mj_lv (g : mj_G) (ls : List (Option Value)) : List (Nat × Value) := (List.range ls.length).filterMap (fun i => (ls.getD i none).map (fun v => (i, mj_v g v)))
theorem mj_lv_mem {g : mj_G} {ls : List (Option Value)} {i : Nat} {v : Value} (h : ls[i]? = some (some v)) : (i, mj_v g v) ∈ mj_lv g ls := by
  unfold mj_lv
  refine List.mem_filterMap.mpr ⟨i, List.mem_range.mpr (List.getElem?_eq_some_iff.mp h).1, ?_⟩
  simp [List.getD, h]
theorem mj_lv_of {g : mj_G} {ls : List (Option Value)} {q : Nat × Value} (h : q ∈ mj_lv g ls) : ∃ v, ls[q.1]? = some (some v) ∧ q.2 = mj_v g v := by
  unfold mj_lv at h
  obtain ⟨i, hi, he⟩ := List.mem_filterMap.mp h
  have hl := List.mem_range.mp hi
  have e1 : ls.getD i none = ls[i] := by simp [List.getD, hl]
  rw [e1] at he
  cases hv : ls[i] with
  | none => rw [hv] at he; simp at he
  | some v =>
    rw [hv] at he
    simp only [Option.map_some, Option.some.injEq] at he
    subst he
    exact ⟨v, by rw [List.getElem?_eq_getElem hl, hv], rfl⟩
theorem mj_lv_has {g : mj_G} {nL : Nat} {ls : List (Option Value)} {rl : Array Slot} (h : mj_Lo g nL ls rl) : lv_has rl nL (mj_lv g ls) := by
  obtain ⟨h1, h2, h3, h4⟩ := h
  refine ⟨h1, h2, fun q hq => ?_⟩
  obtain ⟨v, e1, e2⟩ := mj_lv_of hq
  rw [e2]
  exact (h4 q.1 v e1).1
theorem mj_Lo_set {g : mj_G} {nL i : Nat} {ls : List (Option Value)} {rl rl' : Array Slot} {v : Value} (h : mj_Lo g nL ls rl) (hi : i < ls.length) (hv : v.category = 1)
    (h' : lv_has rl' nL ((i, mj_v g v) :: (mj_lv g ls).filter (fun q => !(q.1 == i) && !(q.1 + 1 == i && q.2.category == 2)))) : mj_Lo g nL (ls.set i (some v)) rl' := by
  obtain ⟨h1, h2, h3, h4⟩ := h
  obtain ⟨g1, g2, g3⟩ := h'
  refine ⟨g1, g2, by rw [List.length_set]; exact h3, fun j w hj => ?_⟩
  by_cases hji : j = i
  · subst hji
    rw [List.getElem?_set_self hi] at hj
    cases hj
    exact ⟨g3 (j, mj_v g v) List.mem_cons_self, hv⟩
  · rw [List.getElem?_set_ne (Ne.symm hji)] at hj
    obtain ⟨f1, f2⟩ := h4 j w hj
    refine ⟨g3 (j, mj_v g w) (List.mem_cons_of_mem _ (List.mem_filter.mpr ⟨mj_lv_mem hj, ?_⟩)), f2⟩
    have f3 : (mj_v g w).category = 1 := mj_v_cat f2
    simp [hji, f3]
theorem mj_Lo_get {g : mj_G} {nL i : Nat} {ls : List (Option Value)} {rl : Array Slot} {v : Value} (h : mj_Lo g nL ls rl) (hv : ls.getD i none = some v) : rl[i]? = some (.val (mj_v g v)) := by
  refine (h.2.2.2 i v ?_).1
  simp only [List.getD] at hv
  cases hq : ls[i]? with
  | none => rw [hq] at hv; simp at hv
  | some o => rw [hq] at hv; simp at hv; rw [hv]
end
section
/-! What must hold for the small machine to speak of the true one; its steps, one by one. -/
def mj_tys (g : mj_G) : List (ClassId × FieldType) := mt_ty.map (fun q => (g.2.2.1 q.1, q.2))
def mj_Tab (g : mj_G) (U : State) : Prop := va_K g.2.1 mt_cl (mj_tys g) U ∧ (∀ w ∈ mt_NW, va_Nw w U) ∧ va_X (g.2.2.2.1 0) g.2.2.2.2.1 g.2.2.2.2.2 U U.heap ∧ g.2.2.2.1 0 < g.1
  ∧ vk_S mt_lits.length (mt_lits.map List.length) mt_lits (fun i => g.2.2.2.1 (2 * i + 1)) (fun i => g.2.2.2.1 (2 * i + 2)) (mj_A g) U U.heap
  ∧ (∀ q ∈ mt_KS, vk_R q.1 q.2.1 q.2.2.1 (g.2.2.2.1 (2 * q.2.2.2 + 1)) U)
  ∧ (∀ q ∈ mt_SZ, va_Z q.1 q.2.1 q.2.2.1 (.int q.2.2.2) (mj_A g) U U.heap)
  ∧ (∀ C ∈ mt_AO, va_AO C U)
theorem mj_Tab_mv {g : mj_G} {s U : State} (h : mj_Tab g s) (hW : s.WarmedH U.vm) (hz : g.1 ≤ s.heap.size) (hq : ∀ q : Nat, q < s.heap.size → ¬ mj_A g q → U.heap[q]? = s.heap[q]?) : mj_Tab g U := by
  obtain ⟨h1, h2, h3, h4, h5, h6, h7, h8⟩ := h
  refine ⟨va_K.moved hW.alike h1, fun w hw => ?_, va_X.moved hW.alike (h3.kept (hq _ (Nat.lt_of_lt_of_le h4 hz) (fun z => Nat.not_le.mpr h4 z))), h4, vk_S.moved hW.alike (h5.kept hq), fun q hqq => (h6 q hqq).warm hW, fun q hqq => va_Z.moved hW.alike ((h7 q hqq).kept hq), fun C hC => va_AO.moved hW.alike (h8 C hC)⟩
  have hk := (List.mem_filter.mp hw).2
  have hv := h2 w hw
  cases w <;> first | exact va_Nw.warmF hW hv | exact va_Nw.warmM hW hv | exact va_Nw.warmD hW hv | exact va_Nw.warmC hW hv | (simp [mj_isNest] at hk; done)
theorem mj_Tab_eq {g : mj_G} {u U : State} (h : mj_Tab g u) (hv : U.vm = u.vm) (hh : U.heap = u.heap) : mj_Tab g U := by
  have hA : u.vm.Alike U.vm := by rw [hv]; exact Vm.Alike.refl _
  obtain ⟨h1, h2, h3, h4, h5, h6, h7, h8⟩ := h
  refine ⟨va_K.moved hA h1, fun w hw => ?_, by rw [hh]; exact va_X.moved hA h3, h4, by rw [hh]; exact vk_S.moved hA h5, fun q hqq => (h6 q hqq).same hv, fun q hqq => by rw [hh]; exact va_Z.moved hA (h7 q hqq), fun C hC => va_AO.moved hA (h8 C hC)⟩
  have hk := (List.mem_filter.mp hw).2
  have hv' := h2 w hw
  cases w <;> first | exact va_Nw.same rfl hv.symm hv' | (simp [mj_isNest] at hk; done)
def mj_Cx (g : mj_G) (d mi : Nat) (p : Program) (R : Room) (s : State) (m : MethodId) (args : Array Value) (meth : Method) (c : Code) : Prop :=
  p.tables.exec = Jvm.exec ∧ c.code = mt_b mi ∧ c.maxLocals = mt_L mi ∧ meth.sig.returnType = mt_ret mi ∧ meth.locks = false ∧ s.vm.findClass (mt_y mi).cls = some m.cls ∧ ((mt_y mi).name = "<init>" → meth.name = "<init>") ∧ (∀ w ∈ mt_TB, w.before args s = true) ∧ mj_Tab g s ∧ g.1 ≤ s.heap.size ∧ d + 1 ≤ R.frames ∧ 64 * (d + 1) ≤ R.locals
def mj_Q (g : mj_G) (r : Option Value × MH) : Array Value → State → Outcome → State → Prop := fun _ st oc t => oc = .returned (r.1.map (mj_v g)) ∧ mj_Hp g r.2 t.heap ∧ va_F (mj_A g) st t
def mj_Sim (g : mj_G) (l : Launch) (d mi pc : Nat) (ls : List (Option Value)) (st : List Value) (h : MH) (r : Option Value × MH) : Prop :=
  ∀ (p : Program) (e : Env) (R : Room) (s : State) (m : MethodId) (args : Array Value) (below : List Frame) (meth : Method) (c : Code) (H : Heap) (locs : List Loc) (cells slots mc ms : Nat) (rl : Array Slot),
    mj_Cx g d mi p R s m args meth c → mj_Hp g h H → mj_Lo g (mt_L mi) ls rl → va_S (mj_A g) s.heap H locs → s.heap.size + cells = H.size →
    cells + mj_z r.2 ≤ mc + mj_z h → slots + mj_u r.2 ≤ ms + mj_u h → mc ≤ R.cells → ms ≤ R.slots →
    W p l e R s m args below meth c H locs cells slots (MQ below (mj_Q g r) args s mc ms (mj_A g)) (F0 m pc rl (st.map (mj_v g)))
section Steps1
variable {g : mj_G} {l : Launch} {d mi pc : Nat} {ls : List (Option Value)} {st : List Value} {h : MH} {r : Option Value × MH}
theorem mj_g_iconst {k : Int} (hd : decode (mt_b mi) pc = .ok (.iconst k, 1)) (K : mj_Sim g l d mi (pc + 1) ls (.int (Int32.ofInt k) :: st) h r) : mj_Sim g l d mi pc ls st h r := by
  intro p e R s m args below meth c H locs cells slots mc ms rl X hH hL hS hE hc hs h1 h2
  exact lv_iconst X.1 X.2.1 hd rfl (K p e R s m args below meth c H locs cells slots mc ms rl X hH hL hS hE hc hs h1 h2)
theorem mj_g_bipush {k : Int} (hd : decode (mt_b mi) pc = .ok (.bipush k, 2)) (K : mj_Sim g l d mi (pc + 2) ls (.int (Int8.ofInt k).toInt32 :: st) h r) : mj_Sim g l d mi pc ls st h r := by
  intro p e R s m args below meth c H locs cells slots mc ms rl X hH hL hS hE hc hs h1 h2
  exact lv_bipush X.1 X.2.1 hd rfl (K p e R s m args below meth c H locs cells slots mc ms rl X hH hL hS hE hc hs h1 h2)
theorem mj_g_sipush {k : Int} (hd : decode (mt_b mi) pc = .ok (.sipush k, 3)) (K : mj_Sim g l d mi (pc + 3) ls (.int (Int16.ofInt k).toInt32 :: st) h r) : mj_Sim g l d mi pc ls st h r := by
  intro p e R s m args below meth c H locs cells slots mc ms rl X hH hL hS hE hc hs h1 h2
  exact lv_sipush X.1 X.2.1 hd rfl (K p e R s m args below meth c H locs cells slots mc ms rl X hH hL hS hE hc hs h1 h2)
theorem mj_g_null (hd : decode (mt_b mi) pc = .ok (.aconst_null, 1)) (K : mj_Sim g l d mi (pc + 1) ls (.null :: st) h r) : mj_Sim g l d mi pc ls st h r := by
  intro p e R s m args below meth c H locs cells slots mc ms rl X hH hL hS hE hc hs h1 h2
  exact lv_null X.1 X.2.1 hd (K p e R s m args below meth c H locs cells slots mc ms rl X hH hL hS hE hc hs h1 h2)
theorem mj_g_iload {i : Nat} {x : Int32} (hd : decode (mt_b mi) pc = .ok (.iload i, 2)) (hl : ls.getD i none = some (.int x)) (K : mj_Sim g l d mi (pc + 2) ls (.int x :: st) h r) : mj_Sim g l d mi pc ls st h r := by
  intro p e R s m args below meth c H locs cells slots mc ms rl X hH hL hS hE hc hs h1 h2
  exact lv_iload X.1 X.2.1 hd (mj_Lo_get hL hl) (K p e R s m args below meth c H locs cells slots mc ms rl X hH hL hS hE hc hs h1 h2)
theorem mj_g_iload_n {i : Fin 4} {x : Int32} (hd : decode (mt_b mi) pc = .ok (.iload_n i, 1)) (hl : ls.getD i.val none = some (.int x)) (K : mj_Sim g l d mi (pc + 1) ls (.int x :: st) h r) : mj_Sim g l d mi pc ls st h r := by
  intro p e R s m args below meth c H locs cells slots mc ms rl X hH hL hS hE hc hs h1 h2
  exact lv_iload_n X.1 X.2.1 hd rfl (mj_Lo_get hL hl) (K p e R s m args below meth c H locs cells slots mc ms rl X hH hL hS hE hc hs h1 h2)
theorem mj_g_aload {i : Nat} {v : Value} (hd : decode (mt_b mi) pc = .ok (.aload i, 2)) (hl : ls.getD i none = some v) (hv : v = .null ∨ (∃ a, v = .ref a) ∨ ∃ a, v = .retAddr a) (K : mj_Sim g l d mi (pc + 2) ls (v :: st) h r) : mj_Sim g l d mi pc ls st h r := by
  intro p e R s m args below meth c H locs cells slots mc ms rl X hH hL hS hE hc hs h1 h2
  have K' := K p e R s m args below meth c H locs cells slots mc ms rl X hH hL hS hE hc hs h1 h2
  have hg := mj_Lo_get hL hl
  rcases hv with rfl | ⟨a, rfl⟩ | ⟨a, rfl⟩
  · exact lv_aloadN X.1 X.2.1 hd hg K'
  · exact lv_aload X.1 X.2.1 hd hg K'
  · exact lv_aload X.1 X.2.1 hd hg K'
theorem mj_g_aload_n {i : Fin 4} {v : Value} (hd : decode (mt_b mi) pc = .ok (.aload_n i, 1)) (hl : ls.getD i.val none = some v) (hv : v = .null ∨ (∃ a, v = .ref a) ∨ ∃ a, v = .retAddr a) (K : mj_Sim g l d mi (pc + 1) ls (v :: st) h r) : mj_Sim g l d mi pc ls st h r := by
  intro p e R s m args below meth c H locs cells slots mc ms rl X hH hL hS hE hc hs h1 h2
  have K' := K p e R s m args below meth c H locs cells slots mc ms rl X hH hL hS hE hc hs h1 h2
  have hg := mj_Lo_get hL hl
  rcases hv with rfl | ⟨a, rfl⟩ | ⟨a, rfl⟩
  · exact lv_aload_nN X.1 X.2.1 hd rfl hg K'
  · exact lv_aload_n X.1 X.2.1 hd rfl hg K'
  · exact lv_aload_n X.1 X.2.1 hd rfl hg K'
theorem mj_g_istore {i : Nat} {x : Int32} (hd : decode (mt_b mi) pc = .ok (.istore i, 2)) (hi : i < ls.length) (K : mj_Sim g l d mi (pc + 2) (ls.set i (some (.int x))) st h r) : mj_Sim g l d mi pc ls (.int x :: st) h r := by
  intro p e R s m args below meth c H locs cells slots mc ms rl X hH hL hS hE hc hs h1 h2
  exact lv_istore X.1 X.2.1 hd (mj_lv_has hL) (by have := hL.2.2.1; omega) rfl (fun rl' hl' => K p e R s m args below meth c H locs cells slots mc ms rl' X hH (mj_Lo_set (v := .int x) hL hi rfl hl') hS hE hc hs h1 h2)
theorem mj_g_istore_n {i : Fin 4} {x : Int32} (hd : decode (mt_b mi) pc = .ok (.istore_n i, 1)) (hi : i.val < ls.length) (K : mj_Sim g l d mi (pc + 1) (ls.set i.val (some (.int x))) st h r) : mj_Sim g l d mi pc ls (.int x :: st) h r := by
  intro p e R s m args below meth c H locs cells slots mc ms rl X hH hL hS hE hc hs h1 h2
  exact lv_istore_n X.1 X.2.1 hd rfl (mj_lv_has hL) (by have := hL.2.2.1; omega) rfl (fun rl' hl' => K p e R s m args below meth c H locs cells slots mc ms rl' X hH (mj_Lo_set (v := .int x) hL hi rfl hl') hS hE hc hs h1 h2)
theorem mj_g_astore {i : Nat} {v : Value} (hd : decode (mt_b mi) pc = .ok (.astore i, 2)) (hi : i < ls.length) (hv : v = .null ∨ (∃ a, v = .ref a) ∨ ∃ a, v = .retAddr a) (K : mj_Sim g l d mi (pc + 2) (ls.set i (some v)) st h r) : mj_Sim g l d mi pc ls (v :: st) h r := by
  intro p e R s m args below meth c H locs cells slots mc ms rl X hH hL hS hE hc hs h1 h2
  rcases hv with rfl | ⟨a, rfl⟩ | ⟨a, rfl⟩
  · exact lv_astoreN X.1 X.2.1 hd (mj_lv_has hL) (by have := hL.2.2.1; omega) rfl (fun rl' hl' => K p e R s m args below meth c H locs cells slots mc ms rl' X hH (mj_Lo_set (v := .null) hL hi rfl hl') hS hE hc hs h1 h2)
  · exact lv_astore X.1 X.2.1 hd (mj_lv_has hL) (by have := hL.2.2.1; omega) rfl (fun rl' hl' => K p e R s m args below meth c H locs cells slots mc ms rl' X hH (mj_Lo_set (v := .ref a) hL hi rfl hl') hS hE hc hs h1 h2)
  · exact lv_astore X.1 X.2.1 hd (mj_lv_has hL) (by have := hL.2.2.1; omega) rfl (fun rl' hl' => K p e R s m args below meth c H locs cells slots mc ms rl' X hH (mj_Lo_set (v := .retAddr a) hL hi rfl hl') hS hE hc hs h1 h2)
theorem mj_g_astore_n {i : Fin 4} {v : Value} (hd : decode (mt_b mi) pc = .ok (.astore_n i, 1)) (hi : i.val < ls.length) (hv : v = .null ∨ (∃ a, v = .ref a) ∨ ∃ a, v = .retAddr a) (K : mj_Sim g l d mi (pc + 1) (ls.set i.val (some v)) st h r) : mj_Sim g l d mi pc ls (v :: st) h r := by
  intro p e R s m args below meth c H locs cells slots mc ms rl X hH hL hS hE hc hs h1 h2
  rcases hv with rfl | ⟨a, rfl⟩ | ⟨a, rfl⟩
  · exact lv_astore_nN X.1 X.2.1 hd rfl (mj_lv_has hL) (by have := hL.2.2.1; omega) rfl (fun rl' hl' => K p e R s m args below meth c H locs cells slots mc ms rl' X hH (mj_Lo_set (v := .null) hL hi rfl hl') hS hE hc hs h1 h2)
  · exact lv_astore_n X.1 X.2.1 hd rfl (mj_lv_has hL) (by have := hL.2.2.1; omega) rfl (fun rl' hl' => K p e R s m args below meth c H locs cells slots mc ms rl' X hH (mj_Lo_set (v := .ref a) hL hi rfl hl') hS hE hc hs h1 h2)
  · exact lv_astore_n X.1 X.2.1 hd rfl (mj_lv_has hL) (by have := hL.2.2.1; omega) rfl (fun rl' hl' => K p e R s m args below meth c H locs cells slots mc ms rl' X hH (mj_Lo_set (v := .retAddr a) hL hi rfl hl') hS hE hc hs h1 h2)
theorem mj_g_iinc {i : Nat} {k : Int} {x : Int32} (hd : decode (mt_b mi) pc = .ok (.iinc i k, 3)) (hi : i < ls.length) (hl : ls.getD i none = some (.int x)) (K : mj_Sim g l d mi (pc + 3) (ls.set i (some (.int (x + Int32.ofInt k)))) st h r) : mj_Sim g l d mi pc ls st h r := by
  intro p e R s m args below meth c H locs cells slots mc ms rl X hH hL hS hE hc hs h1 h2
  have hx : ls[i]? = some (some (.int x)) := by
    simp only [List.getD] at hl
    cases hq : ls[i]? with
    | none => rw [hq] at hl; simp at hl
    | some o => rw [hq] at hl; simp at hl; rw [hl]
  obtain ⟨k0, hk0⟩ := List.getElem?_of_mem (mj_lv_mem (g := g) hx)
  exact lv_iinc X.1 X.2.1 hd (mj_lv_has hL) hk0 rfl (by have := hL.2.2.1; omega) rfl (fun rl' hl' => K p e R s m args below meth c H locs cells slots mc ms rl' X hH (mj_Lo_set (v := .int (x + Int32.ofInt k)) hL hi rfl hl') hS hE hc hs h1 h2)
theorem mj_g_iadd {x y : Int32} (hd : decode (mt_b mi) pc = .ok (.iadd, 1)) (K : mj_Sim g l d mi (pc + 1) ls (.int (x + y) :: st) h r) : mj_Sim g l d mi pc ls (.int y :: .int x :: st) h r := by
  intro p e R s m args below meth c H locs cells slots mc ms rl X hH hL hS hE hc hs h1 h2
  exact lv_iadd X.1 X.2.1 hd (K p e R s m args below meth c H locs cells slots mc ms rl X hH hL hS hE hc hs h1 h2)
theorem mj_g_isub {x y : Int32} (hd : decode (mt_b mi) pc = .ok (.isub, 1)) (K : mj_Sim g l d mi (pc + 1) ls (.int (x - y) :: st) h r) : mj_Sim g l d mi pc ls (.int y :: .int x :: st) h r := by
  intro p e R s m args below meth c H locs cells slots mc ms rl X hH hL hS hE hc hs h1 h2
  exact lv_isub X.1 X.2.1 hd (K p e R s m args below meth c H locs cells slots mc ms rl X hH hL hS hE hc hs h1 h2)
theorem mj_g_imul {x y : Int32} (hd : decode (mt_b mi) pc = .ok (.imul, 1)) (K : mj_Sim g l d mi (pc + 1) ls (.int (x * y) :: st) h r) : mj_Sim g l d mi pc ls (.int y :: .int x :: st) h r := by
  intro p e R s m args below meth c H locs cells slots mc ms rl X hH hL hS hE hc hs h1 h2
  exact lv_imul X.1 X.2.1 hd (K p e R s m args below meth c H locs cells slots mc ms rl X hH hL hS hE hc hs h1 h2)
theorem mj_g_iand {x y : Int32} (hd : decode (mt_b mi) pc = .ok (.iand, 1)) (K : mj_Sim g l d mi (pc + 1) ls (.int (x &&& y) :: st) h r) : mj_Sim g l d mi pc ls (.int y :: .int x :: st) h r := by
  intro p e R s m args below meth c H locs cells slots mc ms rl X hH hL hS hE hc hs h1 h2
  exact lv_iand X.1 X.2.1 hd (K p e R s m args below meth c H locs cells slots mc ms rl X hH hL hS hE hc hs h1 h2)
theorem mj_g_ior {x y : Int32} (hd : decode (mt_b mi) pc = .ok (.ior, 1)) (K : mj_Sim g l d mi (pc + 1) ls (.int (x ||| y) :: st) h r) : mj_Sim g l d mi pc ls (.int y :: .int x :: st) h r := by
  intro p e R s m args below meth c H locs cells slots mc ms rl X hH hL hS hE hc hs h1 h2
  exact lv_ior X.1 X.2.1 hd (K p e R s m args below meth c H locs cells slots mc ms rl X hH hL hS hE hc hs h1 h2)
theorem mj_g_ixor {x y : Int32} (hd : decode (mt_b mi) pc = .ok (.ixor, 1)) (K : mj_Sim g l d mi (pc + 1) ls (.int (x ^^^ y) :: st) h r) : mj_Sim g l d mi pc ls (.int y :: .int x :: st) h r := by
  intro p e R s m args below meth c H locs cells slots mc ms rl X hH hL hS hE hc hs h1 h2
  exact lv_ixor X.1 X.2.1 hd (K p e R s m args below meth c H locs cells slots mc ms rl X hH hL hS hE hc hs h1 h2)
theorem mj_g_ishl {x y : Int32} (hd : decode (mt_b mi) pc = .ok (.ishl, 1)) (K : mj_Sim g l d mi (pc + 1) ls (.int (x <<< (y &&& 31)) :: st) h r) : mj_Sim g l d mi pc ls (.int y :: .int x :: st) h r := by
  intro p e R s m args below meth c H locs cells slots mc ms rl X hH hL hS hE hc hs h1 h2
  exact lv_ishl X.1 X.2.1 hd (K p e R s m args below meth c H locs cells slots mc ms rl X hH hL hS hE hc hs h1 h2)
theorem mj_g_ishr {x y : Int32} (hd : decode (mt_b mi) pc = .ok (.ishr, 1)) (K : mj_Sim g l d mi (pc + 1) ls (.int (x >>> (y &&& 31)) :: st) h r) : mj_Sim g l d mi pc ls (.int y :: .int x :: st) h r := by
  intro p e R s m args below meth c H locs cells slots mc ms rl X hH hL hS hE hc hs h1 h2
  exact lv_ishr X.1 X.2.1 hd (K p e R s m args below meth c H locs cells slots mc ms rl X hH hL hS hE hc hs h1 h2)
theorem mj_g_idiv {x y : Int32} (hd : decode (mt_b mi) pc = .ok (.idiv, 1)) (hy : ¬ y = 0) (K : mj_Sim g l d mi (pc + 1) ls (.int (x / y) :: st) h r) : mj_Sim g l d mi pc ls (.int y :: .int x :: st) h r := by
  intro p e R s m args below meth c H locs cells slots mc ms rl X hH hL hS hE hc hs h1 h2
  exact lv_idiv X.1 X.2.1 hd hy (K p e R s m args below meth c H locs cells slots mc ms rl X hH hL hS hE hc hs h1 h2)
theorem mj_g_irem {x y : Int32} (hd : decode (mt_b mi) pc = .ok (.irem, 1)) (hy : ¬ y = 0) (K : mj_Sim g l d mi (pc + 1) ls (.int (x - x / y * y) :: st) h r) : mj_Sim g l d mi pc ls (.int y :: .int x :: st) h r := by
  intro p e R s m args below meth c H locs cells slots mc ms rl X hH hL hS hE hc hs h1 h2
  exact lv_irem X.1 X.2.1 hd hy (K p e R s m args below meth c H locs cells slots mc ms rl X hH hL hS hE hc hs h1 h2)
theorem mj_g_iushr {x y : Int32} (hd : decode (mt_b mi) pc = .ok (.iushr, 1)) (K : mj_Sim g l d mi (pc + 1) ls (.int (x.toUInt32 >>> (y.toUInt32 &&& Int32.toUInt32 31)).toInt32 :: st) h r) : mj_Sim g l d mi pc ls (.int y :: .int x :: st) h r := by
  intro p e R s m args below meth c H locs cells slots mc ms rl X hH hL hS hE hc hs h1 h2
  exact lv_iushr X.1 X.2.1 hd rfl (K p e R s m args below meth c H locs cells slots mc ms rl X hH hL hS hE hc hs h1 h2)
theorem mj_g_ineg {x : Int32} (hd : decode (mt_b mi) pc = .ok (.ineg, 1)) (K : mj_Sim g l d mi (pc + 1) ls (.int (-x) :: st) h r) : mj_Sim g l d mi pc ls (.int x :: st) h r := by
  intro p e R s m args below meth c H locs cells slots mc ms rl X hH hL hS hE hc hs h1 h2
  exact lv_ineg X.1 X.2.1 hd (K p e R s m args below meth c H locs cells slots mc ms rl X hH hL hS hE hc hs h1 h2)
theorem mj_g_i2c {x : Int32} (hd : decode (mt_b mi) pc = .ok (.i2c, 1)) (K : mj_Sim g l d mi (pc + 1) ls (.int (x.toUInt32 % 65536).toInt32 :: st) h r) : mj_Sim g l d mi pc ls (.int x :: st) h r := by
  intro p e R s m args below meth c H locs cells slots mc ms rl X hH hL hS hE hc hs h1 h2
  exact lv_i2c X.1 X.2.1 hd rfl (K p e R s m args below meth c H locs cells slots mc ms rl X hH hL hS hE hc hs h1 h2)
theorem mj_g_i2b {x : Int32} (hd : decode (mt_b mi) pc = .ok (.i2b, 1)) (K : mj_Sim g l d mi (pc + 1) ls (.int x.toInt8.toInt32 :: st) h r) : mj_Sim g l d mi pc ls (.int x :: st) h r := by
  intro p e R s m args below meth c H locs cells slots mc ms rl X hH hL hS hE hc hs h1 h2
  exact lv_i2b X.1 X.2.1 hd rfl (K p e R s m args below meth c H locs cells slots mc ms rl X hH hL hS hE hc hs h1 h2)
theorem mj_to_eq {off : Int} (ho : mj_ok pc off = true) : (pc : Int) + off = ((mj_to pc off : Nat) : Int) := by
  simp only [mj_ok, decide_eq_true_eq] at ho
  simp only [mj_to]
  omega
theorem mj_g_goto {off : Int} (hd : decode (mt_b mi) pc = .ok (.goto off, 3)) (ho : mj_ok pc off = true) (K : mj_Sim g l d mi (mj_to pc off) ls st h r) : mj_Sim g l d mi pc ls st h r := by
  intro p e R s m args below meth c H locs cells slots mc ms rl X hH hL hS hE hc hs h1 h2
  exact lv_goto X.1 X.2.1 hd (mj_to_eq ho) (K p e R s m args below meth c H locs cells slots mc ms rl X hH hL hS hE hc hs h1 h2)
theorem mj_g_if_eq {off : Int} {x : Int32} (hd : decode (mt_b mi) pc = .ok (.ifCond .eq off, 3)) (ho : mj_ok pc off = true) (Kt : x = 0 → mj_Sim g l d mi (mj_to pc off) ls st h r) (Kf : ¬ (x = 0) → mj_Sim g l d mi (pc + 3) ls st h r) : mj_Sim g l d mi pc ls (.int x :: st) h r := by
  intro p e R s m args below meth c H locs cells slots mc ms rl X hH hL hS hE hc hs h1 h2
  exact lv_if_eq X.1 X.2.1 hd (mj_to_eq ho) (fun z => Kt z p e R s m args below meth c H locs cells slots mc ms rl X hH hL hS hE hc hs h1 h2) (fun z => Kf z p e R s m args below meth c H locs cells slots mc ms rl X hH hL hS hE hc hs h1 h2)
theorem mj_g_if_ne {off : Int} {x : Int32} (hd : decode (mt_b mi) pc = .ok (.ifCond .ne off, 3)) (ho : mj_ok pc off = true) (Kt : ¬ x = 0 → mj_Sim g l d mi (mj_to pc off) ls st h r) (Kf : ¬ (¬ x = 0) → mj_Sim g l d mi (pc + 3) ls st h r) : mj_Sim g l d mi pc ls (.int x :: st) h r := by
  intro p e R s m args below meth c H locs cells slots mc ms rl X hH hL hS hE hc hs h1 h2
  exact lv_if_ne X.1 X.2.1 hd (mj_to_eq ho) (fun z => Kt z p e R s m args below meth c H locs cells slots mc ms rl X hH hL hS hE hc hs h1 h2) (fun z => Kf (fun q => q z) p e R s m args below meth c H locs cells slots mc ms rl X hH hL hS hE hc hs h1 h2)
theorem mj_g_if_lt {off : Int} {x : Int32} (hd : decode (mt_b mi) pc = .ok (.ifCond .lt off, 3)) (ho : mj_ok pc off = true) (Kt : x < 0 → mj_Sim g l d mi (mj_to pc off) ls st h r) (Kf : ¬ (x < 0) → mj_Sim g l d mi (pc + 3) ls st h r) : mj_Sim g l d mi pc ls (.int x :: st) h r := by
  intro p e R s m args below meth c H locs cells slots mc ms rl X hH hL hS hE hc hs h1 h2
  exact lv_if_lt X.1 X.2.1 hd (mj_to_eq ho) (fun z => Kt z p e R s m args below meth c H locs cells slots mc ms rl X hH hL hS hE hc hs h1 h2) (fun z => Kf z p e R s m args below meth c H locs cells slots mc ms rl X hH hL hS hE hc hs h1 h2)
theorem mj_g_if_ge {off : Int} {x : Int32} (hd : decode (mt_b mi) pc = .ok (.ifCond .ge off, 3)) (ho : mj_ok pc off = true) (Kt : 0 ≤ x → mj_Sim g l d mi (mj_to pc off) ls st h r) (Kf : ¬ (0 ≤ x) → mj_Sim g l d mi (pc + 3) ls st h r) : mj_Sim g l d mi pc ls (.int x :: st) h r := by
  intro p e R s m args below meth c H locs cells slots mc ms rl X hH hL hS hE hc hs h1 h2
  exact lv_if_ge X.1 X.2.1 hd (mj_to_eq ho) (fun z => Kt z p e R s m args below meth c H locs cells slots mc ms rl X hH hL hS hE hc hs h1 h2) (fun z => Kf z p e R s m args below meth c H locs cells slots mc ms rl X hH hL hS hE hc hs h1 h2)
theorem mj_g_if_gt {off : Int} {x : Int32} (hd : decode (mt_b mi) pc = .ok (.ifCond .gt off, 3)) (ho : mj_ok pc off = true) (Kt : 0 < x → mj_Sim g l d mi (mj_to pc off) ls st h r) (Kf : ¬ (0 < x) → mj_Sim g l d mi (pc + 3) ls st h r) : mj_Sim g l d mi pc ls (.int x :: st) h r := by
  intro p e R s m args below meth c H locs cells slots mc ms rl X hH hL hS hE hc hs h1 h2
  exact lv_if_gt X.1 X.2.1 hd (mj_to_eq ho) (fun z => Kt z p e R s m args below meth c H locs cells slots mc ms rl X hH hL hS hE hc hs h1 h2) (fun z => Kf z p e R s m args below meth c H locs cells slots mc ms rl X hH hL hS hE hc hs h1 h2)
theorem mj_g_if_le {off : Int} {x : Int32} (hd : decode (mt_b mi) pc = .ok (.ifCond .le off, 3)) (ho : mj_ok pc off = true) (Kt : x ≤ 0 → mj_Sim g l d mi (mj_to pc off) ls st h r) (Kf : ¬ (x ≤ 0) → mj_Sim g l d mi (pc + 3) ls st h r) : mj_Sim g l d mi pc ls (.int x :: st) h r := by
  intro p e R s m args below meth c H locs cells slots mc ms rl X hH hL hS hE hc hs h1 h2
  exact lv_if_le X.1 X.2.1 hd (mj_to_eq ho) (fun z => Kt z p e R s m args below meth c H locs cells slots mc ms rl X hH hL hS hE hc hs h1 h2) (fun z => Kf z p e R s m args below meth c H locs cells slots mc ms rl X hH hL hS hE hc hs h1 h2)
theorem mj_g_icmp_eq {off : Int} {x y : Int32} (hd : decode (mt_b mi) pc = .ok (.if_icmp .eq off, 3)) (ho : mj_ok pc off = true) (Kt : x = y → mj_Sim g l d mi (mj_to pc off) ls st h r) (Kf : ¬ (x = y) → mj_Sim g l d mi (pc + 3) ls st h r) : mj_Sim g l d mi pc ls (.int y :: .int x :: st) h r := by
  intro p e R s m args below meth c H locs cells slots mc ms rl X hH hL hS hE hc hs h1 h2
  exact lv_icmp_eq X.1 X.2.1 hd (mj_to_eq ho) (fun z => Kt z p e R s m args below meth c H locs cells slots mc ms rl X hH hL hS hE hc hs h1 h2) (fun z => Kf z p e R s m args below meth c H locs cells slots mc ms rl X hH hL hS hE hc hs h1 h2)
theorem mj_g_icmp_ne {off : Int} {x y : Int32} (hd : decode (mt_b mi) pc = .ok (.if_icmp .ne off, 3)) (ho : mj_ok pc off = true) (Kt : ¬ x = y → mj_Sim g l d mi (mj_to pc off) ls st h r) (Kf : ¬ (¬ x = y) → mj_Sim g l d mi (pc + 3) ls st h r) : mj_Sim g l d mi pc ls (.int y :: .int x :: st) h r := by
  intro p e R s m args below meth c H locs cells slots mc ms rl X hH hL hS hE hc hs h1 h2
  exact lv_icmp_ne X.1 X.2.1 hd (mj_to_eq ho) (fun z => Kt z p e R s m args below meth c H locs cells slots mc ms rl X hH hL hS hE hc hs h1 h2) (fun z => Kf (fun q => q z) p e R s m args below meth c H locs cells slots mc ms rl X hH hL hS hE hc hs h1 h2)
theorem mj_g_icmp_lt {off : Int} {x y : Int32} (hd : decode (mt_b mi) pc = .ok (.if_icmp .lt off, 3)) (ho : mj_ok pc off = true) (Kt : x < y → mj_Sim g l d mi (mj_to pc off) ls st h r) (Kf : ¬ (x < y) → mj_Sim g l d mi (pc + 3) ls st h r) : mj_Sim g l d mi pc ls (.int y :: .int x :: st) h r := by
  intro p e R s m args below meth c H locs cells slots mc ms rl X hH hL hS hE hc hs h1 h2
  exact lv_icmp_lt X.1 X.2.1 hd (mj_to_eq ho) (fun z => Kt z p e R s m args below meth c H locs cells slots mc ms rl X hH hL hS hE hc hs h1 h2) (fun z => Kf z p e R s m args below meth c H locs cells slots mc ms rl X hH hL hS hE hc hs h1 h2)
theorem mj_g_icmp_ge {off : Int} {x y : Int32} (hd : decode (mt_b mi) pc = .ok (.if_icmp .ge off, 3)) (ho : mj_ok pc off = true) (Kt : y ≤ x → mj_Sim g l d mi (mj_to pc off) ls st h r) (Kf : ¬ (y ≤ x) → mj_Sim g l d mi (pc + 3) ls st h r) : mj_Sim g l d mi pc ls (.int y :: .int x :: st) h r := by
  intro p e R s m args below meth c H locs cells slots mc ms rl X hH hL hS hE hc hs h1 h2
  exact lv_icmp_ge X.1 X.2.1 hd (mj_to_eq ho) (fun z => Kt z p e R s m args below meth c H locs cells slots mc ms rl X hH hL hS hE hc hs h1 h2) (fun z => Kf z p e R s m args below meth c H locs cells slots mc ms rl X hH hL hS hE hc hs h1 h2)
theorem mj_g_icmp_gt {off : Int} {x y : Int32} (hd : decode (mt_b mi) pc = .ok (.if_icmp .gt off, 3)) (ho : mj_ok pc off = true) (Kt : y < x → mj_Sim g l d mi (mj_to pc off) ls st h r) (Kf : ¬ (y < x) → mj_Sim g l d mi (pc + 3) ls st h r) : mj_Sim g l d mi pc ls (.int y :: .int x :: st) h r := by
  intro p e R s m args below meth c H locs cells slots mc ms rl X hH hL hS hE hc hs h1 h2
  exact lv_icmp_gt X.1 X.2.1 hd (mj_to_eq ho) (fun z => Kt z p e R s m args below meth c H locs cells slots mc ms rl X hH hL hS hE hc hs h1 h2) (fun z => Kf z p e R s m args below meth c H locs cells slots mc ms rl X hH hL hS hE hc hs h1 h2)
theorem mj_g_icmp_le {off : Int} {x y : Int32} (hd : decode (mt_b mi) pc = .ok (.if_icmp .le off, 3)) (ho : mj_ok pc off = true) (Kt : x ≤ y → mj_Sim g l d mi (mj_to pc off) ls st h r) (Kf : ¬ (x ≤ y) → mj_Sim g l d mi (pc + 3) ls st h r) : mj_Sim g l d mi pc ls (.int y :: .int x :: st) h r := by
  intro p e R s m args below meth c H locs cells slots mc ms rl X hH hL hS hE hc hs h1 h2
  exact lv_icmp_le X.1 X.2.1 hd (mj_to_eq ho) (fun z => Kt z p e R s m args below meth c H locs cells slots mc ms rl X hH hL hS hE hc hs h1 h2) (fun z => Kf z p e R s m args below meth c H locs cells slots mc ms rl X hH hL hS hE hc hs h1 h2)
theorem mj_g_ifnull_r {off : Int} {a : Nat} (hd : decode (mt_b mi) pc = .ok (.ifnull off, 3)) (K : mj_Sim g l d mi (pc + 3) ls st h r) : mj_Sim g l d mi pc ls (.ref a :: st) h r := by
  intro p e R s m args below meth c H locs cells slots mc ms rl X hH hL hS hE hc hs h1 h2
  exact lv_ifnull X.1 X.2.1 hd (K p e R s m args below meth c H locs cells slots mc ms rl X hH hL hS hE hc hs h1 h2)
theorem mj_g_ifnull_n {off : Int} (hd : decode (mt_b mi) pc = .ok (.ifnull off, 3)) (ho : mj_ok pc off = true) (K : mj_Sim g l d mi (mj_to pc off) ls st h r) : mj_Sim g l d mi pc ls (.null :: st) h r := by
  intro p e R s m args below meth c H locs cells slots mc ms rl X hH hL hS hE hc hs h1 h2
  exact lv_ifnullN X.1 X.2.1 hd (mj_to_eq ho) (K p e R s m args below meth c H locs cells slots mc ms rl X hH hL hS hE hc hs h1 h2)
theorem mj_g_ifnonnull_r {off : Int} {a : Nat} (hd : decode (mt_b mi) pc = .ok (.ifnonnull off, 3)) (ho : mj_ok pc off = true) (K : mj_Sim g l d mi (mj_to pc off) ls st h r) : mj_Sim g l d mi pc ls (.ref a :: st) h r := by
  intro p e R s m args below meth c H locs cells slots mc ms rl X hH hL hS hE hc hs h1 h2
  exact lv_ifnonnull X.1 X.2.1 hd (mj_to_eq ho) (K p e R s m args below meth c H locs cells slots mc ms rl X hH hL hS hE hc hs h1 h2)
theorem mj_g_ifnonnull_n {off : Int} (hd : decode (mt_b mi) pc = .ok (.ifnonnull off, 3)) (K : mj_Sim g l d mi (pc + 3) ls st h r) : mj_Sim g l d mi pc ls (.null :: st) h r := by
  intro p e R s m args below meth c H locs cells slots mc ms rl X hH hL hS hE hc hs h1 h2
  exact lv_ifnonnullN X.1 X.2.1 hd (K p e R s m args below meth c H locs cells slots mc ms rl X hH hL hS hE hc hs h1 h2)
theorem mj_g_dup {v : Value} (hd : decode (mt_b mi) pc = .ok (.dup, 1)) (hv : v.category = 1) (K : mj_Sim g l d mi (pc + 1) ls (v :: v :: st) h r) : mj_Sim g l d mi pc ls (v :: st) h r := by
  intro p e R s m args below meth c H locs cells slots mc ms rl X hH hL hS hE hc hs h1 h2
  exact lv_dup X.1 X.2.1 hd (mj_v_cat hv) (K p e R s m args below meth c H locs cells slots mc ms rl X hH hL hS hE hc hs h1 h2)
theorem mj_g_dup2 {v w : Value} (hd : decode (mt_b mi) pc = .ok (.dup2, 1)) (hv : v.category = 1) (hw : w.category = 1) (K : mj_Sim g l d mi (pc + 1) ls (v :: w :: v :: w :: st) h r) : mj_Sim g l d mi pc ls (v :: w :: st) h r := by
  intro p e R s m args below meth c H locs cells slots mc ms rl X hH hL hS hE hc hs h1 h2
  exact lv_dup2_11 X.1 X.2.1 hd (mj_v_cat hv) (mj_v_cat hw) (K p e R s m args below meth c H locs cells slots mc ms rl X hH hL hS hE hc hs h1 h2)
theorem mj_g_pop {v : Value} (hd : decode (mt_b mi) pc = .ok (.pop, 1)) (hv : v.category = 1) (K : mj_Sim g l d mi (pc + 1) ls st h r) : mj_Sim g l d mi pc ls (v :: st) h r := by
  intro p e R s m args below meth c H locs cells slots mc ms rl X hH hL hS hE hc hs h1 h2
  exact lv_pop X.1 X.2.1 hd (mj_v_cat hv) (K p e R s m args below meth c H locs cells slots mc ms rl X hH hL hS hE hc hs h1 h2)
theorem mj_g_tswOut {dflt lo hi : Int} {offs : Array Int} {n : Nat} {x : Int32} (hd : decode (mt_b mi) pc = .ok (.tableswitch dflt lo hi offs, n)) (hx : x.toInt < lo ∨ hi < x.toInt) (ho : mj_ok pc dflt = true) (K : mj_Sim g l d mi (mj_to pc dflt) ls st h r) : mj_Sim g l d mi pc ls (.int x :: st) h r := by
  intro p e R s m args below meth c H locs cells slots mc ms rl X hH hL hS hE hc hs h1 h2
  exact lv_tableOut X.1 X.2.1 hd hx (mj_to_eq ho) (K p e R s m args below meth c H locs cells slots mc ms rl X hH hL hS hE hc hs h1 h2)
theorem mj_g_tswIn {dflt lo hi : Int} {offs : Array Int} {n : Nat} {x : Int32} {off : Int} (hd : decode (mt_b mi) pc = .ok (.tableswitch dflt lo hi offs, n)) (hx : ¬ (x.toInt < lo ∨ hi < x.toInt)) (hf : offs[(x.toInt - lo).toNat]? = some off) (ho : mj_ok pc off = true) (K : mj_Sim g l d mi (mj_to pc off) ls st h r) : mj_Sim g l d mi pc ls (.int x :: st) h r := by
  intro p e R s m args below meth c H locs cells slots mc ms rl X hH hL hS hE hc hs h1 h2
  exact lv_tableIn X.1 X.2.1 hd (fun z => hx (Or.inl z)) (fun z => hx (Or.inr z)) hf (mj_to_eq ho) (K p e R s m args below meth c H locs cells slots mc ms rl X hH hL hS hE hc hs h1 h2)
theorem mj_g_lsw {dflt : Int} {ps : Array (Int × Int)} {n : Nat} {x : Int32} (hd : decode (mt_b mi) pc = .ok (.lookupswitch dflt ps, n)) (hp : (ps.toList.zip (ps.toList.drop 1)).all (fun (a, next) => a.1 < next.1) = true) (ho : mj_ok pc (Op.lookupswitch.offset ps.toList dflt x.toInt) = true) (K : mj_Sim g l d mi (mj_to pc (Op.lookupswitch.offset ps.toList dflt x.toInt)) ls st h r) : mj_Sim g l d mi pc ls (.int x :: st) h r := by
  intro p e R s m args below meth c H locs cells slots mc ms rl X hH hL hS hE hc hs h1 h2
  exact lv_lookup X.1 X.2.1 hd hp rfl (mj_to_eq ho) (K p e R s m args below meth c H locs cells slots mc ms rl X hH hL hS hE hc hs h1 h2)
end Steps1
end
section
/-! The small machine's steps that read or write the heap. -/
theorem mj_S_tr {A : Nat → Prop} {H0 H H1 : Heap} {locs locs1 : List Loc} (h1 : va_S A H0 H locs) (h2 : va_S A H H1 locs1) : va_S A H0 H1 locs1 := ⟨Nat.le_trans h1.1 h2.1, fun q hq hA => (h2.2.1 q (Nat.lt_of_lt_of_le hq h1.1) hA).trans (h1.2.1 q hq hA), h2.2.2⟩
theorem mj_S_self {A : Nat → Prop} {H0 H : Heap} {locs : List Loc} (h : va_S A H0 H locs) : va_S A H H locs := ⟨Nat.le_refl _, fun _ _ _ => rfl, h.2.2⟩
theorem mj_size {p : Program} {l : Launch} {e : Env} {R : Room} {s : State} {m : MethodId} {args : Array Value} {below : List Frame} {meth : Method} {c : Code} {H : Heap} {locs : List Loc} {cells slots N : Nat} {Q : State → Prop} {gg : JFrame} (hN : s.heap.size + cells ≤ N)
    (kk : H.size ≤ N → W p l e R s m args below meth c H locs cells slots Q gg) : W p l e R s m args below meth c H locs cells slots Q gg := fun T hT X => kk (by
      have h := X.same.2.2.1
      rw [← hT]
      exact Nat.le_trans h hN) T hT X
theorem mj_tys_at {g : mj_G} {k kd : Nat} {ty : FieldType} (hk : mt_ty[k]? = some (kd, ty)) : (mj_tys g)[k]? = some (g.2.2.1 kd, ty) := by
  simp [mj_tys, hk]
theorem mj_Hp_wa {g : mj_G} {h : MH} {H H1 : Heap} {a : Nat} {f : Nat → Int32} {E : va_E} (hH : mj_Hp g h H) (hz : H1.size = H.size) (he : mj_e g (mj_wa h a f) a = E) (hP : va_P g.2.1 mt_cl ((mj_ws g h).set a (g.1 + a, E)) H1) : mj_Hp g (mj_wa h a f) H1 := by
  refine ⟨by rw [hz]; exact hH.1, ?_⟩
  rw [mj_ws_set (h := h) (h' := mj_wa h a f) (a := a) rfl (fun i hi => mj_e_wa hi), he]
  exact hP
theorem mj_Hp_wr {g : mj_G} {h : MH} {H H1 : Heap} {a k : Nat} {x : Option Nat} {E : va_E} (hH : mj_Hp g h H) (hz : H1.size = H.size) (he : mj_e g (mj_wr h a k x) a = E) (hP : va_P g.2.1 mt_cl ((mj_ws g h).set a (g.1 + a, E)) H1) : mj_Hp g (mj_wr h a k x) H1 := by
  refine ⟨by rw [hz]; exact hH.1, ?_⟩
  rw [mj_ws_set (h := h) (h' := mj_wr h a k x) (a := a) rfl (fun i hi => mj_e_wr hi), he]
  exact hP
theorem mj_rd_wi {h : MH} {ci a k : Nat} {x : Int32} (hf : mj_fr ci k = false) : mj_rd (mj_wi h a k x) ci a k = .int x := by
  simp [mj_rd, hf, mj_wi, mj_wa_i, upd]
theorem mj_rd_wi_o {h : MH} {ci a k j : Nat} {x : Int32} (hj : j ≠ k) : mj_rd (mj_wi h a k x) ci a j = mj_rd h ci a j := by
  simp [mj_rd, mj_wi, mj_wa_i, mj_wa_r, upd, hj]
theorem mj_rd_wr {h : MH} {ci a k : Nat} {x : Option Nat} (hf : mj_fr ci k = true) : mj_rd (mj_wr h a k x) ci a k = mj_rv x := by
  simp [mj_rd, hf, mj_wr_r, va_up]
theorem mj_rd_wr_o {h : MH} {ci a k j : Nat} {x : Option Nat} (hj : j ≠ k) : mj_rd (mj_wr h a k x) ci a j = mj_rd h ci a j := by
  simp [mj_rd, mj_wr_i, mj_wr_r, va_up, hj]
section Steps2
variable {g : mj_G} {l : Launch} {d mi pc : Nat} {ls : List (Option Value)} {st : List Value} {h : MH} {r : Option Value × MH}
theorem mj_g_getf {idx a ci k : Nat} (hd : decode (mt_b mi) pc = .ok (.getfield idx, 3)) (hg : mj_get mt_F (mt_on mi) idx = some (ci, k)) (ha : a < mj_z h) (hm : mj_m h a = (ci, (mt_cf ci).length)) (hk : k < (mt_cf ci).length)
    (K : mj_Sim g l d mi (pc + 3) ls (mj_rd h ci a k :: st) h r) : mj_Sim g l d mi pc ls (.ref a :: st) h r := by
  intro p e R s m args below meth c H locs cells slots mc ms rl X hH hL hS hE hc hs h1 h2
  obtain ⟨rc, e1, e2, hl⟩ := mt_ok_F _ _ _ _ hg
  obtain ⟨f0, f1, f2, f3, f4, -⟩ := mt_ok_cl _ _ e1
  obtain ⟨C, T, N⟩ := rc
  have he : (mj_ws g h)[a]? = some (g.1 + a, .inr (ci, mj_fs g h ci (mt_cf ci).length a)) := by rw [mj_ws_at ha, mj_e_obj hm f0]
  have K' := K p e R s m args below meth c H locs cells slots mc ms rl X hH hL hS hE hc hs h1 h2
  rw [mt_ok_on] at hl
  rcases hl with hl | ⟨host, hl⟩
  · exact va_get (D := g.2.1) (ci := ci) (C := C) (T := T) (N := N) X.1 X.2.1 X.2.2.2.2.2.2.2.1 f4 X.2.2.2.2.2.1 X.2.2.2.2.2.2.2.2.1.1 hH.2 a he e1 k e2 (X.2.2.2.2.2.2.2.1 _ hl) (fun _ z => z) (mj_fs_at hk) hd K'
  · exact va_getN (D := g.2.1) (ci := ci) (C := C) (T := T) (N := N) X.1 X.2.1 X.2.2.2.2.2.2.2.1 f4 X.2.2.2.2.2.1 X.2.2.2.2.2.2.2.2.1.1 hH.2 a he e1 k e2 (va_Nw.use rfl (X.2.2.2.2.2.2.2.2.1.2.1 _ hl)) (fun _ z => z) (mj_fs_at hk) hd K'
/-- a field is written: the value as both machines have it -/
theorem mj_g_putf {idx a ci k : Nat} {b : Bool} {v : Value} {h' : MH} (hd : decode (mt_b mi) pc = .ok (.putfield idx, 3)) (hg : mj_get mt_P (mt_on mi) idx = some (ci, k, b)) (hb : (!b || (mt_y mi).name == "<init>") = true) (ha : a < mj_z h) (hm : mj_m h a = (ci, (mt_cf ci).length)) (hk : k < (mt_cf ci).length)
    (hn : narrow ((mt_cf ci).getD k .int) (mj_v g v) = mj_v g v) (hf : fits ((mt_cf ci).getD k .int) (mj_v g v) = true)
    (hw : ∀ H H1 : Heap, mj_Hp g h H → H1.size = H.size → va_P g.2.1 mt_cl ((mj_ws g h).set a (g.1 + a, .inr (ci, (mj_fs g h ci (mt_cf ci).length a).set k (mj_v g v)))) H1 → mj_Hp g h' H1) (hz : mj_z h' = mj_z h) (hu : mj_u h' = mj_u h)
    (K : mj_Sim g l d mi (pc + 3) ls st h' r) : mj_Sim g l d mi pc ls (v :: .ref a :: st) h r := by
  intro p e R s m args below meth c H locs cells slots mc ms rl X hH hL hS hE hc hs h1 h2
  obtain ⟨rc, e1, e2, e3, hl⟩ := mt_ok_P _ _ _ _ _ hg
  obtain ⟨f0, f1, f2, f3, f4, -⟩ := mt_ok_cl _ _ e1
  obtain ⟨C, T, N⟩ := rc
  have he : (mj_ws g h)[a]? = some (g.1 + a, .inr (ci, mj_fs g h ci (mt_cf ci).length a)) := by rw [mj_ws_at ha, mj_e_obj hm f0]
  have hlen : k < (mj_fs g h ci (mt_cf ci).length a).length := by rw [mj_fs_len]; exact hk
  have K' : ∀ (H1 : Heap) (locs1 : List Loc), va_P g.2.1 mt_cl ((mj_ws g h).set a (g.1 + a, .inr (ci, (mj_fs g h ci (mt_cf ci).length a).set k (mj_v g v)))) H1 → va_D (mj_A g) ((mj_ws g h).set a (g.1 + a, .inr (ci, (mj_fs g h ci (mt_cf ci).length a).set k (mj_v g v)))) → va_S (mj_A g) H H1 locs1 → W p l e R s m args below meth c H1 locs1 cells slots (MQ below (mj_Q g r) args s mc ms (mj_A g)) (F0 m (pc + 3) rl (st.map (mj_v g))) := by
    intro H1 locs1 hP1 _ hS1
    refine mj_size (Nat.le_of_eq hE) fun hle => ?_
    have hsz : H1.size = H.size := Nat.le_antisymm hle hS1.1
    exact K p e R s m args below meth c H1 locs1 cells slots mc ms rl X (hw H H1 hH hsz hP1) hL (mj_S_tr hS hS1) (by rw [hsz]; exact hE) (by rw [hz]; exact hc) (by rw [hu]; exact hs) h1 h2
  rw [mt_ok_on] at hl
  cases b with
  | false =>
    rcases hl with hl | ⟨host, hl⟩
    · exact va_put (D := g.2.1) (ci := ci) (C := C) (T := T) (N := N) X.1 X.2.1 X.2.2.2.2.2.2.2.1 f4 (fun k => (mt_cf ci).getD k .int) f2 f3 X.2.2.2.2.2.1 X.2.2.2.2.2.2.2.2.1.1 hH.2 mj_ws_D (mj_S_self hS) a he e1 k e2 (X.2.2.2.2.2.2.2.1 _ hl) (fun _ z => z) e3 (f2 k e2) hn hf hlen hd K'
    · exact va_putN (D := g.2.1) (ci := ci) (C := C) (T := T) (N := N) X.1 X.2.1 X.2.2.2.2.2.2.2.1 f4 (fun k => (mt_cf ci).getD k .int) f2 f3 X.2.2.2.2.2.1 X.2.2.2.2.2.2.2.2.1.1 hH.2 mj_ws_D (mj_S_self hS) a he e1 k e2 (va_Nw.use rfl (X.2.2.2.2.2.2.2.2.1.2.1 _ hl)) (fun _ z => z) e3 (f2 k e2) hn hf hlen hd K'
  | true =>
    have hin : meth.name = "<init>" := X.2.2.2.2.2.2.1 (by simpa using hb)
    exact va_putF (D := g.2.1) (ci := ci) (C := C) (T := T) (N := N) X.1 X.2.1 X.2.2.2.2.2.2.2.1 f4 (fun k => (mt_cf ci).getD k .int) f2 f3 X.2.2.2.2.2.1 X.2.2.2.2.2.2.2.2.1.1 hH.2 mj_ws_D (mj_S_self hS) a he e1 k e2 (X.2.2.2.2.2.2.2.1 _ hl.1) (fun _ z => z) e3 hin hl.2 (f2 k e2) hn hf hlen hd K'
theorem mj_g_puti {idx a ci k : Nat} {b : Bool} {x : Int32} (hd : decode (mt_b mi) pc = .ok (.putfield idx, 3)) (hg : mj_get mt_P (mt_on mi) idx = some (ci, k, b)) (hb : (!b || (mt_y mi).name == "<init>") = true) (ha : a < mj_z h) (hm : mj_m h a = (ci, (mt_cf ci).length)) (hk : k < (mt_cf ci).length) (hfr : mj_fr ci k = false) (hf : mj_fit ((mt_cf ci).getD k .int) x = true)
    (K : mj_Sim g l d mi (pc + 3) ls st (mj_wi h a k x) r) : mj_Sim g l d mi pc ls (.int x :: .ref a :: st) h r := by
  simp only [mj_fit, Bool.and_eq_true, decide_eq_true_eq] at hf
  obtain ⟨rc, e1, -⟩ := mt_ok_P _ _ _ _ _ hg
  have f0 := (mt_ok_cl _ _ e1).1
  refine mj_g_putf (v := .int x) (h' := mj_wi h a k x) hd hg hb ha hm hk hf.1 hf.2 (fun H H1 hH hz hP => ?_) rfl rfl K
  refine mj_Hp_wa hH hz ?_ hP
  rw [mj_e_obj (by rw [mj_wa_m]; exact hm) f0]
  exact congrArg (fun z => Sum.inr (ci, z)) (mj_fs_set (h := h) (h' := mj_wi h a k x) (by rw [mj_rd_wi hfr]) (fun j hj => mj_rd_wi_o hj)).symm
theorem mj_g_putr {idx a ci k : Nat} {b : Bool} {x : Option Nat} (hd : decode (mt_b mi) pc = .ok (.putfield idx, 3)) (hg : mj_get mt_P (mt_on mi) idx = some (ci, k, b)) (hb : (!b || (mt_y mi).name == "<init>") = true) (ha : a < mj_z h) (hm : mj_m h a = (ci, (mt_cf ci).length)) (hk : k < (mt_cf ci).length) (hfr : mj_fr ci k = true)
    (K : mj_Sim g l d mi (pc + 3) ls st (mj_wr h a k x) r) : mj_Sim g l d mi pc ls (mj_rv x :: .ref a :: st) h r := by
  obtain ⟨rc, e1, -⟩ := mt_ok_P _ _ _ _ _ hg
  have f0 := (mt_ok_cl _ _ e1).1
  have ht : ∀ ty : FieldType, mj_isR ty = true → narrow ty (mj_v g (mj_rv x)) = mj_v g (mj_rv x) ∧ fits ty (mj_v g (mj_rv x)) = true := by
    intro ty hty
    cases ty <;> first | (simp [mj_isR] at hty; done) | (cases x <;> exact ⟨rfl, rfl⟩)
  refine mj_g_putf (v := mj_rv x) (h' := mj_wr h a k x) hd hg hb ha hm hk (ht _ hfr).1 (ht _ hfr).2 (fun H H1 hH hz hP => ?_) rfl rfl K
  refine mj_Hp_wr hH hz ?_ hP
  rw [mj_e_obj (by rw [mj_wr_m]; exact hm) f0]
  exact congrArg (fun z => Sum.inr (ci, z)) (mj_fs_set (h := h) (h' := mj_wr h a k x) (by rw [mj_rd_wr hfr]) (fun j hj => mj_rd_wr_o hj)).symm
theorem mj_kd_of {a kd : Nat} {i : Int32} (hk : mj_kd h a kd i = true) : a < mj_z h ∧ mj_m h a = (kd, (mj_m h a).2) ∧ vp_in i (mj_m h a).2 := by
  simp only [mj_kd, Bool.and_eq_true, decide_eq_true_eq] at hk
  obtain ⟨⟨h1, h2⟩, h3⟩ := hk
  exact ⟨h1, by rw [← h2], mj_in_vp h3⟩
theorem mj_g_iald {a : Nat} {i : Int32} (hd : decode (mt_b mi) pc = .ok (.iaload, 1)) (hk : mj_kd h a 100 i = true) (K : mj_Sim g l d mi (pc + 1) ls (.int (mj_i h a i.toNatClampNeg) :: st) h r) : mj_Sim g l d mi pc ls (.int i :: .ref a :: st) h r := by
  intro p e R s m args below meth c H locs cells slots mc ms rl X hH hL hS hE hc hs h1 h2
  obtain ⟨k1, k2, k3⟩ := mj_kd_of hk
  exact va_iald X.1 X.2.1 X.2.2.2.2.2.2.2.2.1.1 hH.2 a 0 (by rw [mj_ws_at k1, mj_e_int k2 (by omega) (by omega)]) (mj_tys_at mt_ty0) k3 hd (K p e R s m args below meth c H locs cells slots mc ms rl X hH hL hS hE hc hs h1 h2)
theorem mj_g_zald {a : Nat} {i : Int32} (hd : decode (mt_b mi) pc = .ok (.baload, 1)) (hk : mj_kd h a 101 i = true) (K : mj_Sim g l d mi (pc + 1) ls (.int (mj_i h a i.toNatClampNeg) :: st) h r) : mj_Sim g l d mi pc ls (.int i :: .ref a :: st) h r := by
  intro p e R s m args below meth c H locs cells slots mc ms rl X hH hL hS hE hc hs h1 h2
  obtain ⟨k1, k2, k3⟩ := mj_kd_of hk
  exact va_zald X.1 X.2.1 X.2.2.2.2.2.2.2.2.1.1 hH.2 a 1 (by rw [mj_ws_at k1, mj_e_int k2 (by omega) (by omega)]) (mj_tys_at mt_ty1) k3 hd (K p e R s m args below meth c H locs cells slots mc ms rl X hH hL hS hE hc hs h1 h2)
theorem mj_g_cald {a : Nat} {i : Int32} (hd : decode (mt_b mi) pc = .ok (.caload, 1)) (hk : mj_kd h a 102 i = true) (K : mj_Sim g l d mi (pc + 1) ls (.int (mj_i h a i.toNatClampNeg) :: st) h r) : mj_Sim g l d mi pc ls (.int i :: .ref a :: st) h r := by
  intro p e R s m args below meth c H locs cells slots mc ms rl X hH hL hS hE hc hs h1 h2
  obtain ⟨k1, k2, k3⟩ := mj_kd_of hk
  exact va_cald X.1 X.2.1 X.2.2.2.2.2.2.2.2.1.1 hH.2 a 2 (by rw [mj_ws_at k1, mj_e_int k2 (by omega) (by omega)]) (mj_tys_at mt_ty2) k3 hd (K p e R s m args below meth c H locs cells slots mc ms rl X hH hL hS hE hc hs h1 h2)
theorem mj_g_iast {a : Nat} {i x : Int32} (hd : decode (mt_b mi) pc = .ok (.iastore, 1)) (hk : mj_kd h a 100 i = true) (K : mj_Sim g l d mi (pc + 1) ls st (mj_wi h a i.toNatClampNeg x) r) : mj_Sim g l d mi pc ls (.int x :: .int i :: .ref a :: st) h r := by
  intro p e R s m args below meth c H locs cells slots mc ms rl X hH hL hS hE hc hs h1 h2
  obtain ⟨k1, k2, k3⟩ := mj_kd_of hk
  refine va_iast X.1 X.2.1 X.2.2.2.2.2.2.2.2.1.1 hH.2 mj_ws_D (mj_S_self hS) a 0 (by rw [mj_ws_at k1, mj_e_int k2 (by omega) (by omega)]) (mj_tys_at mt_ty0) k3 hd fun H1 locs1 hP1 _ hS1 => ?_
  refine mj_size (Nat.le_of_eq hE) fun hle => ?_
  have hsz : H1.size = H.size := Nat.le_antisymm hle hS1.1
  refine K p e R s m args below meth c H1 locs1 cells slots mc ms rl X (mj_Hp_wa (f := upd (mj_i h a) i.toNatClampNeg x) hH hsz ?_ hP1) hL (mj_S_tr hS hS1) (by rw [hsz]; exact hE) hc hs h1 h2
  exact (mj_e_int (h := mj_wi h a i.toNatClampNeg x) (a := a) (kd := 100) k2 (by omega) (by omega)).trans (by rw [mj_wi, mj_wa_i])
theorem mj_g_zast {a : Nat} {i x : Int32} (hd : decode (mt_b mi) pc = .ok (.bastore, 1)) (hk : mj_kd h a 101 i = true) (K : mj_Sim g l d mi (pc + 1) ls st (mj_wi h a i.toNatClampNeg (vp_nar .boolean x)) r) : mj_Sim g l d mi pc ls (.int x :: .int i :: .ref a :: st) h r := by
  intro p e R s m args below meth c H locs cells slots mc ms rl X hH hL hS hE hc hs h1 h2
  obtain ⟨k1, k2, k3⟩ := mj_kd_of hk
  refine va_zast X.1 X.2.1 X.2.2.2.2.2.2.2.2.1.1 hH.2 mj_ws_D (mj_S_self hS) a 1 (by rw [mj_ws_at k1, mj_e_int k2 (by omega) (by omega)]) (mj_tys_at mt_ty1) k3 hd fun H1 locs1 hP1 _ hS1 => ?_
  refine mj_size (Nat.le_of_eq hE) fun hle => ?_
  have hsz : H1.size = H.size := Nat.le_antisymm hle hS1.1
  refine K p e R s m args below meth c H1 locs1 cells slots mc ms rl X (mj_Hp_wa (f := upd (mj_i h a) i.toNatClampNeg (vp_nar .boolean x)) hH hsz ?_ hP1) hL (mj_S_tr hS hS1) (by rw [hsz]; exact hE) hc hs h1 h2
  exact (mj_e_int (h := mj_wi h a i.toNatClampNeg (vp_nar .boolean x)) (a := a) (kd := 101) k2 (by omega) (by omega)).trans (by rw [mj_wi, mj_wa_i])
theorem mj_g_cast {a : Nat} {i x : Int32} (hd : decode (mt_b mi) pc = .ok (.castore, 1)) (hk : mj_kd h a 102 i = true) (K : mj_Sim g l d mi (pc + 1) ls st (mj_wi h a i.toNatClampNeg (vp_nar .char x)) r) : mj_Sim g l d mi pc ls (.int x :: .int i :: .ref a :: st) h r := by
  intro p e R s m args below meth c H locs cells slots mc ms rl X hH hL hS hE hc hs h1 h2
  obtain ⟨k1, k2, k3⟩ := mj_kd_of hk
  refine va_cast X.1 X.2.1 X.2.2.2.2.2.2.2.2.1.1 hH.2 mj_ws_D (mj_S_self hS) a 2 (by rw [mj_ws_at k1, mj_e_int k2 (by omega) (by omega)]) (mj_tys_at mt_ty2) k3 hd fun H1 locs1 hP1 _ hS1 => ?_
  refine mj_size (Nat.le_of_eq hE) fun hle => ?_
  have hsz : H1.size = H.size := Nat.le_antisymm hle hS1.1
  refine K p e R s m args below meth c H1 locs1 cells slots mc ms rl X (mj_Hp_wa (f := upd (mj_i h a) i.toNatClampNeg (vp_nar .char x)) hH hsz ?_ hP1) hL (mj_S_tr hS hS1) (by rw [hsz]; exact hE) hc hs h1 h2
  exact (mj_e_int (h := mj_wi h a i.toNatClampNeg (vp_nar .char x)) (a := a) (kd := 102) k2 (by omega) (by omega)).trans (by rw [mj_wi, mj_wa_i])
theorem mj_g_aald {a : Nat} {i : Int32} {t kd : Nat} {C : String} (hd : decode (mt_b mi) pc = .ok (.aaload, 1)) (ht : mt_ty[t]? = some (kd, .object C)) (h2k : 200 ≤ kd) (hk : mj_kd h a kd i = true) (K : mj_Sim g l d mi (pc + 1) ls (mj_rv (mj_r h a i.toNatClampNeg) :: st) h r) : mj_Sim g l d mi pc ls (.int i :: .ref a :: st) h r := by
  intro p e R s m args below meth c H locs cells slots mc ms rl X hH hL hS hE hc hs h1 h2
  obtain ⟨k1, k2, k3⟩ := mj_kd_of hk
  have K' := K p e R s m args below meth c H locs cells slots mc ms rl X hH hL hS hE hc hs h1 h2
  rw [List.map_cons, mj_v_rv] at K'
  exact va_aldq X.1 X.2.1 X.2.2.2.2.2.2.2.2.1.1 hH.2 a t (by rw [mj_ws_at k1, mj_e_ref k2 h2k]) (mj_tys_at ht) k3 hd K'
theorem mj_up_map {f : Nat → Option Nat} {z i b : Nat} : va_up (fun j => (f j).map (fun x => z + x)) i (some (z + b)) = fun j => (va_up f i (some b) j).map (fun x => z + x) := by
  funext j
  by_cases hj : j = i <;> simp [va_up, hj]
theorem mj_g_aast {a b : Nat} {i : Int32} {t kd ci n : Nat} {C : String} {rc : vw_C} (hd : decode (mt_b mi) pc = .ok (.aastore, 1)) (ht : mt_ty[t]? = some (kd, .object C)) (h2k : 200 ≤ kd) (hk : mj_kd h a kd i = true) (hb : b < mj_z h) (hbm : mj_m h b = (ci, n)) (hrc : mt_cl[ci]? = some rc) (hsub : rc.1 = C ∨ Cond.castable rc.1 C ∈ mt_NW)
    (K : mj_Sim g l d mi (pc + 1) ls st (mj_wr h a i.toNatClampNeg (some b)) r) : mj_Sim g l d mi pc ls (.ref b :: .int i :: .ref a :: st) h r := by
  intro p e R s m args below meth c H locs cells slots mc ms rl X hH hL hS hE hc hs h1 h2
  obtain ⟨k1, k2, k3⟩ := mj_kd_of hk
  have f0 := (mt_ok_cl _ _ hrc).1
  have K' : ∀ (H1 : Heap) (locs1 : List Loc), va_P g.2.1 mt_cl ((mj_ws g h).set a (g.1 + a, .inl (g.2.2.1 kd, (mj_m h a).2, .inr (.inr (.inr (.inr (va_up (fun j => (mj_r h a j).map (fun x => g.1 + x)) i.toNatClampNeg (some (g.1 + b))))))))) H1 → va_D (mj_A g) ((mj_ws g h).set a (g.1 + a, .inl (g.2.2.1 kd, (mj_m h a).2, .inr (.inr (.inr (.inr (va_up (fun j => (mj_r h a j).map (fun x => g.1 + x)) i.toNatClampNeg (some (g.1 + b))))))))) → va_S (mj_A g) H H1 locs1 → W p l e R s m args below meth c H1 locs1 cells slots (MQ below (mj_Q g r) args s mc ms (mj_A g)) (F0 m (pc + 1) rl (st.map (mj_v g))) := by
    intro H1 locs1 hP1 _ hS1
    refine mj_size (Nat.le_of_eq hE) fun hle => ?_
    have hsz : H1.size = H.size := Nat.le_antisymm hle hS1.1
    refine K p e R s m args below meth c H1 locs1 cells slots mc ms rl X (mj_Hp_wr hH hsz ?_ hP1) hL (mj_S_tr hS hS1) (by rw [hsz]; exact hE) hc hs h1 h2
    rw [mj_e_ref (by rw [mj_wr_m]; exact k2) h2k, mj_wr_r, mj_up_map]
  have hv : (mj_ws g h)[b]? = some (g.1 + b, .inr (ci, mj_fs g h ci n b)) := by rw [mj_ws_at hb, mj_e_obj hbm f0]
  rcases hsub with hsub | hsub
  · subst hsub
    exact va_astq X.1 X.2.1 X.2.2.2.2.2.2.2.2.1.1 hH.2 mj_ws_D (mj_S_self hS) a t b ci (by rw [mj_ws_at k1, mj_e_ref k2 h2k]) (mj_tys_at ht) hv hrc k3 hd K'
  · exact va_astqO X.1 X.2.1 X.2.2.2.2.2.2.2.2.1.1 hH.2 mj_ws_D (mj_S_self hS) a t b ci (by rw [mj_ws_at k1, mj_e_ref k2 h2k]) (mj_tys_at ht) (X.2.2.2.2.2.2.2.2.1.2.1 _ hsub) hv hrc k3 hd K'
theorem mj_g_alen {a t kd n : Nat} {ty : FieldType} (hd : decode (mt_b mi) pc = .ok (.arraylength, 1)) (ht : mt_ty[t]? = some (kd, ty)) (h1k : 100 ≤ kd) (ha : a < mj_z h) (hm : mj_m h a = (kd, n)) (K : mj_Sim g l d mi (pc + 1) ls (.int (Int32.ofNat n) :: st) h r) : mj_Sim g l d mi pc ls (.ref a :: st) h r := by
  intro p e R s m args below meth c H locs cells slots mc ms rl X hH hL hS hE hc hs h1 h2
  have K' := K p e R s m args below meth c H locs cells slots mc ms rl X hH hL hS hE hc hs h1 h2
  by_cases h2k : kd < 200
  · exact va_alen X.1 X.2.1 X.2.2.2.2.2.2.2.2.1.1 hH.2 a t (x := (n, .inl (mj_i h a))) (by rw [mj_ws_at ha, mj_e_int hm h1k h2k]) (mj_tys_at ht) rfl hd K'
  · exact va_alen X.1 X.2.1 X.2.2.2.2.2.2.2.2.1.1 hH.2 a t (x := (n, .inr (.inr (.inr (.inr (fun j => (mj_r h a j).map (fun x => g.1 + x))))))) (by rw [mj_ws_at ha, mj_e_ref hm (by omega)]) (mj_tys_at ht) rfl hd K'
theorem mj_nA {g : mj_G} {b : Nat} (hb : b < g.1) : ¬ mj_A g b := fun z => Nat.not_le.mpr hb z
theorem mj_g_slen (hd : decode (mt_b mi) pc = .ok (.arraylength, 1)) (K : mj_Sim g l d mi (pc + 1) ls (.int (Int32.ofNat g.2.2.2.2.1) :: st) h r) : mj_Sim g l d mi pc ls (.retAddr 0 :: st) h r := by
  intro p e R s m args below meth c H locs cells slots mc ms rl X hH hL hS hE hc hs h1 h2
  have T := X.2.2.2.2.2.2.2.2.1
  have hz := X.2.2.2.2.2.2.2.2.2.1
  exact va_slen X.1 X.2.1 T.2.2.1 (Nat.lt_of_lt_of_le T.2.2.2.1 hz) (mj_nA T.2.2.2.1) hS hd (K p e R s m args below meth c H locs cells slots mc ms rl X hH hL hS hE hc hs h1 h2)
theorem mj_g_sld {i : Int32} (hd : decode (mt_b mi) pc = .ok (.iaload, 1)) (hi : mj_in i g.2.2.2.2.1 = true) (K : mj_Sim g l d mi (pc + 1) ls (.int (g.2.2.2.2.2 i.toNatClampNeg) :: st) h r) : mj_Sim g l d mi pc ls (.int i :: .retAddr 0 :: st) h r := by
  intro p e R s m args below meth c H locs cells slots mc ms rl X hH hL hS hE hc hs h1 h2
  have T := X.2.2.2.2.2.2.2.2.1
  have hz := X.2.2.2.2.2.2.2.2.2.1
  exact va_sld X.1 X.2.1 T.2.2.1 (Nat.lt_of_lt_of_le T.2.2.2.1 hz) (mj_nA T.2.2.2.1) hS (mj_in_vp hi) hd (K p e R s m args below meth c H locs cells slots mc ms rl X hH hL hS hE hc hs h1 h2)
theorem mj_g_ldi {idx : Nat} {v : Int32} (hd : decode (mt_b mi) pc = .ok (.ldc idx, 2)) (hw : Cond.constant (mt_y mi).cls idx v ∈ mt_TB) (K : mj_Sim g l d mi (pc + 2) ls (.int v :: st) h r) : mj_Sim g l d mi pc ls st h r := by
  intro p e R s m args below meth c H locs cells slots mc ms rl X hH hL hS hE hc hs h1 h2
  exact lv_ldc X.1 X.2.1 X.2.2.2.2.2.1 (X.2.2.2.2.2.2.2.1 _ hw) hd (K p e R s m args below meth c H locs cells slots mc ms rl X hH hL hS hE hc hs h1 h2)
theorem mj_g_ldwi {idx : Nat} {v : Int32} (hd : decode (mt_b mi) pc = .ok (.ldc_w idx, 3)) (hw : Cond.constant (mt_y mi).cls idx v ∈ mt_TB) (K : mj_Sim g l d mi (pc + 3) ls (.int v :: st) h r) : mj_Sim g l d mi pc ls st h r := by
  intro p e R s m args below meth c H locs cells slots mc ms rl X hH hL hS hE hc hs h1 h2
  exact lv_ldcw X.1 X.2.1 X.2.2.2.2.2.1 (X.2.2.2.2.2.2.2.1 _ hw) hd (K p e R s m args below meth c H locs cells slots mc ms rl X hH hL hS hE hc hs h1 h2)
theorem mj_g_lds {idx j : Nat} {tx : String} (hd : decode (mt_b mi) pc = .ok (.ldc idx, 2)) (hw : ((mt_y mi).cls, idx, tx, j) ∈ mt_KS) (K : mj_Sim g l d mi (pc + 2) ls (.retAddr (2 * j + 1) :: st) h r) : mj_Sim g l d mi pc ls st h r := by
  intro p e R s m args below meth c H locs cells slots mc ms rl X hH hL hS hE hc hs h1 h2
  have T := X.2.2.2.2.2.2.2.2.1
  exact va_ldcS X.1 X.2.1 X.2.2.2.2.2.1 (T.2.2.2.2.2.1 _ hw) hd (K p e R s m args below meth c H locs cells slots mc ms rl X hH hL hS hE hc hs h1 h2)
theorem mj_g_gets {idx : Nat} {v : Int32} {C n f : String} (hd : decode (mt_b mi) pc = .ok (.getstatic idx, 3)) (hw : (C, n, f, v) ∈ mt_SZ) (hl : Cond.fieldLink (mt_y mi).cls idx C n f ∈ mt_TB) (K : mj_Sim g l d mi (pc + 3) ls (.int v :: st) h r) : mj_Sim g l d mi pc ls st h r := by
  intro p e R s m args below meth c H locs cells slots mc ms rl X hH hL hS hE hc hs h1 h2
  have T := X.2.2.2.2.2.2.2.2.1
  exact va_gets X.1 X.2.1 (T.2.2.2.2.2.2.1 _ hw) hS X.2.2.2.2.2.1 (X.2.2.2.2.2.2.2.1 _ hl) (fun _ z => z) hd (K p e R s m args below meth c H locs cells slots mc ms rl X hH hL hS hE hc hs h1 h2)
theorem mj_g_lval {idx i : Nat} (hd : decode (mt_b mi) pc = .ok (.getfield idx, 3)) (hi : i < mt_lits.length) (hl : Cond.fieldLink (mt_y mi).cls idx "java/lang/String" "value" "[B" ∈ mt_TB) (K : mj_Sim g l d mi (pc + 3) ls (.retAddr (2 * i + 2) :: st) h r) : mj_Sim g l d mi pc ls (.retAddr (2 * i + 1) :: st) h r := by
  intro p e R s m args below meth c H locs cells slots mc ms rl X hH hL hS hE hc hs h1 h2
  have T := X.2.2.2.2.2.2.2.2.1
  exact vk_getf X.1 X.2.1 (T.2.2.2.2.1.1 i hi).2.2.1 hS X.2.2.2.2.2.1 (X.2.2.2.2.2.2.2.1 _ hl) (fun _ z => z) hd (K p e R s m args below meth c H locs cells slots mc ms rl X hH hL hS hE hc hs h1 h2)
theorem mj_g_lcod {idx i : Nat} (hd : decode (mt_b mi) pc = .ok (.getfield idx, 3)) (hi : i < mt_lits.length) (hl : Cond.fieldLink (mt_y mi).cls idx "java/lang/String" "coder" "B" ∈ mt_TB) (K : mj_Sim g l d mi (pc + 3) ls (.int 0 :: st) h r) : mj_Sim g l d mi pc ls (.retAddr (2 * i + 1) :: st) h r := by
  intro p e R s m args below meth c H locs cells slots mc ms rl X hH hL hS hE hc hs h1 h2
  have T := X.2.2.2.2.2.2.2.2.1
  exact vk_getf X.1 X.2.1 (T.2.2.2.2.1.1 i hi).2.1 hS X.2.2.2.2.2.1 (X.2.2.2.2.2.2.2.1 _ hl) (fun _ z => z) hd (K p e R s m args below meth c H locs cells slots mc ms rl X hH hL hS hE hc hs h1 h2)
theorem mj_lits_len {i : Nat} : (mt_lits.map List.length).getD i 0 = (mt_lits.getD i []).length := by
  simp only [List.getD, List.getElem?_map]
  cases mt_lits[i]? <;> rfl
theorem mj_g_llen {i : Nat} (hd : decode (mt_b mi) pc = .ok (.arraylength, 1)) (hi : i < mt_lits.length) (K : mj_Sim g l d mi (pc + 1) ls (.int (Int32.ofNat (mt_lits.getD i []).length) :: st) h r) : mj_Sim g l d mi pc ls (.retAddr (2 * i + 2) :: st) h r := by
  intro p e R s m args below meth c H locs cells slots mc ms rl X hH hL hS hE hc hs h1 h2
  have T := X.2.2.2.2.2.2.2.2.1
  exact va_tlen X.1 X.2.1 (T.2.2.2.2.1.1 i hi).2.2.2 hS (by rw [mj_lits_len]) hd (K p e R s m args below meth c H locs cells slots mc ms rl X hH hL hS hE hc hs h1 h2)
theorem mj_g_lbyt {i : Nat} {j : Int32} (hd : decode (mt_b mi) pc = .ok (.baload, 1)) (hi : i < mt_lits.length) (hj : mj_in j (mt_lits.getD i []).length = true) (K : mj_Sim g l d mi (pc + 1) ls (.int (mj_lit i j.toNatClampNeg) :: st) h r) : mj_Sim g l d mi pc ls (.int j :: .retAddr (2 * i + 2) :: st) h r := by
  intro p e R s m args below meth c H locs cells slots mc ms rl X hH hL hS hE hc hs h1 h2
  have T := X.2.2.2.2.2.2.2.2.1
  exact va_tb X.1 X.2.1 (T.2.2.2.2.1.1 i hi).2.2.2 hS (by rw [mj_lits_len]; exact mj_in_vp hj) rfl hd (K p e R s m args below meth c H locs cells slots mc ms rl X hH hL hS hE hc hs h1 h2)
end Steps2
end
section
/-! The small machine's steps that make cells, calls and returns. -/
theorem mj_fresh {g : mj_G} {h : MH} {H H1 : Heap} {q : Nat} {E : va_E} (hH : mj_Hp g h H) (hle : H1.size ≤ H.size + 1) (hP : va_P g.2.1 mt_cl (mj_ws g h ++ [(q, E)]) H1) (hD : va_D (mj_A g) (mj_ws g h ++ [(q, E)])) : q = g.1 + mj_z h := by
  have hlen : (mj_ws g h).length = mj_z h := by simp [mj_ws]
  have hq : (mj_ws g h ++ [(q, E)])[mj_z h]? = some (q, E) := by
    rw [List.getElem?_append_right (by omega), hlen, Nat.sub_self]
    rfl
  have h1 := (hP _ _ hq).lt
  have h2 : g.1 ≤ q := hD.2 _ _ hq
  have h3 := hH.1
  by_cases hlt : q < g.1 + mj_z h
  · exfalso
    have ha : q - g.1 < mj_z h := by omega
    have h4 : (mj_ws g h ++ [(q, E)])[q - g.1]? = some (g.1 + (q - g.1), mj_e g h (q - g.1)) := by
      rw [List.getElem?_append_left (by omega)]
      exact mj_ws_at ha
    have h5 := hD.1 _ _ _ _ h4 hq (by show g.1 + (q - g.1) = q; omega)
    omega
  · dsimp only at h1
    omega
theorem mj_Hp_nw {g : mj_G} {h : MH} {H H1 : Heap} {kd n : Nat} (hH : mj_Hp g h H) (hsz : H1.size = H.size + 1) (hP : va_P g.2.1 mt_cl (mj_ws g h ++ [(g.1 + mj_z h, mj_e g (mj_nw h kd n) (mj_z h))]) H1) : mj_Hp g (mj_nw h kd n) H1 := by
  refine ⟨by rw [hsz, hH.1, mj_nw_z]; omega, ?_⟩
  rw [mj_ws_nw (h := h) mj_nw_z (fun i hi => mj_e_nw hi)]
  exact hP
section Steps3
variable {g : mj_G} {l : Launch} {d mi pc : Nat} {ls : List (Option Value)} {st : List Value} {h : MH} {r : Option Value × MH}
theorem mj_alloc {kd n len : Nat} {p : Program} {e : Env} {R : Room} {s : State} {m : MethodId} {args : Array Value} {below : List Frame} {meth : Method} {c : Code} {H : Heap} {locs : List Loc} {cells slots mc ms : Nat} {rl : Array Slot} {q : Nat} {H1 : Heap} {E : va_E}
    (X : mj_Cx g d mi p R s m args meth c) (hH : mj_Hp g h H) (hL : mj_Lo g (mt_L mi) ls rl) (hS : va_S (mj_A g) s.heap H locs) (hE : s.heap.size + cells = H.size) (hc : cells + mj_z r.2 ≤ mc + mj_z h) (hs : slots + mj_u r.2 ≤ ms + mj_u h) (h1 : mc ≤ R.cells) (h2 : ms ≤ R.slots)
    (hP1 : va_P g.2.1 mt_cl (mj_ws g h ++ [(q, E)]) H1) (hD1 : va_D (mj_A g) (mj_ws g h ++ [(q, E)])) (hS1 : va_S (mj_A g) H H1 locs) (he : mj_e g (mj_nw h kd n) (mj_z h) = E)
    (K : mj_Sim g l d mi (pc + len) ls (.ref (mj_z h) :: st) (mj_nw h kd n) r) : W p l e R s m args below meth c H1 locs (cells + 1) (slots + n) (MQ below (mj_Q g r) args s mc ms (mj_A g)) (F0 m (pc + len) rl (.ref q :: st.map (mj_v g))) := by
  refine mj_size (N := H.size + 1) (by omega) fun hle => ?_
  have hq := mj_fresh hH hle hP1 hD1
  subst hq
  have hlt : g.1 + mj_z h < H1.size := by
    have hlen : (mj_ws g h).length = mj_z h := by simp [mj_ws]
    exact (hP1 (mj_z h) (g.1 + mj_z h, E) (by rw [List.getElem?_append_right (by omega), hlen, Nat.sub_self]; rfl)).lt
  have hsz : H1.size = H.size + 1 := by have := hH.1; omega
  rw [← he] at hP1
  exact K p e R s m args below meth c H1 locs (cells + 1) (slots + n) mc ms rl X (mj_Hp_nw hH hsz hP1) hL (mj_S_tr hS hS1) (by rw [hsz]; omega) (by rw [mj_nw_z]; omega) (by rw [mj_nw_u]; omega) h1 h2
theorem mj_hA {p : Program} {R : Room} {s : State} {m : MethodId} {args : Array Value} {meth : Method} {c : Code} {H : Heap} {locs : List Loc} (X : mj_Cx g d mi p R s m args meth c) (hS : va_S (mj_A g) s.heap H locs) : ∀ q, H.size ≤ q → mj_A g q := fun q hq => Nat.le_trans X.2.2.2.2.2.2.2.2.2.1 (Nat.le_trans hS.1 hq)
theorem mj_g_na_int {k : Int32} (hd : decode (mt_b mi) pc = .ok (.newarray .int, 2)) (hk : ¬ k < 0) (hk2 : k.toNatClampNeg ≤ 65536) (hz : mj_z h + 1 ≤ mj_z r.2) (hu : mj_u h + k.toNatClampNeg ≤ mj_u r.2) (K : mj_Sim g l d mi (pc + 2) ls (.ref (mj_z h) :: st) (mj_nw h 100 k.toNatClampNeg) r) : mj_Sim g l d mi pc ls (.int k :: st) h r := by
  intro p e R s m args below meth c H locs cells slots mc ms rl X hH hL hS hE hc hs h1 h2
  have hcb : componentBytes .int ≤ 8 := by decide
  refine va_newa (atype := .int) (ty := .int) (N' := k.toNatClampNeg) (a0 := (k.toNatClampNeg, .inl (fun _ => 0))) X.1 X.2.1 (X.2.2.2.2.2.2.2.1 _ mt_arr0) rfl X.2.2.2.2.2.2.2.2.1.1 hH.2 mj_ws_D (mj_S_self hS) (mj_hA X hS) (fun cA => rfl) hk rfl (Nat.le_trans (Nat.mul_le_mul hk2 hcb) (by decide)) (by omega) (by omega) hd fun q cA H1 hK1 hP1 hD1 hS1 => ?_
  have hcA : cA = g.2.2.1 100 := by
    have e1 : va_RA s cA .int := (hK1.2 (mj_tys g).length (cA, .int) (by rw [List.getElem?_append_right (Nat.le_refl _), Nat.sub_self]; rfl)).2
    have e2 : va_RA s (g.2.2.1 100) .int := (X.2.2.2.2.2.2.2.2.1.1.2 0 _ (mj_tys_at mt_ty0)).2
    exact Option.some.inj (Eq.trans (Eq.symm e1) e2)
  subst hcA
  exact mj_alloc X hH hL hS hE hc hs h1 h2 hP1 hD1 hS1 (by rw [mj_e_int mj_nw_m (by omega) (by omega), mj_nw_i]) K
theorem mj_g_na_boolean {k : Int32} (hd : decode (mt_b mi) pc = .ok (.newarray .boolean, 2)) (hk : ¬ k < 0) (hk2 : k.toNatClampNeg ≤ 65536) (hz : mj_z h + 1 ≤ mj_z r.2) (hu : mj_u h + k.toNatClampNeg ≤ mj_u r.2) (K : mj_Sim g l d mi (pc + 2) ls (.ref (mj_z h) :: st) (mj_nw h 101 k.toNatClampNeg) r) : mj_Sim g l d mi pc ls (.int k :: st) h r := by
  intro p e R s m args below meth c H locs cells slots mc ms rl X hH hL hS hE hc hs h1 h2
  have hcb : componentBytes .boolean ≤ 8 := by decide
  refine va_newa (atype := .boolean) (ty := .boolean) (N' := k.toNatClampNeg) (a0 := (k.toNatClampNeg, .inl (fun _ => 0))) X.1 X.2.1 (X.2.2.2.2.2.2.2.1 _ mt_arr1) rfl X.2.2.2.2.2.2.2.2.1.1 hH.2 mj_ws_D (mj_S_self hS) (mj_hA X hS) (fun cA => rfl) hk rfl (Nat.le_trans (Nat.mul_le_mul hk2 hcb) (by decide)) (by omega) (by omega) hd fun q cA H1 hK1 hP1 hD1 hS1 => ?_
  have hcA : cA = g.2.2.1 101 := by
    have e1 : va_RA s cA .boolean := (hK1.2 (mj_tys g).length (cA, .boolean) (by rw [List.getElem?_append_right (Nat.le_refl _), Nat.sub_self]; rfl)).2
    have e2 : va_RA s (g.2.2.1 101) .boolean := (X.2.2.2.2.2.2.2.2.1.1.2 1 _ (mj_tys_at mt_ty1)).2
    exact Option.some.inj (Eq.trans (Eq.symm e1) e2)
  subst hcA
  exact mj_alloc X hH hL hS hE hc hs h1 h2 hP1 hD1 hS1 (by rw [mj_e_int mj_nw_m (by omega) (by omega), mj_nw_i]) K
theorem mj_g_na_char {k : Int32} (hd : decode (mt_b mi) pc = .ok (.newarray .char, 2)) (hk : ¬ k < 0) (hk2 : k.toNatClampNeg ≤ 65536) (hz : mj_z h + 1 ≤ mj_z r.2) (hu : mj_u h + k.toNatClampNeg ≤ mj_u r.2) (K : mj_Sim g l d mi (pc + 2) ls (.ref (mj_z h) :: st) (mj_nw h 102 k.toNatClampNeg) r) : mj_Sim g l d mi pc ls (.int k :: st) h r := by
  intro p e R s m args below meth c H locs cells slots mc ms rl X hH hL hS hE hc hs h1 h2
  have hcb : componentBytes .char ≤ 8 := by decide
  refine va_newa (atype := .char) (ty := .char) (N' := k.toNatClampNeg) (a0 := (k.toNatClampNeg, .inl (fun _ => 0))) X.1 X.2.1 (X.2.2.2.2.2.2.2.1 _ mt_arr2) rfl X.2.2.2.2.2.2.2.2.1.1 hH.2 mj_ws_D (mj_S_self hS) (mj_hA X hS) (fun cA => rfl) hk rfl (Nat.le_trans (Nat.mul_le_mul hk2 hcb) (by decide)) (by omega) (by omega) hd fun q cA H1 hK1 hP1 hD1 hS1 => ?_
  have hcA : cA = g.2.2.1 102 := by
    have e1 : va_RA s cA .char := (hK1.2 (mj_tys g).length (cA, .char) (by rw [List.getElem?_append_right (Nat.le_refl _), Nat.sub_self]; rfl)).2
    have e2 : va_RA s (g.2.2.1 102) .char := (X.2.2.2.2.2.2.2.2.1.1.2 2 _ (mj_tys_at mt_ty2)).2
    exact Option.some.inj (Eq.trans (Eq.symm e1) e2)
  subst hcA
  exact mj_alloc X hH hL hS hE hc hs h1 h2 hP1 hD1 hS1 (by rw [mj_e_int mj_nw_m (by omega) (by omega), mj_nw_i]) K
theorem mj_g_naq {idx t kd : Nat} {k : Int32} {C : String} (hd : decode (mt_b mi) pc = .ok (.anewarray idx, 3)) (ht : mt_ty[t]? = some (kd, .object C)) (h2k : 200 ≤ kd) (hl : Cond.classLink (mt_y mi).cls idx C ∈ mt_TB) (hao : C ∈ mt_AO) (hk : ¬ k < 0) (hk2 : k.toNatClampNeg ≤ 65536) (hz : mj_z h + 1 ≤ mj_z r.2) (hu : mj_u h + k.toNatClampNeg ≤ mj_u r.2) (K : mj_Sim g l d mi (pc + 3) ls (.ref (mj_z h) :: st) (mj_nw h kd k.toNatClampNeg) r) : mj_Sim g l d mi pc ls (.int k :: st) h r := by
  intro p e R s m args below meth c H locs cells slots mc ms rl X hH hL hS hE hc hs h1 h2
  refine va_newq X.1 X.2.1 X.2.2.2.2.2.1 (X.2.2.2.2.2.2.2.1 _ hl) (X.2.2.2.2.2.2.2.2.1.2.2.2.2.2.2.2 _ hao) X.2.2.2.2.2.2.2.2.1.1 hH.2 mj_ws_D (mj_S_self hS) (mj_hA X hS) hk rfl (by omega) (by omega) (by omega) hd fun q cA H1 hK1 hP1 hD1 hS1 => ?_
  have hcA : cA = g.2.2.1 kd := by
    have e1 : va_RA s cA (.object C) := (hK1.2 (mj_tys g).length (cA, .object C) (by rw [List.getElem?_append_right (Nat.le_refl _), Nat.sub_self]; rfl)).2
    have e2 : va_RA s (g.2.2.1 kd) (.object C) := (X.2.2.2.2.2.2.2.2.1.1.2 t _ (mj_tys_at ht)).2
    obtain ⟨_, _, -, -, -, e3⟩ := e1
    obtain ⟨_, _, -, -, -, e4⟩ := e2
    exact Option.some.inj (Eq.trans (Eq.symm e3) e4)
  subst hcA
  exact mj_alloc X hH hL hS hE hc hs h1 h2 hP1 hD1 hS1 (by rw [mj_e_ref mj_nw_m h2k, mj_nw_r]; rfl) K
theorem mj_g_new {idx ci : Nat} (hd : decode (mt_b mi) pc = .ok (.new idx, 3)) (hg : mj_get mt_N (mt_on mi) idx = some ci) (hz : mj_z h + 1 ≤ mj_z r.2) (hu : mj_u h + (mt_cf ci).length ≤ mj_u r.2) (K : mj_Sim g l d mi (pc + 3) ls (.ref (mj_z h) :: st) (mj_nw h ci (mt_cf ci).length) r) : mj_Sim g l d mi pc ls st h r := by
  intro p e R s m args below meth c H locs cells slots mc ms rl X hH hL hS hE hc hs h1 h2
  obtain ⟨rc, e1, l1, l2, l3⟩ := mt_ok_N _ _ _ hg
  obtain ⟨f0, f1, f2, f3, f4, f5⟩ := mt_ok_cl _ _ e1
  obtain ⟨C, T, N⟩ := rc
  dsimp only at f1 f2 f3 f4 f5 l1 l2 l3
  subst f1
  rw [mt_ok_on] at l1
  refine va_new (D := g.2.1) (ci := ci) (C := C) (T := T) (N := (mt_cf ci).length) (fs := mj_fs g (mj_nw h ci (mt_cf ci).length) ci (mt_cf ci).length (mj_z h)) X.1 X.2.1 X.2.2.2.2.2.2.2.1 f4 (fun k => (mt_cf ci).getD k .int) f2 X.2.2.2.2.2.1 (X.2.2.2.2.2.2.2.1 _ l1) (X.2.2.2.2.2.2.2.1 _ l2) (X.2.2.2.2.2.2.2.1 _ l3) X.2.2.2.2.2.2.2.2.1.1 hH.2 mj_ws_D (mj_S_self hS) (mj_hA X hS) e1 (fun j hj => ?_) (by omega) (by omega) hd fun q H1 hP1 hD1 hS1 => ?_
  · rw [f5 j hj]
    simp only [vp_V, List.getD, mj_fs_at hj, Option.getD_some, mj_rd, mj_nw_r, mj_nw_i]
    cases mj_fr ci j <;> rfl
  · exact mj_alloc X hH hL hS hE hc hs h1 h2 hP1 hD1 hS1 (by rw [mj_e_obj mj_nw_m f0]) K
theorem mj_sumcat : ∀ (l : List Value), (∀ v ∈ l, v.category ≤ 2) → (l.map fun v => v.category).sum ≤ 2 * l.length
  | [], _ => by simp
  | v :: l, hv => by
    have h1 := hv v List.mem_cons_self
    have h2 := mj_sumcat l (fun w hw => hv w (List.mem_cons_of_mem _ hw))
    simp only [List.map_cons, List.sum_cons, List.length_cons]
    omega
theorem mj_cat2 (v : Value) : v.category ≤ 2 := by cases v <;> simp [Value.category]
theorem mj_g_copy {idx a0 a1 t kd : Nat} {k dp sp : Int32} {ty : FieldType} (hd : decode (mt_b mi) pc = .ok (.invokestatic idx, 3)) (hl : Cond.methodLink (mt_y mi).cls idx arraycopyName ∈ mt_TB) (hw : Cond.native arraycopyName ∈ mt_TB ∧ Cond.static arraycopyName ∈ mt_TB ∧ Cond.initialized "java/lang/System" ∈ mt_TB) (ht : mt_ty[t]? = some (kd, ty)) (hp : refKind ty = false) (h1k : 100 ≤ kd) (h2k : kd < 200)
    (hst : st.length ≤ 8) (ha0 : a0 < mj_z h) (ha1 : a1 < mj_z h) (hm0 : mj_m h a0 = (kd, (mj_m h a0).2)) (hm1 : mj_m h a1 = (kd, (mj_m h a1).2)) (q1 : ¬ sp < 0) (q2 : ¬ dp < 0) (q3 : ¬ k < 0) (q4 : sp.toNatClampNeg + k.toNatClampNeg ≤ (mj_m h a0).2) (q5 : dp.toNatClampNeg + k.toNatClampNeg ≤ (mj_m h a1).2)
    (hfit : ∀ i, i < k.toNatClampNeg → fits ty (.int (mj_i h a0 (sp.toNatClampNeg + i))) = true)
    (K : mj_Sim g l d mi (pc + 3) ls st (mj_wa h a1 (va_cpy (mj_i h a0) (mj_i h a1) sp.toNatClampNeg dp.toNatClampNeg k.toNatClampNeg)) r) : mj_Sim g l d mi pc ls (.int k :: .int dp :: .ref a1 :: .int sp :: .ref a0 :: st) h r := by
  intro p e R s m args below meth c H locs cells slots mc ms rl X hH hL hS hE hc hs h1 h2
  have hsum := mj_sumcat (st.map (mj_v g)) (fun v _ => mj_cat2 v)
  rw [List.length_map] at hsum
  have hR := X.2.2.2.2.2.2.2.2.2.2
  have hnf : nativeFrameWords "java/lang/System" "arraycopy" 5 = 7 := by decide
  refine va_copyi X.1 X.2.1 (by rw [X.2.2.1]; exact hL.1.symm) X.2.2.2.2.2.1 (X.2.2.2.2.2.2.2.1 _ hl) (X.2.2.2.2.2.2.2.1 _ hw.1) (X.2.2.2.2.2.2.2.1 _ hw.2.1) (X.2.2.2.2.2.2.2.1 _ hw.2.2) X.2.2.2.2.2.2.2.2.1.1 hH.2 mj_ws_D (mj_S_self hS) a0 a1 t t (by rw [mj_ws_at ha0, mj_e_int hm0 h1k h2k]) (by rw [mj_ws_at ha1, mj_e_int hm1 h1k h2k]) (mj_tys_at ht) (mj_tys_at ht) hp q1 q2 q3 q4 q5 hfit (by omega) (by rw [hnf]; omega) hd fun H1 locs1 hP1 _ hS1 => ?_
  refine mj_size (Nat.le_of_eq hE) fun hle => ?_
  have hsz : H1.size = H.size := Nat.le_antisymm hle hS1.1
  refine K p e R s m args below meth c H1 locs1 cells slots mc ms rl X (mj_Hp_wa (f := va_cpy (mj_i h a0) (mj_i h a1) sp.toNatClampNeg dp.toNatClampNeg k.toNatClampNeg) hH hsz ?_ hP1) hL (mj_S_tr hS hS1) (by rw [hsz]; exact hE) hc hs h1 h2
  exact (mj_e_int (h := mj_wa h a1 _) (a := a1) (kd := kd) hm1 h1k h2k).trans (by rw [mj_wa_i])
theorem mj_g_objInit {idx a : Nat} (hd : decode (mt_b mi) pc = .ok (.invokespecial idx, 3)) (hl : Cond.methodLink (mt_y mi).cls idx Lib.objectInit ∈ mt_TB) (hw : Cond.instanceMethod Lib.objectInit ∈ mt_TB ∧ Cond.code Lib.objectInit ⟨#[0xb1]⟩ 1 none ∈ mt_TB) (hst : st.length ≤ 8) (K : mj_Sim g l d mi (pc + 3) ls st h r) : mj_Sim g l d mi pc ls (.ref a :: st) h r := by
  intro p e R s m args below meth c H locs cells slots mc ms rl X hH hL hS hE hc hs h1 h2
  have hsum := mj_sumcat (st.map (mj_v g)) (fun v _ => mj_cat2 v)
  rw [List.length_map] at hsum
  have hR := X.2.2.2.2.2.2.2.2.2.2
  refine W.objInit X.1 X.2.1 X.2.2.2.2.2.1 (X.2.2.2.2.2.2.2.1 _ hl) (X.2.2.2.2.2.2.2.1 _ hw.1) (X.2.2.2.2.2.2.2.1 _ hw.2) rfl (by rw [X.2.2.1]; exact hL.1) rfl hd (by omega) (by show 2 * 0 + _ + 12 ≤ _; omega) ?_
  exact K p e R s m args below meth c H locs cells slots mc ms rl X hH hL hS hE hc hs h1 h2
theorem mj_g_vret (hd : decode (mt_b mi) pc = .ok (.return_, 1)) (hr : mt_ret mi = none) : mj_Sim g l d mi pc ls [] h (none, h) := by
  intro p e R s m args below meth c H locs cells slots mc ms rl X hH hL hS hE hc hs h1 h2
  have hlk := X.2.2.2.2.1
  refine W.widen (k := mc) (n := ms) (by dsimp only at hc; omega) (by dsimp only at hs; omega) ?_
  exact W.vret X.1 X.2.1 (by rw [X.2.2.2.1, hr]) (fun t ht hW => ⟨rfl, by rw [ht]; exact hH, hS.F ht⟩) hS.2.2 hd hlk
theorem mj_g_iret {ty : FieldType} {x : Int32} (hd : decode (mt_b mi) pc = .ok (.ireturn, 1)) (hr : mt_ret mi = some ty) (hn : narrow ty (.int x) = .int x) : mj_Sim g l d mi pc ls [.int x] h (some (.int x), h) := by
  intro p e R s m args below meth c H locs cells slots mc ms rl X hH hL hS hE hc hs h1 h2
  have hlk := X.2.2.2.2.1
  refine W.widen (k := mc) (n := ms) (by dsimp only at hc; omega) (by dsimp only at hs; omega) ?_
  exact W.zret (ty := ty) X.1 X.2.1 (by rw [X.2.2.2.1, hr]) hn (fun t ht hW => ⟨rfl, by rw [ht]; exact hH, hS.F ht⟩) hS.2.2 hd hlk
theorem mj_g_aret {ty : FieldType} {a : Nat} (hd : decode (mt_b mi) pc = .ok (.areturn, 1)) (hr : mt_ret mi = some ty) (hty : mj_isR ty = true) : mj_Sim g l d mi pc ls [.ref a] h (some (.ref a), h) := by
  intro p e R s m args below meth c H locs cells slots mc ms rl X hH hL hS hE hc hs h1 h2
  have hlk := X.2.2.2.2.1
  refine W.widen (k := mc) (n := ms) (by dsimp only at hc; omega) (by dsimp only at hs; omega) ?_
  have hrt : (∃ n, ty = .object n) ∨ ∃ t, ty = .array t := by
    cases ty <;> first | exact Or.inl ⟨_, rfl⟩ | exact Or.inr ⟨_, rfl⟩ | (simp [mj_isR] at hty; done)
  exact W.aret (v := .ref (g.1 + a)) (rt := ty) X.1 X.2.1 (by rw [X.2.2.2.1, hr]) hrt (Or.inr ⟨_, rfl⟩) (fun t ht hW => ⟨rfl, by rw [ht]; exact hH, hS.F ht⟩) hS.2.2 hd hlk
end Steps3
/-- behind a call -/
theorem mj_cont {g : mj_G} {r1 : Option Value × MH} {p : Program} {l : Launch} {e : Env} {R : Room} {s : State} {m : MethodId} {args : Array Value} {below : List Frame} {meth : Method} {c : Code} {H : Heap} {locs : List Loc} {cells slots mc ms : Nat} {Q : State → Prop} {pc : Nat} {ls : Array Slot} {rest st0 : List Value} {a : Array Value}
    (hr : va_Run p l e R s m args below meth c H locs cells slots mc ms (F0 m pc ls st0) rest (mj_Q g r1 a) (mj_A g)) (hS : va_S (mj_A g) s.heap H locs)
    (kk : ∀ (H1 : Heap) (locs1 : List Loc), mj_Hp g r1.2 H1 → va_S (mj_A g) s.heap H1 locs1 → W p l e R s m args below meth c H1 locs1 (cells + mc) (slots + ms) Q (F0 m (pc + 3) ls ((r1.1.map (mj_v g)).toList ++ rest))) : W p l e R s m args below meth c H locs cells slots Q (F0 m pc ls st0) := by
  intro T hT X
  obtain ⟨v, st₀, t, T', L, h0, X', hL, e1, e2, ⟨hv, hH, hz, hk⟩, st⟩ := hr T hT X
  cases hv
  rw [h0] at hz hk
  obtain ⟨t2, a1, b1⟩ := kk T'.heap (locs ++ L) (by rw [e1]; exact hH)
    ⟨Nat.le_trans hS.1 (by rw [e1]; exact hz), fun q h1 h2 => by rw [e1, hk q (Nat.lt_of_lt_of_le h1 hS.1) h2]; exact hS.2.1 q h1 h2, fun q hq => by
      rcases List.mem_append.mp hq with h | h
      · exact hS.2.2 q h
      · exact hL q h⟩ T' rfl X'
  exact ⟨t2, st t2 a1, b1⟩
def mj_ws1 (mj : Nat) : List Cond := Cond.code (mt_y mj) (mt_b mj) (mt_L mj) (mt_ret mj) :: mt_TB
def mj_rm (d mc ms : Nat) : Room := { frames := d + 1, cells := mc, slots := ms, locals := 64 * (d + 1) }
def mj_Pc (g : mj_G) (as : List Value) (h : MH) : Array Value → State → Prop := va_Pc (as.map (mj_v g)) (fun U => mj_Hp g h U.heap ∧ mj_Tab g U ∧ g.1 ≤ U.heap.size)
theorem mj_args_at {g : mj_G} : ∀ (as : List Value) (k i : Nat) (v : Value), (∀ w ∈ as, w.category = 1) → as[i]? = some v → (k + i, mj_v g v) ∈ lv_args k (as.map (mj_v g))
  | [], _, _, _, _, h => by simp at h
  | w :: as, k, i, v, hc, h => by
    have h1 : ¬ (mj_v g w).category = 2 := by rw [mj_v_cat (hc w List.mem_cons_self)]; decide
    show (k + i, mj_v g v) ∈ (k, mj_v g w) :: lv_args (if (mj_v g w).category = 2 then k + 2 else k + 1) (as.map (mj_v g))
    rw [if_neg h1]
    cases i with
    | zero =>
      rw [List.getElem?_cons_zero] at h
      cases h
      exact List.mem_cons_self
    | succ i =>
      rw [List.getElem?_cons_succ] at h
      have := mj_args_at (g := g) as (k + 1) i v (fun x hx => hc x (List.mem_cons_of_mem _ hx)) h
      rw [show k + (i + 1) = k + 1 + i by omega]
      exact List.mem_cons_of_mem _ this
theorem mj_sl_len {g : mj_G} : ∀ (as : List Value), (∀ w ∈ as, w.category = 1) → (lg_sl (as.map (mj_v g))).length = as.length
  | [], _ => rfl
  | w :: as, hc => by
    have h1 : ¬ (mj_v g w).category = 2 := by rw [mj_v_cat (hc w List.mem_cons_self)]; decide
    have h2 := mj_sl_len (g := g) as (fun x hx => hc x (List.mem_cons_of_mem _ hx))
    simp only [lg_sl, List.map_cons, List.flatMap_cons, if_neg h1, List.length_append, List.length_cons, List.length_nil] at h2 ⊢
    omega
theorem mj_ent_Lo {g : mj_G} {mj : Nat} {as : List Value} (hc : ∀ w ∈ as, w.category = 1) (hn : as.length ≤ mt_L mj) : mj_Lo g (mt_L mj) (mj_ent mj as) ((lg_sl (as.map (mj_v g)) ++ List.replicate (mt_L mj - (lg_sl (as.map (mj_v g))).length) Slot.unset).toArray) := by
  have hl := lv_entry (as.map (mj_v g)) (n := mt_L mj) (by rw [mj_sl_len as hc]; exact hn)
  obtain ⟨h1, h2, h3⟩ := hl
  refine ⟨h1, h2, by simp [mj_ent]; omega, fun i v hi => ?_⟩
  have hi2 : as[i]? = some v := by
    unfold mj_ent at hi
    by_cases hlt : i < as.length
    · rw [List.getElem?_append_left (by simpa using hlt)] at hi
      simpa using hi
    · rw [List.getElem?_append_right (by simpa using hlt)] at hi
      have := List.eq_of_mem_replicate (List.mem_of_getElem? hi)
      cases this
  have := mj_args_at (g := g) as 0 i v hc hi2
  rw [Nat.zero_add] at this
  exact ⟨h3 _ this, hc v (List.mem_of_getElem? hi2)⟩
theorem mj_met {g : mj_G} {l : Launch} {d mj mc ms : Nat} {as : List Value} {h : MH} {r1 : Option Value × MH} (hS : mj_Sim g l d mj 0 (mj_ent mj as) [] h r1) (hz : mj_z r1.2 = mj_z h + mc) (hu : mj_u r1.2 = mj_u h + ms) (hn : as.length ≤ mt_L mj) (hc : ∀ w ∈ as, w.category = 1) (hp : plainFor (mt_y mj) = true) :
    Met l (mt_y mj) (mj_ws1 mj) (mj_rm d mc ms) (mj_Pc g as h) (mj_Q g r1) mc ms (mj_A g) := by
  refine va_MetF (cc := mt_b mj) (maxL := mt_L mj) (ret := mt_ret mj) hp rfl ?_
  intro p e s m args below meth c s₁ B hml hv
  obtain ⟨rfl, hH, hT, hz0⟩ := hv
  have hts := atoms_spec (ws := mj_ws1 mj) B.pre
  rw [lg_entry_eq]
  exact hS p e _ s m _ below meth c s.heap [] 0 0 mc ms _ ⟨B.exec, B.bytes, hml, B.returns, B.notSynchronized, findClass_of_methodNamed B.named, fun hn => (name_of_methodNamed B.named B.method).1.trans hn, fun w hw => hts w (List.mem_cons_of_mem _ hw), hT, hz0, Nat.le_refl _, Nat.le_refl _⟩ hH (mj_ent_Lo hc hn) va_S.rf rfl (by omega) (by omega) (Nat.le_refl _) (Nat.le_refl _)
theorem mj_good {mj : Nat} (hc : Cond.code (mt_y mj) (mt_b mj) (mt_L mj) (mt_ret mj) ∈ mt_TB) : GoodIn mt_TB (mj_ws1 mj) := by
  intro w hw
  have hm : w ∈ mt_TB := by
    rcases List.mem_cons.mp hw with rfl | h
    · exact hc
    · exact h
  exact ⟨hm, good_of_word (List.mem_filter.mp hm).2⟩
end
section
/-! Calls of the small machine. -/
theorem mj_c1_sum : ∀ (l : List Value), l.all mj_c1 = true → (l.map fun v => v.category).sum = l.length
  | [], _ => rfl
  | v :: l, hv => by
    simp only [List.all_cons, Bool.and_eq_true] at hv
    have h2 := mj_c1_sum l hv.2
    have h1 : v.category = 1 := by simpa [mj_c1] using hv.1
    simp only [List.map_cons, List.sum_cons, List.length_cons]
    omega
theorem mj_c1_map {g : mj_G} : ∀ (l : List Value), l.all mj_c1 = true → (l.map (mj_v g)).all mj_c1 = true
  | [], _ => rfl
  | v :: l, hv => by
    simp only [List.all_cons, Bool.and_eq_true] at hv
    have h1 : v.category = 1 := by simpa [mj_c1] using hv.1
    simp only [List.map_cons, List.all_cons, Bool.and_eq_true]
    exact ⟨by simp [mj_c1, mj_v_cat h1], mj_c1_map l hv.2⟩
theorem mj_c1_of {as : List Value} (h : as.all mj_c1 = true) : ∀ w ∈ as, w.category = 1 := fun w hw => by
  have := List.all_eq_true.mp h w hw
  simpa [mj_c1] using this
section Calls
variable {g : mj_G} {l : Launch} {d mi pc : Nat} {ls : List (Option Value)} {h : MH} {r r1 : Option Value × MH} {as rest : List Value} {idx mj : Nat}
theorem mj_blind : FrameBlind (mj_Pc g as h) := by
  intro a U gg mk q
  obtain ⟨q0, q1, q2, q3⟩ := q
  exact ⟨q0, q1, mj_Tab_eq q2 rfl rfl, q3⟩
theorem mj_pre {p : Program} {R : Room} {s : State} {m : MethodId} {args : Array Value} {meth : Method} {c : Code} {H : Heap} {locs : List Loc} (X : mj_Cx g d mi p R s m args meth c) (hH : mj_Hp g h H) (hS : va_S (mj_A g) s.heap H locs) : ∀ U : State, U.heap = H → s.WarmedH U.vm → mj_Pc g as h (as.map (mj_v g)).toArray U := by
  intro U hU hW
  have hz := X.2.2.2.2.2.2.2.2.2.1
  refine ⟨rfl, by rw [hU]; exact hH, mj_Tab_mv X.2.2.2.2.2.2.2.2.1 hW hz (fun q h1 h2 => by rw [hU]; exact hS.2.1 q h1 h2), by rw [hU]; exact Nat.le_trans hz hS.1⟩
/-- what goes on behind a call, whichever it was -/
theorem mj_back {p : Program} {e : Env} {R : Room} {s : State} {m : MethodId} {args : Array Value} {below : List Frame} {meth : Method} {c : Code} {H : Heap} {locs : List Loc} {cells slots mc ms mc1 ms1 : Nat} {rl : Array Slot} {st0 : List Value} {a : Array Value}
    (X : mj_Cx g d mi p R s m args meth c) (hL : mj_Lo g (mt_L mi) ls rl) (hS : va_S (mj_A g) s.heap H locs) (hH : mj_Hp g h H) (hE : s.heap.size + cells = H.size) (hc : cells + mj_z r.2 ≤ mc + mj_z h) (hs : slots + mj_u r.2 ≤ ms + mj_u h) (h1 : mc ≤ R.cells) (h2 : ms ≤ R.slots)
    (hz1 : mj_z r1.2 = mj_z h + mc1) (hu1 : mj_u r1.2 = mj_u h + ms1)
    (hr : va_Run p l e R s m args below meth c H locs cells slots mc1 ms1 (F0 m pc rl st0) (rest.map (mj_v g)) (mj_Q g r1 a) (mj_A g))
    (K : mj_Sim g l d mi (pc + 3) ls (r1.1.toList ++ rest) r1.2 r) : W p l e R s m args below meth c H locs cells slots (MQ below (mj_Q g r) args s mc ms (mj_A g)) (F0 m pc rl st0) := by
  refine mj_cont hr hS fun H1 locs1 hH1 hS1 => ?_
  have e1 : (r1.1.map (mj_v g)).toList ++ rest.map (mj_v g) = (r1.1.toList ++ rest).map (mj_v g) := by cases r1.1 <;> simp
  rw [e1]
  exact K p e R s m args below meth c H1 locs1 (cells + mc1) (slots + ms1) mc ms rl X hH1 hL hS1 (by have := hH.1; have := hH1.1; omega) (by omega) (by omega) h1 h2
theorem mj_stk {a : Nat} {as : List Value} : ((Value.ref a :: as).reverse ++ rest).map (mj_v g) = (as.map (mj_v g)).reverse ++ Value.ref (g.1 + a) :: rest.map (mj_v g) := by
  simp [mj_v]
theorem mj_stkL {a : Nat} {as : List Value} : ((Value.retAddr a :: as).reverse ++ rest).map (mj_v g) = (as.map (mj_v g)).reverse ++ Value.ref (g.2.2.2.1 a) :: rest.map (mj_v g) := by
  simp [mj_v]
theorem mj_stk0 : (as.reverse ++ rest).map (mj_v g) = (as.map (mj_v g)).reverse ++ rest.map (mj_v g) := by
  simp
theorem mj_c_S (hd : decode (mt_b mi) pc = .ok (.invokestatic idx, 3)) (hj : 0 < mj ∧ mj < mt_T.length) (hl : Cond.methodLink (mt_y mi).cls idx (mt_y mj) ∈ mt_TB ∨ ∃ host, Cond.methodLinkNest (mt_y mi).cls idx (mt_y mj) host ∈ mt_NW) (hst : Cond.static (mt_y mj) ∈ mt_TB) (hn : (parseMethodDescriptor (mt_y mj).desc).map (fun d => d.parameters.length) = some (mt_n mj))
    (hr8 : rest.length ≤ 8) (hrc : rest.all mj_c1 = true) (hac : as.all mj_c1 = true) (han : as.length = mt_n mj) (S1 : mj_Sim g l d mj 0 (mj_ent mj as) [] h r1) (m1 : mj_z h ≤ mj_z r1.2) (m2 : mj_u h ≤ mj_u r1.2) (m3 : mj_z r1.2 ≤ mj_z r.2) (m4 : mj_u r1.2 ≤ mj_u r.2)
    (K : mj_Sim g l (d + 1) mi (pc + 3) ls (r1.1.toList ++ rest) r1.2 r) : mj_Sim g l (d + 1) mi pc ls (as.reverse ++ rest) h r := by
  intro p e R s m args below meth c H locs cells slots mc ms rl X hH hL hS hE hc hs h1 h2
  obtain ⟨k1, k2, k3, k4, k5, k6⟩ := mt_ok_M mj hj
  obtain ⟨mc1, hz1⟩ := Nat.exists_eq_add_of_le m1
  obtain ⟨ms1, hu1⟩ := Nat.exists_eq_add_of_le m2
  have hM := mj_met S1 hz1 hu1 (by omega) (mj_c1_of hac) k1
  have hR := X.2.2.2.2.2.2.2.2.2.2
  have hts := X.2.2.2.2.2.2.2.1
  have hroom : (mj_rm d mc1 ms1).frames + 1 ≤ R.frames ∧ 8 + (mt_L mj + 11) + (mj_rm d mc1 ms1).locals ≤ R.locals := ⟨hR.1, by show 8 + (mt_L mj + 11) + 64 * (d + 1) ≤ _; omega⟩
  have hsum : ((rest.map (mj_v g)).map fun v => v.category).sum ≤ 8 := by rw [mj_c1_sum _ (mj_c1_map _ hrc), List.length_map]; exact hr8
  rw [mj_stk0]
  rcases hl with hl | ⟨host, hl⟩
  · exact mj_back X hL hS hH hE hc hs h1 h2 hz1 hu1 (va_runS ⟨X.1, X.2.1, X.2.2.1, X.2.2.2.2.2.1, hts⟩ hM ⟨callB_of (mt_n mj) hts (mj_good k2) rfl rfl rfl (hts _ k3) (hts _ hl) ⟨k4.1, k4.2, hn⟩ hroom, hts _ hst⟩ ⟨mj_blind, mj_pre X hH hS⟩ rfl (by rw [List.length_map]; exact han) hL.1 rfl (lv_room hsum) hd ⟨by omega, by omega⟩) K
  · exact mj_back X hL hS hH hE hc hs h1 h2 hz1 hu1 (va_runSN ⟨X.1, X.2.1, X.2.2.1, X.2.2.2.2.2.1, hts⟩ hM ⟨va_cnB (mt_n mj) hts (mj_good k2) rfl rfl rfl (X.2.2.2.2.2.2.2.2.1.2.1 _ hl) (hts _ k3) ⟨k4.1, k4.2, hn⟩ hroom, hts _ hst, trivial⟩ ⟨mj_blind, mj_pre X hH hS⟩ rfl (by rw [List.length_map]; exact han) hL.1 rfl (lv_room hsum) hd ⟨by omega, by omega⟩) K
theorem mj_c_I {a : Nat} {as : List Value} (hd : decode (mt_b mi) pc = .ok (.invokespecial idx, 3)) (hj : 0 < mj ∧ mj < mt_T.length) (hl : Cond.methodLink (mt_y mi).cls idx (mt_y mj) ∈ mt_TB ∨ ∃ host, Cond.methodLinkNest (mt_y mi).cls idx (mt_y mj) host ∈ mt_NW) (hst : Cond.instanceMethod (mt_y mj) ∈ mt_TB) (hnm : (mt_y mj).name = "<init>") (hret : mt_ret mj = none) (hn : (parseMethodDescriptor (mt_y mj).desc).map (fun d => d.parameters.length) = some (mt_n mj - 1))
    (hr8 : rest.length ≤ 8) (hrc : rest.all mj_c1 = true) (hac : (Value.ref a :: as).all mj_c1 = true) (han : (Value.ref a :: as).length = mt_n mj) (S1 : mj_Sim g l d mj 0 (mj_ent mj (.ref a :: as)) [] h r1) (m1 : mj_z h ≤ mj_z r1.2) (m2 : mj_u h ≤ mj_u r1.2) (m3 : mj_z r1.2 ≤ mj_z r.2) (m4 : mj_u r1.2 ≤ mj_u r.2)
    (K : mj_Sim g l (d + 1) mi (pc + 3) ls (r1.1.toList ++ rest) r1.2 r) : mj_Sim g l (d + 1) mi pc ls ((.ref a :: as).reverse ++ rest) h r := by
  intro p e R s m args below meth c H locs cells slots mc ms rl X hH hL hS hE hc hs h1 h2
  obtain ⟨k1, k2, k3, k4, k5, k6⟩ := mt_ok_M mj hj
  obtain ⟨mc1, hz1⟩ := Nat.exists_eq_add_of_le m1
  obtain ⟨ms1, hu1⟩ := Nat.exists_eq_add_of_le m2
  have hM := mj_met S1 hz1 hu1 (by omega) (mj_c1_of hac) k1
  have hR := X.2.2.2.2.2.2.2.2.2.2
  have hts := X.2.2.2.2.2.2.2.1
  have hroom : (mj_rm d mc1 ms1).frames + 1 ≤ R.frames ∧ 8 + (mt_L mj + 11) + (mj_rm d mc1 ms1).locals ≤ R.locals := ⟨hR.1, by show 8 + (mt_L mj + 11) + 64 * (d + 1) ≤ _; omega⟩
  have hsum : ((rest.map (mj_v g)).map fun v => v.category).sum ≤ 8 := by rw [mj_c1_sum _ (mj_c1_map _ hrc), List.length_map]; exact hr8
  have hlen : (as.map (mj_v g)).length = mt_n mj - 1 := by
    rw [List.length_map]
    rw [List.length_cons] at han
    omega
  rw [mj_stk]
  have hw1 : mj_ws1 mj = Cond.code (mt_y mj) (mt_b mj) (mt_L mj) none :: mt_TB := by rw [mj_ws1, hret]
  rcases hl with hl | ⟨host, hl⟩
  · exact mj_back X hL hS hH hE hc hs h1 h2 hz1 hu1 (va_runI (b := g.1 + a) (As := as.map (mj_v g)) ⟨X.1, X.2.1, X.2.2.1, X.2.2.2.2.2.1, hts⟩ hM (cwI (mt_n mj - 1) hts (mj_good k2) hw1 rfl rfl (hts _ k3) (hts _ hl) (hts _ hst) hnm ⟨k4.1, k4.2, hn⟩ hroom) ⟨mj_blind, mj_pre X hH hS⟩ rfl hlen hL.1 rfl (lv_room hsum) hd ⟨by omega, by omega⟩) K
  · exact mj_back X hL hS hH hE hc hs h1 h2 hz1 hu1 (va_runIN (b := g.1 + a) (As := as.map (mj_v g)) ⟨X.1, X.2.1, X.2.2.1, X.2.2.2.2.2.1, hts⟩ hM ⟨va_cnB (mt_n mj - 1) hts (mj_good k2) hw1 rfl rfl (X.2.2.2.2.2.2.2.2.1.2.1 _ hl) (hts _ k3) ⟨k4.1, k4.2, hn⟩ hroom, hnm, hts _ hst⟩ ⟨mj_blind, mj_pre X hH hS⟩ rfl hlen hL.1 rfl (lv_room hsum) hd ⟨by omega, by omega⟩) K
theorem mj_c_V {v : Value} {b : Nat} {C : String} {as : List Value} (hd : decode (mt_b mi) pc = .ok (.invokevirtual idx, 3)) (hj : 0 < mj ∧ mj < mt_T.length) (hl : mj_lkV (mt_y mi).cls idx C mj) (hst : Cond.instanceMethod (mt_y mj) ∈ mt_TB) (hn : (parseMethodDescriptor (mt_y mj).desc).map (fun d => d.parameters.length) = some (mt_n mj - 1)) (hv : mj_v g v = .ref b)
    (hrecv : ∀ (p : Program) (R : Room) (s : State) (m : MethodId) (args : Array Value) (meth : Method) (c : Code) (H : Heap) (locs : List Loc), mj_Cx g (d + 1) mi p R s m args meth c → mj_Hp g h H → va_S (mj_A g) s.heap H locs → ∃ cell : Cell, H[b]? = some cell ∧ cell.vm.isStatics = false ∧ s.vm.findClass C = some cell.cls)
    (hr8 : rest.length ≤ 8) (hrc : rest.all mj_c1 = true) (hac : (v :: as).all mj_c1 = true) (han : (v :: as).length = mt_n mj) (S1 : mj_Sim g l d mj 0 (mj_ent mj (v :: as)) [] h r1) (m1 : mj_z h ≤ mj_z r1.2) (m2 : mj_u h ≤ mj_u r1.2) (m3 : mj_z r1.2 ≤ mj_z r.2) (m4 : mj_u r1.2 ≤ mj_u r.2)
    (K : mj_Sim g l (d + 1) mi (pc + 3) ls (r1.1.toList ++ rest) r1.2 r) : mj_Sim g l (d + 1) mi pc ls ((v :: as).reverse ++ rest) h r := by
  intro p e R s m args below meth c H locs cells slots mc ms rl X hH hL hS hE hc hs h1 h2
  obtain ⟨k1, k2, k3, k4, k5, k6⟩ := mt_ok_M mj hj
  obtain ⟨mc1, hz1⟩ := Nat.exists_eq_add_of_le m1
  obtain ⟨ms1, hu1⟩ := Nat.exists_eq_add_of_le m2
  have hM := mj_met S1 hz1 hu1 (by omega) (mj_c1_of hac) k1
  have hR := X.2.2.2.2.2.2.2.2.2.2
  have hts := X.2.2.2.2.2.2.2.1
  have hroom : (mj_rm d mc1 ms1).frames + 1 ≤ R.frames ∧ 8 + (mt_L mj + 11) + (mj_rm d mc1 ms1).locals ≤ R.locals := ⟨hR.1, by show 8 + (mt_L mj + 11) + 64 * (d + 1) ≤ _; omega⟩
  have hsum : ((rest.map (mj_v g)).map fun v => v.category).sum ≤ 8 := by rw [mj_c1_sum _ (mj_c1_map _ hrc), List.length_map]; exact hr8
  have hlen : (as.map (mj_v g)).length = mt_n mj - 1 := by
    rw [List.length_map]
    rw [List.length_cons] at han
    omega
  have hstk : ((v :: as).reverse ++ rest).map (mj_v g) = (as.map (mj_v g)).reverse ++ Value.ref b :: rest.map (mj_v g) := by simp [hv]
  rw [hstk]
  have hcell := hrecv p R s m args meth c H locs X hH hS
  have hpre : ∀ U : State, U.heap = H → s.WarmedH U.vm → mj_Pc g (v :: as) h (Value.ref b :: as.map (mj_v g)).toArray U := by
    intro U hU hW
    have := mj_pre (as := v :: as) X hH hS U hU hW
    rw [List.map_cons, hv] at this
    exact this
  rcases hl with ⟨hl, hse⟩ | ⟨host, hl, hse⟩ | ⟨x, owner, hl, hsm, hse, hde, ho1, ho2, hxd⟩
  · exact mj_back X hL hS hH hE hc hs h1 h2 hz1 hu1 (va_runV (C := C) (b := b) (As := as.map (mj_v g)) ⟨X.1, X.2.1, X.2.2.1, X.2.2.2.2.2.1, hts⟩ hM ⟨callB_of (mt_n mj - 1) hts (mj_good k2) rfl rfl rfl (hts _ k3) (hts _ hl) ⟨k4.1, k4.2, hn⟩ hroom, hts _ hst, hts _ hse⟩ ⟨mj_blind, hcell, hpre⟩ rfl hlen hL.1 rfl (lv_room hsum) hd ⟨by omega, by omega⟩) K
  · exact mj_back X hL hS hH hE hc hs h1 h2 hz1 hu1 (va_runVN (C := C) (b := b) (As := as.map (mj_v g)) ⟨X.1, X.2.1, X.2.2.1, X.2.2.2.2.2.1, hts⟩ hM ⟨va_cnB (mt_n mj - 1) hts (mj_good k2) rfl rfl rfl (X.2.2.2.2.2.2.2.2.1.2.1 _ hl) (hts _ k3) ⟨k4.1, k4.2, hn⟩ hroom, hts _ hst, hts _ hse⟩ ⟨mj_blind, hcell, hpre⟩ rfl hlen hL.1 rfl (lv_room hsum) hd ⟨by omega, by omega⟩) K
  · have hG : GoodIn mt_TB (va_wsU (mt_y mi).cls idx C owner x (mt_y mj) (mj_ws1 mj)) := by
      intro w hw
      have hm : w ∈ mt_TB := by
        rcases List.mem_append.mp hw with hw | hw
        · simp only [List.mem_cons, List.not_mem_nil, or_false] at hw
          rcases hw with rfl | rfl | rfl | rfl | rfl
          · exact hl
          · exact hsm
          · exact hse
          · exact hst
          · exact k3
        · exact (mj_good k2 w hw).1
      exact ⟨hm, good_of_word (List.mem_filter.mp hm).2⟩
    exact mj_back X hL hS hH hE hc hs h1 h2 hz1 hu1 (va_runU (C := C) (owner := owner) (x := x) (b := b) (As := as.map (mj_v g)) ⟨X.1, X.2.1, X.2.2.1, X.2.2.2.2.2.1, hts⟩ hM (va_cwA (mt_n mj - 1) hts hG rfl rfl rfl (X.2.2.2.2.2.2.2.2.1.2.1 _ hde) ⟨ho1, ho2, by rw [hxd]; exact hn⟩ hroom) ⟨mj_blind, hcell, hpre⟩ rfl hlen hL.1 rfl (lv_room hsum) hd ⟨by omega, by omega⟩) K
end Calls
end
section
/-! Every step of the small machine is the true machine's. -/
def mj_OK (g : mj_G) (l : Launch) (d mi pc : Nat) (ls : List (Option Value)) (st : List Value) (h : MH) : MOut → Prop
  | .inl f => (mj_z h ≤ mj_z f.2.2.2 ∧ mj_u h ≤ mj_u f.2.2.2) ∧ ∀ r : Option Value × MH, mj_z f.2.2.2 ≤ mj_z r.2 → mj_u f.2.2.2 ≤ mj_u r.2 → mj_Sim g l d mi f.1 f.2.1 f.2.2.1 f.2.2.2 r → mj_Sim g l d mi pc ls st h r
  | .inr (.inr v) => mj_Sim g l d mi pc ls st h (v, h)
  | .inr (.inl q) => ∀ (d' : Nat) (r1 r : Option Value × MH), d = d' + 1 → mj_Sim g l d' q.1 0 (mj_ent q.1 q.2.1) [] h r1 → mj_z h ≤ mj_z r1.2 → mj_u h ≤ mj_u r1.2 → mj_z r1.2 ≤ mj_z r.2 → mj_u r1.2 ≤ mj_u r.2 → mj_Sim g l d mi q.2.2.1 ls (r1.1.toList ++ q.2.2.2) r1.2 r → mj_Sim g l d mi pc ls st h r
section Cases
variable {g : mj_G} {l : Launch} {d mi pc n : Nat} {ls : List (Option Value)} {st : List Value} {h : MH} {o : MOut}
theorem mj_k_nx {pc' : Nat} {ls' : List (Option Value)} {st' : List Value} {h' : MH} (hz : mj_z h ≤ mj_z h' ∧ mj_u h ≤ mj_u h') (k : ∀ r : Option Value × MH, mj_z h' ≤ mj_z r.2 → mj_u h' ≤ mj_u r.2 → mj_Sim g l d mi pc' ls' st' h' r → mj_Sim g l d mi pc ls st h r) (e : mj_nx pc' ls' st' h' = some o) : mj_OK g l d mi pc ls st h o := by
  unfold mj_nx at e
  cases e
  exact ⟨hz, k⟩
theorem mj_k_n0 {pc' : Nat} {ls' : List (Option Value)} {st' : List Value} (k : ∀ r : Option Value × MH, mj_Sim g l d mi pc' ls' st' h r → mj_Sim g l d mi pc ls st h r) (e : mj_nx pc' ls' st' h = some o) : mj_OK g l d mi pc ls st h o := mj_k_nx ⟨Nat.le_refl _, Nat.le_refl _⟩ (fun r _ _ K => k r K) e
theorem mj_k_bi {ok : Int32 → Bool} {f : Int32 → Int32 → Int32} (k : ∀ (x y : Int32) (r : List Value) (rr : Option Value × MH), n = 1 → ok y = true → mj_Sim g l d mi (pc + 1) ls (.int (f x y) :: r) h rr → mj_Sim g l d mi pc ls (.int y :: .int x :: r) h rr) (e : mj_bi n pc ls st h ok f = some o) : mj_OK g l d mi pc ls st h o := by
  unfold mj_bi at e
  split at e
  · next hn =>
    split at e
    · split at e
      · next hy => exact mj_k_n0 (fun rr K => k _ _ _ rr hn hy K) e
      · cases e
    · cases e
  · cases e
theorem mj_k_un {f : Int32 → Int32} (k : ∀ (x : Int32) (r : List Value) (rr : Option Value × MH), n = 1 → mj_Sim g l d mi (pc + 1) ls (.int (f x) :: r) h rr → mj_Sim g l d mi pc ls (.int x :: r) h rr) (e : mj_un n pc ls st h f = some o) : mj_OK g l d mi pc ls st h o := by
  unfold mj_un at e
  split at e
  · next hn =>
    split at e
    · exact mj_k_n0 (fun rr K => k _ _ rr hn K) e
    · cases e
  · cases e
theorem mj_k_if {off : Int} {b : Bool} {st' : List Value} (k : ∀ rr : Option Value × MH, n = 3 → mj_ok pc off = true → (b = true → mj_Sim g l d mi (mj_to pc off) ls st' h rr) → (b = false → mj_Sim g l d mi (pc + 3) ls st' h rr) → mj_Sim g l d mi pc ls st h rr) (e : mj_if n pc off b ls st' h = some o) : mj_OK g l d mi pc ls st h o := by
  unfold mj_if at e
  split at e
  · next hn =>
    split at e
    · next hb => exact mj_k_n0 (fun rr K => k rr hn.1 hn.2 (fun _ => K) (fun z => by rw [hb] at z; cases z)) e
    · next hb => exact mj_k_n0 (fun rr K => k rr hn.1 hn.2 (fun z => absurd z hb) (fun _ => K)) e
  · cases e
theorem mj_k_i1 {off : Int} {f : Int32 → Bool} (k : ∀ (x : Int32) (r : List Value) (rr : Option Value × MH), n = 3 → mj_ok pc off = true → (f x = true → mj_Sim g l d mi (mj_to pc off) ls r h rr) → (f x = false → mj_Sim g l d mi (pc + 3) ls r h rr) → mj_Sim g l d mi pc ls (.int x :: r) h rr) (e : mj_i1 n pc off f ls st h = some o) : mj_OK g l d mi pc ls st h o := by
  unfold mj_i1 at e
  split at e
  · exact mj_k_if (fun rr h1 h2 h3 h4 => k _ _ rr h1 h2 h3 h4) e
  · cases e
theorem mj_k_i2 {off : Int} {f : Int32 → Int32 → Bool} (k : ∀ (x y : Int32) (r : List Value) (rr : Option Value × MH), n = 3 → mj_ok pc off = true → (f x y = true → mj_Sim g l d mi (mj_to pc off) ls r h rr) → (f x y = false → mj_Sim g l d mi (pc + 3) ls r h rr) → mj_Sim g l d mi pc ls (.int y :: .int x :: r) h rr) (e : mj_i2 n pc off f ls st h = some o) : mj_OK g l d mi pc ls st h o := by
  unfold mj_i2 at e
  split at e
  · exact mj_k_if (fun rr h1 h2 h3 h4 => k _ _ _ rr h1 h2 h3 h4) e
  · cases e
theorem mj_k_li {i len : Nat} (k : ∀ (x : Int32) (rr : Option Value × MH), n = len → ls.getD i none = some (.int x) → mj_Sim g l d mi (pc + len) ls (.int x :: st) h rr → mj_Sim g l d mi pc ls st h rr) (e : mj_li i len pc n ls st h = some o) : mj_OK g l d mi pc ls st h o := by
  unfold mj_li at e
  split at e
  · next hn =>
    split at e
    · next hx => exact mj_k_n0 (fun rr K => k _ rr hn hx K) e
    · cases e
  · cases e
theorem mj_k_la {i len : Nat} (k : ∀ (v : Value) (rr : Option Value × MH), n = len → ls.getD i none = some v → (v = .null ∨ (∃ a, v = .ref a) ∨ ∃ a, v = .retAddr a) → mj_Sim g l d mi (pc + len) ls (v :: st) h rr → mj_Sim g l d mi pc ls st h rr) (e : mj_la i len pc n ls st h = some o) : mj_OK g l d mi pc ls st h o := by
  unfold mj_la at e
  split at e
  · next hn =>
    split at e
    · next hx => exact mj_k_n0 (fun rr K => k _ rr hn hx (Or.inl rfl) K) e
    · next hx => exact mj_k_n0 (fun rr K => k _ rr hn hx (Or.inr (Or.inl ⟨_, rfl⟩)) K) e
    · next hx => exact mj_k_n0 (fun rr K => k _ rr hn hx (Or.inr (Or.inr ⟨_, rfl⟩)) K) e
    · cases e
  · cases e
theorem mj_k_si {i len : Nat} (k : ∀ (x : Int32) (r : List Value) (rr : Option Value × MH), n = len → i < ls.length → mj_Sim g l d mi (pc + len) (ls.set i (some (.int x))) r h rr → mj_Sim g l d mi pc ls (.int x :: r) h rr) (e : mj_si i len pc n ls st h = some o) : mj_OK g l d mi pc ls st h o := by
  unfold mj_si at e
  split at e
  · next hn =>
    split at e
    · exact mj_k_n0 (fun rr K => k _ _ rr hn.1 hn.2 K) e
    · cases e
  · cases e
theorem mj_k_sa {i len : Nat} (k : ∀ (v : Value) (r : List Value) (rr : Option Value × MH), n = len → i < ls.length → (v = .null ∨ (∃ a, v = .ref a) ∨ ∃ a, v = .retAddr a) → mj_Sim g l d mi (pc + len) (ls.set i (some v)) r h rr → mj_Sim g l d mi pc ls (v :: r) h rr) (e : mj_sa i len pc n ls st h = some o) : mj_OK g l d mi pc ls st h o := by
  unfold mj_sa at e
  split at e
  · next hn =>
    split at e
    · exact mj_k_n0 (fun rr K => k _ _ rr hn.1 hn.2 (Or.inl rfl) K) e
    · exact mj_k_n0 (fun rr K => k _ _ rr hn.1 hn.2 (Or.inr (Or.inl ⟨_, rfl⟩)) K) e
    · exact mj_k_n0 (fun rr K => k _ _ rr hn.1 hn.2 (Or.inr (Or.inr ⟨_, rfl⟩)) K) e
    · cases e
  · cases e
theorem mj_k_ald {kd : Nat} (k : ∀ (i : Int32) (a : Nat) (r : List Value) (rr : Option Value × MH), n = 1 → mj_kd h a kd i = true → mj_Sim g l d mi (pc + 1) ls (.int (mj_i h a i.toNatClampNeg) :: r) h rr → mj_Sim g l d mi pc ls (.int i :: .ref a :: r) h rr) (e : mj_ald kd n pc ls st h = some o) : mj_OK g l d mi pc ls st h o := by
  unfold mj_ald at e
  split at e
  · next hn =>
    split at e
    · split at e
      · next hk => exact mj_k_n0 (fun rr K => k _ _ _ rr hn hk K) e
      · cases e
    · cases e
  · cases e
theorem mj_k_ast {kd : Nat} {f : Int32 → Int32} (k : ∀ (x i : Int32) (a : Nat) (r : List Value) (rr : Option Value × MH), n = 1 → mj_kd h a kd i = true → mj_Sim g l d mi (pc + 1) ls r (mj_wi h a i.toNatClampNeg (f x)) rr → mj_Sim g l d mi pc ls (.int x :: .int i :: .ref a :: r) h rr) (e : mj_ast kd n pc f ls st h = some o) : mj_OK g l d mi pc ls st h o := by
  unfold mj_ast at e
  split at e
  · next hn =>
    split at e
    · split at e
      · next hk => exact mj_k_nx (h' := mj_wi h _ _ _) ⟨Nat.le_refl _, Nat.le_refl _⟩ (fun rr _ _ K => k _ _ _ _ rr hn hk K) e
      · cases e
    · cases e
  · cases e
theorem mj_k_call {mj : Nat} {as rest : List Value} (k : ∀ (d' : Nat) (r1 r : Option Value × MH), n = 3 → rest.length ≤ 8 → rest.all mj_c1 = true → as.all mj_c1 = true → as.length = mt_n mj → d = d' + 1 → mj_Sim g l d' mj 0 (mj_ent mj as) [] h r1 → mj_z h ≤ mj_z r1.2 → mj_u h ≤ mj_u r1.2 → mj_z r1.2 ≤ mj_z r.2 → mj_u r1.2 ≤ mj_u r.2 → mj_Sim g l d mi (pc + 3) ls (r1.1.toList ++ rest) r1.2 r → mj_Sim g l d mi pc ls st h r) (e : mj_call pc n mj as rest = some o) : mj_OK g l d mi pc ls st h o := by
  unfold mj_call at e
  split at e
  · next hn =>
    cases e
    intro d' r1 r hd' S1 m1 m2 m3 m4 K
    exact k d' r1 r hn.1 hn.2.1 hn.2.2.1 hn.2.2.2.1 hn.2.2.2.2 hd' S1 m1 m2 m3 m4 K
  · cases e
end Cases
section Main1
variable {g : mj_G} {l : Launch} {d mi pc n : Nat} {ls : List (Option Value)} {st : List Value} {h : MH} {o : MOut}
theorem mj_k_na {kd len : Nat} (k : ∀ (x : Int32) (r : List Value) (rr : Option Value × MH), n = len → ¬ x < 0 → x.toNatClampNeg ≤ 65536 → mj_z h + 1 ≤ mj_z rr.2 → mj_u h + x.toNatClampNeg ≤ mj_u rr.2 → mj_Sim g l d mi (pc + len) ls (.ref (mj_z h) :: r) (mj_nw h kd x.toNatClampNeg) rr → mj_Sim g l d mi pc ls (.int x :: r) h rr) (e : mj_na kd n len pc ls st h = some o) : mj_OK g l d mi pc ls st h o := by
  unfold mj_na at e
  split at e
  · next hn =>
    split at e
    · split at e
      · next hk => exact mj_k_nx (h' := mj_nw h _ _) ⟨Nat.le_succ _, Nat.le_add_right _ _⟩ (fun rr h1 h2 K => k _ _ rr hn hk.1 hk.2 h1 h2 K) e
      · cases e
    · cases e
  · cases e
theorem mj_k_new {idx : Nat} (hd : n = 3 → decode (mt_b mi) pc = .ok (.new idx, 3)) (e : mj_new mi pc n idx ls st h = some o) : mj_OK g l d mi pc ls st h o := by
  unfold mj_new at e
  split at e
  · next hg =>
    split at e
    · next hn => exact mj_k_nx (h' := mj_nw h _ _) ⟨Nat.le_succ _, Nat.le_add_right _ _⟩ (fun rr h1 h2 K => mj_g_new (hd hn) hg h1 h2 K) e
    · cases e
  · cases e
theorem mj_k_anew {idx : Nat} (hd : n = 3 → decode (mt_b mi) pc = .ok (.anewarray idx, 3)) (e : (match mj_get mt_NA (mt_on mi) idx with
    | some kd => mj_na kd n 3 pc ls st h
    | none => none) = some o) : mj_OK g l d mi pc ls st h o := by
  split at e
  · next hg =>
    obtain ⟨t, C, h1, h2, h3, h4⟩ := mt_ok_NA _ _ _ hg
    rw [mt_ok_on] at h3
    exact mj_k_na (fun x r rr hn q1 q2 q3 q4 K => mj_g_naq (hd hn) h1 h2 h3 h4 q1 q2 q3 q4 K) e
  · cases e
theorem mj_k_aal (hd : n = 1 → decode (mt_b mi) pc = .ok (.aaload, 1)) (e : mj_aal n pc ls st h = some o) : mj_OK g l d mi pc ls st h o := by
  unfold mj_aal at e
  split at e
  · next hn =>
    split at e
    · split at e
      · next hk =>
        refine mj_k_n0 (fun rr K => ?_) e
        rw [Bool.or_eq_true] at hk
        rcases hk with hk | hk
        · exact mj_g_aald (hd hn) mt_ty3 (by omega) hk K
        · exact mj_g_aald (hd hn) mt_ty4 (by omega) hk K
      · cases e
    · cases e
  · cases e
theorem mj_k_aas (hd : n = 1 → decode (mt_b mi) pc = .ok (.aastore, 1)) (e : mj_aas n pc ls st h = some o) : mj_OK g l d mi pc ls st h o := by
  unfold mj_aas at e
  split at e
  · next hn =>
    split at e
    · split at e
      · next hk =>
        obtain ⟨hb, hs, hk⟩ := hk
        obtain ⟨q, hq, hq2⟩ := List.any_eq_true.mp hs
        simp only [Bool.and_eq_true, beq_iff_eq] at hq2
        obtain ⟨t, C, rc, h1, h2, h3, h4⟩ := mt_ok_sub q hq
        rw [hq2.1] at h3
        rw [hq2.2] at h1 h2
        exact mj_k_nx (h' := mj_wr h _ _ _) ⟨Nat.le_refl _, Nat.le_refl _⟩ (fun rr _ _ K => mj_g_aast (hd hn) h1 h2 hk hb rfl h3 h4 K) e
      · cases e
    · cases e
  · cases e
theorem mj_k_len (hd : n = 1 → decode (mt_b mi) pc = .ok (.arraylength, 1)) (e : mj_len g.2.2.2.2.1 n pc ls st h = some o) : mj_OK g l d mi pc ls st h o := by
  unfold mj_len at e
  split at e
  · next hn =>
    split at e
    · split at e
      · next hk =>
        obtain ⟨ha, h1, hs⟩ := hk
        obtain ⟨q, hq, hq2⟩ := List.any_eq_true.mp hs
        simp only [beq_iff_eq] at hq2
        obtain ⟨t, ht⟩ := List.getElem?_of_mem hq
        refine mj_k_n0 (fun rr K => mj_g_alen (hd hn) (kd := q.1) (ty := q.2) ht (by rw [hq2]; exact h1) ha (by rw [hq2]) K) e
      · cases e
    · split at e
      · next h0 =>
        subst h0
        exact mj_k_n0 (fun rr K => mj_g_slen (hd hn) K) e
      · next h0 =>
        split at e
        · next a _ hk =>
          have e1 : a = 2 * (a / 2 - 1) + 2 := by omega
          refine mj_k_n0 (fun rr K => ?_) e
          rw [e1]
          exact mj_g_llen (hd hn) (by omega) K
        · cases e
    · cases e
  · cases e
theorem mj_k_ial (hd : n = 1 → decode (mt_b mi) pc = .ok (.iaload, 1)) (e : mj_ial g.2.2.2.2.1 g.2.2.2.2.2 n pc ls st h = some o) : mj_OK g l d mi pc ls st h o := by
  unfold mj_ial at e
  split at e
  · split at e
    · next hk => exact mj_k_n0 (fun rr K => mj_g_sld (hd hk.1) hk.2 K) e
    · cases e
  · exact mj_k_ald (fun i a r rr hn hk K => mj_g_iald (hd hn) hk K) e
theorem mj_k_bal (hd : n = 1 → decode (mt_b mi) pc = .ok (.baload, 1)) (e : mj_bal n pc ls st h = some o) : mj_OK g l d mi pc ls st h o := by
  unfold mj_bal at e
  split at e
  · next a _ =>
    split at e
    · next hk =>
      obtain ⟨hn, k1, k2, k3, k4⟩ := hk
      have e1 : a = 2 * (a / 2 - 1) + 2 := by omega
      refine mj_k_n0 (fun rr K => ?_) e
      rw [e1]
      exact mj_g_lbyt (hd hn) (by omega) k4 K
    · cases e
  · exact mj_k_ald (fun i a r rr hn hk K => mj_g_zald (hd hn) hk K) e
theorem mj_k_gf {idx : Nat} (hd : n = 3 → decode (mt_b mi) pc = .ok (.getfield idx, 3)) (e : mj_gf mi pc n idx ls st h = some o) : mj_OK g l d mi pc ls st h o := by
  unfold mj_gf at e
  split at e
  · next hn =>
    split at e
    · split at e
      · next hg =>
        split at e
        · next hk => exact mj_k_n0 (fun rr K => mj_g_getf (hd hn) hg hk.1 hk.2.1 hk.2.2 K) e
        · cases e
      · cases e
    · next a _ =>
      split at e
      · next hk =>
        have e1 : a = 2 * (a / 2) + 1 := by omega
        split at e
        · next hg =>
          have hl := mt_ok_LF0 _ _ hg
          rw [mt_ok_on] at hl
          refine mj_k_n0 (fun rr K => ?_) e
          rw [e1] at K ⊢
          exact mj_g_lval (hd hn) (by omega) hl K
        · next hg =>
          have hl := mt_ok_LF1 _ _ hg
          rw [mt_ok_on] at hl
          refine mj_k_n0 (fun rr K => ?_) e
          rw [e1]
          exact mj_g_lcod (hd hn) (by omega) hl K
        · cases e
      · cases e
    · cases e
  · cases e
theorem mj_k_pf {idx : Nat} (hd : n = 3 → decode (mt_b mi) pc = .ok (.putfield idx, 3)) (e : mj_pf mi pc n idx ls st h = some o) : mj_OK g l d mi pc ls st h o := by
  unfold mj_pf at e
  split at e
  · next hn =>
    split at e
    · next hg =>
      split at e
      · next hb =>
        split at e
        · split at e
          · next hk => exact mj_k_nx (h' := mj_wi h _ _ _) ⟨Nat.le_refl _, Nat.le_refl _⟩ (fun rr _ _ K => mj_g_puti (hd hn) hg hb hk.1 hk.2.1 hk.2.2.1 hk.2.2.2.1 hk.2.2.2.2 K) e
          · cases e
        · split at e
          · next hk => exact mj_k_nx (h' := mj_wr h _ _ _) ⟨Nat.le_refl _, Nat.le_refl _⟩ (fun rr _ _ K => mj_g_putr (x := none) (hd hn) hg hb hk.1 hk.2.1 hk.2.2.1 hk.2.2.2 K) e
          · cases e
        · split at e
          · next hk => exact mj_k_nx (h' := mj_wr h _ _ _) ⟨Nat.le_refl _, Nat.le_refl _⟩ (fun rr _ _ K => mj_g_putr (x := some _) (hd hn) hg hb hk.1 hk.2.1 hk.2.2.1 hk.2.2.2 K) e
          · cases e
        · cases e
      · cases e
    · cases e
  · cases e
theorem mj_k_d1 (hd : n = 1 → decode (mt_b mi) pc = .ok (.dup, 1)) (e : mj_d1 n pc ls st h = some o) : mj_OK g l d mi pc ls st h o := by
  unfold mj_d1 at e
  split at e
  · next hn =>
    split at e
    · split at e
      · next hk => exact mj_k_n0 (fun rr K => mj_g_dup (hd hn) (by simpa using hk) K) e
      · cases e
    · cases e
  · cases e
theorem mj_k_d2 (hd : n = 1 → decode (mt_b mi) pc = .ok (.dup2, 1)) (e : mj_d2 n pc ls st h = some o) : mj_OK g l d mi pc ls st h o := by
  unfold mj_d2 at e
  split at e
  · next hn =>
    split at e
    · split at e
      · next hk =>
        simp only [Bool.and_eq_true, beq_iff_eq] at hk
        exact mj_k_n0 (fun rr K => mj_g_dup2 (hd hn) hk.1 hk.2 K) e
      · cases e
    · cases e
  · cases e
theorem mj_k_p1 (hd : n = 1 → decode (mt_b mi) pc = .ok (.pop, 1)) (e : mj_p1 n pc ls st h = some o) : mj_OK g l d mi pc ls st h o := by
  unfold mj_p1 at e
  split at e
  · next hn =>
    split at e
    · split at e
      · next hk => exact mj_k_n0 (fun rr K => mj_g_pop (hd hn) (by simpa using hk) K) e
      · cases e
    · cases e
  · cases e
theorem mj_k_ldc {idx : Nat} (hd : n = 2 → decode (mt_b mi) pc = .ok (.ldc idx, 2)) (e : mj_ldc mi pc n 2 idx ls st h = some o) : mj_OK g l d mi pc ls st h o := by
  unfold mj_ldc at e
  split at e
  · next hg =>
    split at e
    · next hn =>
      refine mj_k_n0 (fun rr K => ?_) e
      have hk := mt_ok_K _ _ _ hg
      unfold mt_Pk at hk
      dsimp only at hk
      rw [mt_ok_on] at hk
      rcases hk with ⟨x, rfl, hw⟩ | ⟨j, tx, rfl, hw⟩
      · exact mj_g_ldi (hd hn) hw K
      · exact mj_g_lds (hd hn) hw K
    · cases e
  · cases e
theorem mj_k_ldw {idx : Nat} (hd : n = 3 → decode (mt_b mi) pc = .ok (.ldc_w idx, 3)) (e : mj_ldw mi pc n idx ls st h = some o) : mj_OK g l d mi pc ls st h o := by
  unfold mj_ldw at e
  split at e
  · next x hg =>
    split at e
    · next hn =>
      refine mj_k_n0 (fun rr K => ?_) e
      have hk := mt_ok_K _ _ _ hg
      unfold mt_Pk at hk
      dsimp only at hk
      rw [mt_ok_on] at hk
      rcases hk with ⟨y, hy, hw⟩ | ⟨j, tx, hy, hw⟩
      · cases hy
        exact mj_g_ldwi (hd hn) hw K
      · cases hy
    · cases e
  · cases e
theorem mj_k_gs {idx : Nat} (hd : n = 3 → decode (mt_b mi) pc = .ok (.getstatic idx, 3)) (e : mj_gs mi pc n idx ls st h = some o) : mj_OK g l d mi pc ls st h o := by
  unfold mj_gs at e
  split at e
  · next hg =>
    split at e
    · next hn =>
      obtain ⟨C, nn, f, h1, h2⟩ := mt_ok_S _ _ _ hg
      rw [mt_ok_on] at h2
      exact mj_k_n0 (fun rr K => mj_g_gets (hd hn) h1 h2 K) e
    · cases e
  · cases e
theorem mj_k_tsw {dflt lo hi : Int} {offs : Array Int} (hd : decode (mt_b mi) pc = .ok (.tableswitch dflt lo hi offs, n)) (e : mj_tsw pc dflt lo hi offs ls st h = some o) : mj_OK g l d mi pc ls st h o := by
  unfold mj_tsw at e
  split at e
  · split at e
    · next hx =>
      split at e
      · next ho => exact mj_k_n0 (fun rr K => mj_g_tswOut hd hx ho K) e
      · cases e
    · next hx =>
      split at e
      · next hf =>
        split at e
        · next ho => exact mj_k_n0 (fun rr K => mj_g_tswIn hd hx hf ho K) e
        · cases e
      · cases e
  · cases e
theorem mj_k_lsw {dflt : Int} {ps : Array (Int × Int)} (hd : decode (mt_b mi) pc = .ok (.lookupswitch dflt ps, n)) (e : mj_lsw pc dflt ps ls st h = some o) : mj_OK g l d mi pc ls st h o := by
  unfold mj_lsw at e
  split at e
  · split at e
    · next hx => exact mj_k_n0 (fun rr K => mj_g_lsw hd hx.1 hx.2 K) e
    · cases e
  · cases e
theorem mj_k_inc {i : Nat} {k : Int} (hd : n = 3 → decode (mt_b mi) pc = .ok (.iinc i k, 3)) (e : mj_inc i n pc k ls st h = some o) : mj_OK g l d mi pc ls st h o := by
  unfold mj_inc at e
  split at e
  · next hn =>
    split at e
    · next hx => exact mj_k_n0 (fun rr K => mj_g_iinc (hd hn.1) hn.2 hx K) e
    · cases e
  · cases e
theorem mj_tk {k : Nat} {L : List Value} (e : (st.take k).reverse = L) : st = L.reverse ++ st.drop k := by
  rw [← e, List.reverse_reverse, List.take_append_drop]
theorem mj_k_cpy {idx : Nat} (hd : n = 3 → decode (mt_b mi) pc = .ok (.invokestatic idx, 3)) (hl : Cond.methodLink (mt_y mi).cls idx arraycopyName ∈ mt_TB) (e : mj_cpy n pc ls st h = some o) : mj_OK g l d mi pc ls st h o := by
  unfold mj_cpy at e
  split at e
  · next hn =>
    split at e
    · split at e
      · next hk =>
        simp only [Bool.and_eq_true, Bool.or_eq_true, decide_eq_true_eq, Bool.not_eq_true', decide_eq_false_iff_not] at hk
        obtain ⟨⟨⟨⟨⟨⟨⟨⟨⟨k1, k2⟩, k3⟩, k4⟩, k5⟩, k6⟩, k7⟩, k8⟩, k9⟩, k10⟩ := hk
        refine mj_k_nx (h' := mj_wa h _ _) ⟨Nat.le_refl _, Nat.le_refl _⟩ (fun rr _ _ K => ?_) e
        rcases k5 with k5 | ⟨k5, k5'⟩
        · exact mj_g_copy (hd hn) hl mt_cpyW mt_ty0 rfl (by omega) (by omega) k1 k2 k3 (by rw [← k5]) (by rw [← k5, k4]) k6 k7 k8 k9 k10 (fun i _ => rfl) K
        · exact mj_g_copy (hd hn) hl mt_cpyW mt_ty2 rfl (by omega) (by omega) k1 k2 k3 (by rw [← k5]) (by rw [← k5, k4]) k6 k7 k8 k9 k10 (fun i hi => List.all_eq_true.mp k5' i (List.mem_range.mpr hi)) K
      · cases e
    · cases e
  · cases e
theorem mj_k_ivs {idx : Nat} (hd : n = 3 → decode (mt_b mi) pc = .ok (.invokestatic idx, 3)) (e : mj_ivs mi pc n idx ls st h = some o) : mj_OK g l d mi pc ls st h o := by
  unfold mj_ivs at e
  split at e
  · cases e
  · next mj hg =>
    have hk := mt_ok_MS _ _ _ hg
    unfold mt_Pms at hk
    dsimp only at hk
    rw [mt_ok_on] at hk
    split at e
    · next h9 => exact mj_k_cpy hd (hk.1 h9) e
    · next h9 =>
      obtain ⟨q1, q2, q3, q4⟩ := hk.2 h9
      refine mj_k_call (fun d' r1 r hn c1 c2 c3 c4 hdd S1 m1 m2 m3 m4 K => ?_) e
      subst hdd
      have := mj_c_S (hd hn) q1 q2 q3 q4 c1 c2 c3 c4 S1 m1 m2 m3 m4 K
      rw [List.reverse_reverse, List.take_append_drop] at this
      exact this
theorem mj_k_ivp {idx : Nat} (hd : n = 3 → decode (mt_b mi) pc = .ok (.invokespecial idx, 3)) (e : mj_ivp mi pc n idx ls st h = some o) : mj_OK g l d mi pc ls st h o := by
  unfold mj_ivp at e
  split at e
  · cases e
  · next mj hg =>
    have hk := mt_ok_MI _ _ _ hg
    unfold mt_Pmi at hk
    dsimp only at hk
    rw [mt_ok_on] at hk
    split at e
    · next h9 =>
      split at e
      · split at e
        · next hx => exact mj_k_n0 (fun rr K => mj_g_objInit (hd hx.1) (hk.1 h9) mt_objW hx.2 K) e
        · cases e
      · cases e
    · next h9 =>
      obtain ⟨q1, q2, q3, q4, q5, q6⟩ := hk.2 h9
      split at e
      · next hst =>
        refine mj_k_call (fun d' r1 r hn c1 c2 c3 c4 hdd S1 m1 m2 m3 m4 K => ?_) e
        subst hdd
        have := mj_c_I (hd hn) q1 q2 q3 q4 q5 q6 c1 c2 c3 c4 S1 m1 m2 m3 m4 K
        rw [← hst, List.reverse_reverse, List.take_append_drop] at this
        exact this
      · cases e
theorem mj_k_ivl {idx : Nat} (hd : n = 3 → decode (mt_b mi) pc = .ok (.invokevirtual idx, 3)) (e : mj_ivl mi pc n idx st = some o) : mj_OK g l d mi pc ls st h o := by
  unfold mj_ivl at e
  split at e
  · cases e
  · next mj hg =>
    obtain ⟨q1, q2, q3, q4⟩ := mt_ok_ML _ _ _ hg
    rw [mt_ok_on] at q4
    split at e
    · next a as hst =>
      split at e
      · next ha =>
        have e3 : 2 * (a / 2) + 1 = a := by omega
        refine mj_k_call (fun d' r1 r hn c1 c2 c3 c4 hdd S1 m1 m2 m3 m4 K => ?_) e
        subst hdd
        have := mj_c_V (v := .retAddr a) (C := "java/lang/String") (hd hn) q1 q4 q2 q3 rfl (fun p R s m args meth c H locs X hH hS => by
          have hv := vk_recv X.2.2.2.2.2.2.2.2.1.2.2.2.2.1 (i := a / 2) (by omega) hS
          rw [e3] at hv
          exact hv) c1 c2 c3 c4 S1 m1 m2 m3 m4 K
        rw [← hst, List.reverse_reverse, List.take_append_drop] at this
        exact this
      · cases e
    · cases e
theorem mj_k_ivv {idx : Nat} (hd : n = 3 → decode (mt_b mi) pc = .ok (.invokevirtual idx, 3)) (e : mj_ivv mi pc n idx st h = some o) : mj_OK g l d mi pc ls st h o := by
  unfold mj_ivv at e
  split at e
  · exact mj_k_ivl hd e
  · next k rows hg =>
    have hk := mt_ok_MV _ _ _ _ hg
    unfold mt_Pmv at hk
    dsimp only at hk
    rw [mt_ok_on] at hk
    split at e
    · next a as hst =>
      split at e
      · next ha =>
        split at e
        · next q hf =>
          have hq := List.mem_of_find?_eq_some hf
          have hq1 : q.1 = (mj_m h a).1 := by simpa using List.find?_some hf
          obtain ⟨q1, q2, q3, rc, e1, e2⟩ := hk q hq
          have f0 := (mt_ok_cl _ _ e1).1
          refine mj_k_call (fun d' r1 r hn c1 c2 c3 c4 hdd S1 m1 m2 m3 m4 K => ?_) e
          subst hdd
          have := mj_c_V (v := .ref a) (C := rc.1) (hd hn) q1 e2 q2 q3 rfl (fun p R s m args meth c H locs X hH hS => va_recv X.2.2.2.2.2.2.2.2.1.1 hH.2 e1 (by rw [mj_ws_at ha, mj_e_obj (ci := q.1) (n := (mj_m h a).2) (by rw [hq1]) f0])) c1 c2 c3 c4 S1 m1 m2 m3 m4 K
          rw [← hst, List.reverse_reverse, List.take_append_drop] at this
          exact this
        · cases e
      · cases e
    · cases e
end Main1
end
section
/-! The small machine's runs are the true machine's. -/
section Main2
variable {g : mj_G} {l : Launch} {d mi pc n : Nat} {ls : List (Option Value)} {st : List Value} {h : MH} {o : MOut}
theorem mj_k_vr (hd : n = 1 → decode (mt_b mi) pc = .ok (.return_, 1)) (e : mj_vr mi n st = some o) : mj_OK g l d mi pc ls st h o := by
  unfold mj_vr at e
  split at e
  · next hn =>
    split at e
    · next hr => 
      cases e
      exact mj_g_vret (hd hn) hr
    · cases e
  · cases e
theorem mj_k_ir (hd : n = 1 → decode (mt_b mi) pc = .ok (.ireturn, 1)) (e : mj_ir mi n st = some o) : mj_OK g l d mi pc ls st h o := by
  unfold mj_ir at e
  split at e
  · next hn =>
    split at e
    · next hr =>
      split at e
      · next hf =>
        cases e
        have hf1 := hf.1
        simp only [mj_fit, Bool.and_eq_true, decide_eq_true_eq] at hf1
        exact mj_g_iret (hd hn) hr hf1.1
      · cases e
    · cases e
  · cases e
theorem mj_k_ar (hd : n = 1 → decode (mt_b mi) pc = .ok (.areturn, 1)) (e : mj_ar mi n st = some o) : mj_OK g l d mi pc ls st h o := by
  unfold mj_ar at e
  split at e
  · next hn =>
    split at e
    · next hr =>
      split at e
      · next hf =>
        cases e
        exact mj_g_aret (hd hn) hr hf
      · cases e
    · cases e
  · cases e
theorem mj_k_nul {off : Int} {b : Bool} (k1 : ∀ (r : List Value) (rr : Option Value × MH), n = 3 → mj_ok pc off = true → (b = true → mj_Sim g l d mi (mj_to pc off) ls r h rr) → (b = false → mj_Sim g l d mi (pc + 3) ls r h rr) → mj_Sim g l d mi pc ls (.null :: r) h rr) (k2 : ∀ (a : Nat) (r : List Value) (rr : Option Value × MH), n = 3 → mj_ok pc off = true → ((!b) = true → mj_Sim g l d mi (mj_to pc off) ls r h rr) → ((!b) = false → mj_Sim g l d mi (pc + 3) ls r h rr) → mj_Sim g l d mi pc ls (.ref a :: r) h rr) (e : mj_nul n pc off b ls st h = some o) : mj_OK g l d mi pc ls st h o := by
  unfold mj_nul at e
  split at e
  · exact mj_k_if (fun rr h1 h2 h3 h4 => k1 _ rr h1 h2 h3 h4) e
  · exact mj_k_if (fun rr h1 h2 h3 h4 => k2 _ _ rr h1 h2 h3 h4) e
  · cases e
set_option maxHeartbeats 4000000 in
theorem mj_ex_ok {i : ClassFile.Instr} (hd : decode (mt_b mi) pc = .ok (i, n)) (e : mj_ex g.2.2.2.2.1 g.2.2.2.2.2 mi pc ls st h i n = some o) : mj_OK g l d mi pc ls st h o := by
  cases i with
  | iconst k => 
    replace e : (if n = 1 then _ else none) = some o := e
    split at e
    · next hn =>
      subst hn
      exact mj_k_n0 (fun rr K => mj_g_iconst hd K) e
    · cases e
  | bipush k => 
    replace e : (if n = 2 then _ else none) = some o := e
    split at e
    · next hn =>
      subst hn
      exact mj_k_n0 (fun rr K => mj_g_bipush hd K) e
    · cases e
  | sipush k => 
    replace e : (if n = 3 then _ else none) = some o := e
    split at e
    · next hn =>
      subst hn
      exact mj_k_n0 (fun rr K => mj_g_sipush hd K) e
    · cases e
  | aconst_null => 
    replace e : (if n = 1 then _ else none) = some o := e
    split at e
    · next hn =>
      subst hn
      exact mj_k_n0 (fun rr K => mj_g_null hd K) e
    · cases e
  | ldc idx => exact mj_k_ldc (fun hn => by subst hn; exact hd) e
  | ldc_w idx => exact mj_k_ldw (fun hn => by subst hn; exact hd) e
  | iload i => exact mj_k_li (fun x rr hn hx K => by subst hn; exact mj_g_iload hd hx K) e
  | iload_n i => exact mj_k_li (fun x rr hn hx K => by subst hn; exact mj_g_iload_n hd hx K) e
  | aload i => exact mj_k_la (fun v rr hn hx hv K => by subst hn; exact mj_g_aload hd hx hv K) e
  | aload_n i => exact mj_k_la (fun v rr hn hx hv K => by subst hn; exact mj_g_aload_n hd hx hv K) e
  | istore i => exact mj_k_si (fun x r rr hn hx K => by subst hn; exact mj_g_istore hd hx K) e
  | istore_n i => exact mj_k_si (fun x r rr hn hx K => by subst hn; exact mj_g_istore_n hd hx K) e
  | astore i => exact mj_k_sa (fun v r rr hn hx hv K => by subst hn; exact mj_g_astore hd hx hv K) e
  | astore_n i => exact mj_k_sa (fun v r rr hn hx hv K => by subst hn; exact mj_g_astore_n hd hx hv K) e
  | iinc i k => exact mj_k_inc (fun hn => by subst hn; exact hd) e
  | iadd => exact mj_k_bi (fun x y r rr hn _ K => by subst hn; exact mj_g_iadd hd K) e
  | isub => exact mj_k_bi (fun x y r rr hn _ K => by subst hn; exact mj_g_isub hd K) e
  | imul => exact mj_k_bi (fun x y r rr hn _ K => by subst hn; exact mj_g_imul hd K) e
  | iand => exact mj_k_bi (fun x y r rr hn _ K => by subst hn; exact mj_g_iand hd K) e
  | ior => exact mj_k_bi (fun x y r rr hn _ K => by subst hn; exact mj_g_ior hd K) e
  | ixor => exact mj_k_bi (fun x y r rr hn _ K => by subst hn; exact mj_g_ixor hd K) e
  | ishl => exact mj_k_bi (fun x y r rr hn _ K => by subst hn; exact mj_g_ishl hd K) e
  | ishr => exact mj_k_bi (fun x y r rr hn _ K => by subst hn; exact mj_g_ishr hd K) e
  | iushr => exact mj_k_bi (fun x y r rr hn _ K => by subst hn; exact mj_g_iushr hd K) e
  | idiv => exact mj_k_bi (fun x y r rr hn hy K => by subst hn; exact mj_g_idiv hd (by simpa using hy) K) e
  | irem => exact mj_k_bi (fun x y r rr hn hy K => by subst hn; exact mj_g_irem hd (by simpa using hy) K) e
  | ineg => exact mj_k_un (fun x r rr hn K => by subst hn; exact mj_g_ineg hd K) e
  | i2c => exact mj_k_un (fun x r rr hn K => by subst hn; exact mj_g_i2c hd K) e
  | i2b => exact mj_k_un (fun x r rr hn K => by subst hn; exact mj_g_i2b hd K) e
  | goto off => 
    replace e : (if n = 3 ∧ mj_ok pc off = true then _ else none) = some o := e
    split at e
    · next hn =>
      obtain ⟨hn, ho⟩ := hn
      subst hn
      exact mj_k_n0 (fun rr K => mj_g_goto hd ho K) e
    · cases e
  | ifCond cnd off =>
    cases cnd with
    | eq => exact mj_k_i1 (fun x r rr hn ho kt kf => by subst hn; exact mj_g_if_eq hd ho (fun z => kt (decide_eq_true z)) (fun z => kf (decide_eq_false z))) e
    | ne => exact mj_k_i1 (fun x r rr hn ho kt kf => by subst hn; exact mj_g_if_ne hd ho (fun z => kt (decide_eq_true z)) (fun z => kf (decide_eq_false z))) e
    | lt => exact mj_k_i1 (fun x r rr hn ho kt kf => by subst hn; exact mj_g_if_lt hd ho (fun z => kt (decide_eq_true z)) (fun z => kf (decide_eq_false z))) e
    | ge => exact mj_k_i1 (fun x r rr hn ho kt kf => by subst hn; exact mj_g_if_ge hd ho (fun z => kt (decide_eq_true z)) (fun z => kf (decide_eq_false z))) e
    | gt => exact mj_k_i1 (fun x r rr hn ho kt kf => by subst hn; exact mj_g_if_gt hd ho (fun z => kt (decide_eq_true z)) (fun z => kf (decide_eq_false z))) e
    | le => exact mj_k_i1 (fun x r rr hn ho kt kf => by subst hn; exact mj_g_if_le hd ho (fun z => kt (decide_eq_true z)) (fun z => kf (decide_eq_false z))) e
  | if_icmp cnd off =>
    cases cnd with
    | eq => exact mj_k_i2 (fun x y r rr hn ho kt kf => by subst hn; exact mj_g_icmp_eq hd ho (fun z => kt (decide_eq_true z)) (fun z => kf (decide_eq_false z))) e
    | ne => exact mj_k_i2 (fun x y r rr hn ho kt kf => by subst hn; exact mj_g_icmp_ne hd ho (fun z => kt (decide_eq_true z)) (fun z => kf (decide_eq_false z))) e
    | lt => exact mj_k_i2 (fun x y r rr hn ho kt kf => by subst hn; exact mj_g_icmp_lt hd ho (fun z => kt (decide_eq_true z)) (fun z => kf (decide_eq_false z))) e
    | ge => exact mj_k_i2 (fun x y r rr hn ho kt kf => by subst hn; exact mj_g_icmp_ge hd ho (fun z => kt (decide_eq_true z)) (fun z => kf (decide_eq_false z))) e
    | gt => exact mj_k_i2 (fun x y r rr hn ho kt kf => by subst hn; exact mj_g_icmp_gt hd ho (fun z => kt (decide_eq_true z)) (fun z => kf (decide_eq_false z))) e
    | le => exact mj_k_i2 (fun x y r rr hn ho kt kf => by subst hn; exact mj_g_icmp_le hd ho (fun z => kt (decide_eq_true z)) (fun z => kf (decide_eq_false z))) e
  | ifnull off => exact mj_k_nul (fun r rr hn ho kt kf => by subst hn; exact mj_g_ifnull_n hd ho (kt rfl)) (fun a r rr hn ho kt kf => by subst hn; exact mj_g_ifnull_r hd (kf rfl)) e
  | ifnonnull off => exact mj_k_nul (fun r rr hn ho kt kf => by subst hn; exact mj_g_ifnonnull_n hd (kf rfl)) (fun a r rr hn ho kt kf => by subst hn; exact mj_g_ifnonnull_r hd ho (kt rfl)) e
  | dup => exact mj_k_d1 (fun hn => by subst hn; exact hd) e
  | dup2 => exact mj_k_d2 (fun hn => by subst hn; exact hd) e
  | pop => exact mj_k_p1 (fun hn => by subst hn; exact hd) e
  | getfield idx => exact mj_k_gf (fun hn => by subst hn; exact hd) e
  | putfield idx => exact mj_k_pf (fun hn => by subst hn; exact hd) e
  | getstatic idx => exact mj_k_gs (fun hn => by subst hn; exact hd) e
  | iaload => exact mj_k_ial (fun hn => by subst hn; exact hd) e
  | baload => exact mj_k_bal (fun hn => by subst hn; exact hd) e
  | aaload => exact mj_k_aal (fun hn => by subst hn; exact hd) e
  | aastore => exact mj_k_aas (fun hn => by subst hn; exact hd) e
  | arraylength => exact mj_k_len (fun hn => by subst hn; exact hd) e
  | new idx => exact mj_k_new (fun hn => by subst hn; exact hd) e
  | anewarray idx => exact mj_k_anew (fun hn => by subst hn; exact hd) e
  | invokestatic idx => exact mj_k_ivs (fun hn => by subst hn; exact hd) e
  | invokespecial idx => exact mj_k_ivp (fun hn => by subst hn; exact hd) e
  | invokevirtual idx => exact mj_k_ivv (fun hn => by subst hn; exact hd) e
  | return_ => exact mj_k_vr (fun hn => by subst hn; exact hd) e
  | ireturn => exact mj_k_ir (fun hn => by subst hn; exact hd) e
  | areturn => exact mj_k_ar (fun hn => by subst hn; exact hd) e
  | caload => exact mj_k_ald (fun i a r rr hn hk K => by subst hn; exact mj_g_cald hd hk K) e
  | iastore => exact mj_k_ast (fun x i a r rr hn hk K => by subst hn; exact mj_g_iast hd hk K) e
  | bastore => exact mj_k_ast (fun x i a r rr hn hk K => by subst hn; exact mj_g_zast hd hk K) e
  | castore => exact mj_k_ast (fun x i a r rr hn hk K => by subst hn; exact mj_g_cast hd hk K) e
  | newarray t =>
    cases t with
    | int => exact mj_k_na (fun x r rr hn q1 q2 q3 q4 K => by subst hn; exact mj_g_na_int hd q1 q2 q3 q4 K) e
    | boolean => exact mj_k_na (fun x r rr hn q1 q2 q3 q4 K => by subst hn; exact mj_g_na_boolean hd q1 q2 q3 q4 K) e
    | char => exact mj_k_na (fun x r rr hn q1 q2 q3 q4 K => by subst hn; exact mj_g_na_char hd q1 q2 q3 q4 K) e
    | _ => cases e
  | tableswitch dflt lo hi offs => exact mj_k_tsw hd e
  | lookupswitch dflt ps => exact mj_k_lsw hd e
  | _ => cases e
theorem mj_ft_ok {mi pc : Nat} {x : ClassFile.Instr × Nat} (e : mj_ft mi pc = some x) : decode (mt_b mi) pc = .ok x := by
  unfold mj_ft at e
  split at e
  · next hx =>
    cases e
    exact hx
  · cases e
theorem mj_sound (g : mj_G) (l : Launch) : ∀ (n d mi pc : Nat) (ls : List (Option Value)) (st : List Value) (h : MH) (r : Option Value × MH), mj_run g.2.2.2.2.1 g.2.2.2.2.2 n d mi pc ls st h = some r → (mj_z h ≤ mj_z r.2 ∧ mj_u h ≤ mj_u r.2) ∧ mj_Sim g l d mi pc ls st h r
  | 0, _, _, _, _, _, _, _, e => by cases e
  | n + 1, d, mi, pc, ls, st, h, r, e => by
    rw [mj_run] at e
    split at e
    · cases e
    · next i len hft =>
      have hd := mj_ft_ok hft
      split at e
      · cases e
      · next f hex =>
        have hok : mj_OK g l d mi pc ls st h (.inl f) := mj_ex_ok hd hex
        obtain ⟨h1, h2⟩ := mj_sound g l n d mi f.1 f.2.1 f.2.2.1 f.2.2.2 r e
        exact ⟨⟨Nat.le_trans hok.1.1 h1.1, Nat.le_trans hok.1.2 h1.2⟩, hok.2 r h1.1 h1.2 h2⟩
      · next v hex =>
        have hok : mj_OK g l d mi pc ls st h (.inr (.inr v)) := mj_ex_ok hd hex
        cases e
        exact ⟨⟨Nat.le_refl _, Nat.le_refl _⟩, hok⟩
      · next q hex =>
        have hok : mj_OK g l d mi pc ls st h (.inr (.inl q)) := mj_ex_ok hd hex
        split at e
        · cases e
        · next d' =>
          split at e
          · cases e
          · next r1 hr1 =>
            obtain ⟨h1, h2⟩ := mj_sound g l n d' q.1 0 (mj_ent q.1 q.2.1) [] h r1 hr1
            obtain ⟨h3, h4⟩ := mj_sound g l n (d' + 1) mi q.2.2.1 ls (r1.1.toList ++ q.2.2.2) r1.2 r e
            exact ⟨⟨Nat.le_trans h1.1 h3.1, Nat.le_trans h1.2 h3.2⟩, hok d' r1 r rfl h2 h1.1 h1.2 h3.1 h3.2 h4⟩
end Main2
end
section
/-! Weakest preconditions over the small machine. -/
theorem mj_run_succ {L : Nat} {xs : Nat → Int32} : ∀ (n d mi pc : Nat) (ls : List (Option Value)) (st : List Value) (h : MH) (r : Option Value × MH), mj_run L xs n d mi pc ls st h = some r → mj_run L xs (n + 1) d mi pc ls st h = some r
  | 0, _, _, _, _, _, _, _, e => by cases e
  | n + 1, d, mi, pc, ls, st, h, r, e => by
    rw [mj_run] at e ⊢
    split at e
    · cases e
    · next i len hft =>
      split at e
      · cases e
      · next f hex => exact mj_run_succ n d mi f.1 f.2.1 f.2.2.1 f.2.2.2 r e
      · next v hex => exact e
      · next q hex =>
        split at e
        · cases e
        · next d' =>
          split at e
          · cases e
          · next r1 hr1 =>
            rw [mj_run_succ n d' q.1 0 (mj_ent q.1 q.2.1) [] h r1 hr1]
            exact mj_run_succ n (d' + 1) mi q.2.2.1 ls (r1.1.toList ++ q.2.2.2) r1.2 r e
theorem mj_run_le {L : Nat} {xs : Nat → Int32} {n m d mi pc : Nat} {ls : List (Option Value)} {st : List Value} {h : MH} {r : Option Value × MH} (hnm : n ≤ m) (e : mj_run L xs n d mi pc ls st h = some r) : mj_run L xs m d mi pc ls st h = some r := by
  obtain ⟨k, rfl⟩ := Nat.exists_eq_add_of_le hnm
  induction k with
  | zero => exact e
  | succ k ih => exact mj_run_succ _ _ _ _ _ _ _ _ (ih (by omega))
section Wp1
variable {L : Nat} {xs : Nat → Int32} {d mi pc : Nat} {ls : List (Option Value)} {st : List Value} {h : MH} {Q : Option Value × MH → Prop} {i : ClassFile.Instr} {len : Nat}
theorem mj_W_nx {f : MFr} (hf : mj_ft mi pc = some (i, len)) (he : mj_ex L xs mi pc ls st h i len = some (.inl f)) : mj_Wp L xs d mi pc ls st h Q ↔ mj_Wp L xs d mi f.1 f.2.1 f.2.2.1 f.2.2.2 Q := by
  constructor
  · rintro ⟨n, r, h1, h2⟩
    cases n with
    | zero => cases h1
    | succ n =>
      rw [mj_run] at h1
      simp only [hf, he] at h1
      exact ⟨n, r, h1, h2⟩
  · rintro ⟨n, r, h1, h2⟩
    refine ⟨n + 1, r, ?_, h2⟩
    rw [mj_run]
    simp only [hf, he]
    exact h1
theorem mj_W_rt {v : Option Value} (hf : mj_ft mi pc = some (i, len)) (he : mj_ex L xs mi pc ls st h i len = some (.inr (.inr v))) : mj_Wp L xs d mi pc ls st h Q ↔ Q (v, h) := by
  constructor
  · rintro ⟨n, r, h1, h2⟩
    cases n with
    | zero => cases h1
    | succ n =>
      rw [mj_run] at h1
      simp only [hf, he] at h1
      cases h1
      exact h2
  · intro hq
    refine ⟨1, (v, h), ?_, hq⟩
    rw [mj_run]
    simp only [hf, he]
theorem mj_W_cl {q : Nat × List Value × Nat × List Value} (hf : mj_ft mi pc = some (i, len)) (he : mj_ex L xs mi pc ls st h i len = some (.inr (.inl q))) : mj_Wp L xs (d + 1) mi pc ls st h Q ↔ mj_Wp L xs d q.1 0 (mj_ent q.1 q.2.1) [] h (fun r => mj_Wp L xs (d + 1) mi q.2.2.1 ls (r.1.toList ++ q.2.2.2) r.2 Q) := by
  constructor
  · rintro ⟨n, r, h1, h2⟩
    cases n with
    | zero => cases h1
    | succ n =>
      rw [mj_run] at h1
      simp only [hf, he] at h1
      split at h1
      · cases h1
      · next r1 hr1 => exact ⟨n, r1, hr1, n, r, h1, h2⟩
  · rintro ⟨n, r1, h1, m, r, h2, h3⟩
    refine ⟨max n m + 1, r, ?_, h3⟩
    rw [mj_run]
    simp only [hf, he]
    rw [mj_run_le (Nat.le_max_left n m) h1]
    exact mj_run_le (Nat.le_max_right n m) h2
theorem mj_W_mono {Q' : Option Value × MH → Prop} (hQ : ∀ r, Q r → Q' r) (hw : mj_Wp L xs d mi pc ls st h Q) : mj_Wp L xs d mi pc ls st h Q' := by
  obtain ⟨n, r, h1, h2⟩ := hw
  exact ⟨n, r, h1, hQ r h2⟩
end Wp1
end
section
/-! THE CLAIM OUT OF ONE WALK OF THE LAW'S BODY. Your part is whole_start (and what it stands on); all else here is the same for every law, but numbers. -/
def R_law : String := "HealBenchLaw"
def lw_P (b : Addr) (xs : List Int32) (args : Array Value) (s : State) : Prop := args = #[.ref b] ∧ s.IntsAt b xs ∧ xs.length ≤ 1536 ∧ (Jvm.Cond.and given_1 narrow_1).before args s = true
def lw_Q (_ : Array Value) (s : State) (o : Outcome) (t : State) : Prop := o = .returned (some (.int 1)) ∧ Framed s o t [] 600000 7302250
def lw_Z (below : List Frame) (a : Array Value) (s : State) : State → Prop := fun t => ∃ o, t.status = .running ∧ Ended t below o ∧ lw_Q a s o t
/-- the law's own end, with 1 on the stack, nothing written that was there before, its room as the claim has it -/
theorem lw_ret {p : Program} {l : Launch} {e : Env} {s : State} {m : MethodId} {below : List Frame} {meth : Method} {c : Code} {b : Nat} (hx : p.tables.exec = Jvm.exec) (hb : c.code = code) (hr : meth.sig.returnType = ret) (hlocks : meth.locks = false) {pc : Nat} {H : Heap} {ls : Array Slot} (hdg : decode code pc = .ok (.ireturn, 1)) : W p l e room_1 s m #[Value.ref b] below meth c H [] 600000 7302250 (lw_Z below #[Value.ref b] s) (F0 m pc ls [.int 1]) := by
  intro T hT X
  obtain ⟨fs, hret, hrun, hended, hW, hframe⟩ := X.leave (v := some (.int 1)) (hlocks := hlocks) (fun h => by rw [hr] at h; cases h)
  have hmeth' : T.vm.method? m = some meth := X.method'
  refine ⟨T.setFrames fs, ?_, .returned (some (.int 1)), hrun, hended, rfl, ⟨_, rfl⟩, hW, hframe⟩
  jvm_step X.here [X.here.top, hx, hb, hdg, hmeth', hr, ret, narrow_b1]
  (try refine ⟨rfl, ?_⟩); (try refine ⟨rfl, ?_⟩)
  first | (intro acts; rw [hret _ acts rfl rfl rfl]) | rw [hret _ _ rfl rfl rfl]
  exact Steps.refl _
/-- what holds at the law's entry: the machine, the code, the tables' words (any of lw_tbl by 'hts w (by decide +kernel)'), the script of L ints xs at the cell b, what the Statement gives of the start (any of its parts by flat_of_before) -/
def lw_At (p : Program) (s : State) (m : MethodId) (meth : Method) (c : Code) (b L : Nat) (xs : Nat → Int32) : Prop :=
  p.tables.exec = Jvm.exec ∧ c.code = code ∧ meth.sig.returnType = ret ∧ c.maxLocals = 4 ∧ s.vm.findClass R_law = some m.cls ∧ (∀ w ∈ lw_tbl, w.before #[Value.ref b] s = true) ∧ va_X b L xs s s.heap ∧ b < s.heap.size ∧ meth.locks = false ∧ (Jvm.Cond.and given_1 narrow_1).before #[Value.ref b] s = true
/-! The claim out of the small machine's run of the law. -/
def mj_h0 : MH := (0, 0, fun _ => (0, 0), fun _ _ => 0, fun _ _ => none)
/-- what is left to prove: the small machine's run of the law ends with 1, within the room -/
def mj_Law : Prop := ∀ (L : Nat) (xs : Nat → Int32), L ≤ 1536 → mj_Wp L xs 1000 0 0 [some (.retAddr 0), none, none, none] [] mj_h0 (fun r => r.1 = some (.int 1) ∧ mj_z r.2 ≤ 600000 ∧ mj_u r.2 ≤ 7302250)
def mj_tm (i : Nat) : Term := if i = 0 then .string "HealBench$Reader" 84 else .string "HealBench$Reader" 92
def mj_sg (b : Nat) (adK adV : Nat → Nat) (k : Nat) : Nat := if k = 0 then b else if k % 2 = 1 then adK (k / 2) else adV (k / 2 - 1)
theorem mj_sg1 {b : Nat} {adK adV : Nat → Nat} (i : Nat) : mj_sg b adK adV (2 * i + 1) = adK i := by
  unfold mj_sg
  rw [if_neg (by omega), if_pos (by omega)]
  congr 1
  omega
theorem mj_sg2 {b : Nat} {adK adV : Nat → Nat} (i : Nat) : mj_sg b adK adV (2 * i + 2) = adV i := by
  unfold mj_sg
  rw [if_neg (by omega), if_neg (by omega)]
  congr 1
  omega
theorem mj_lit_ex : ∀ i, i < 2 → Cond.exactly (mj_tm i) "java/lang/String" ∈ flatC (Jvm.Cond.and given_1 narrow_1) := by decide +kernel
theorem mj_lit_co : ∀ i, i < 2 → Cond.eq (.field (mj_tm i) "java/lang/String" "coder" "B") (.int 0) ∈ flatC (Jvm.Cond.and given_1 narrow_1) := by decide +kernel
theorem mj_lit_ar : ∀ i, i < 2 → Cond.arrayOf (.field (mj_tm i) "java/lang/String" "value" "[B") .byte ∈ flatC (Jvm.Cond.and given_1 narrow_1) := by decide +kernel
theorem mj_lit_le : ∀ i, i < 2 → Cond.eq (.length (.field (mj_tm i) "java/lang/String" "value" "[B")) (.int (Int32.ofNat ((mt_lits.map List.length).getD i 0))) ∈ flatC (Jvm.Cond.and given_1 narrow_1) := by decide +kernel
theorem mj_lit_el : ∀ i, i < 2 → ∀ j, j < (mt_lits.map List.length).getD i 0 → Cond.eq (.elem (.field (mj_tm i) "java/lang/String" "value" "[B") (.int (Int32.ofNat j))) (.int ((mt_lits.getD i []).getD j 0)) ∈ flatC (Jvm.Cond.and given_1 narrow_1) := by decide +kernel
theorem mj_lit_ne : Cond.not (Cond.eq (mj_tm 0) (mj_tm 1)) ∈ flatC (Jvm.Cond.and given_1 narrow_1) := by decide +kernel
theorem mj_lit_cs : Cond.eq (.static "java/lang/String" "COMPACT_STRINGS" "Z") (.int 1) ∈ flatC (Jvm.Cond.and given_1 narrow_1) := by decide +kernel
theorem mj_w_str : Cond.stringRef "HealBench$Reader" 84 "0123456789xidmMlunk" ∈ tables_1 ∧ Cond.stringRef "HealBench$Reader" 92 "yj" ∈ tables_1 ∧ Cond.laysStatic "java/lang/String" "COMPACT_STRINGS" "Z" ∈ tables_1 ∧ Cond.initialized "java/lang/String" ∈ tables_1 ∧ Cond.arrayOver (.object "HealBench$Test") ∈ tables_1 ∧ Cond.arrayOver (.object "HealBench$Sum") ∈ tables_1 := by decide +kernel
theorem mj_ends {below : List Frame} {args : Array Value} {s : State} {g : mj_G} {r : Option Value × MH} (hz : g.1 = s.heap.size) (h1 : r.1 = some (.int 1)) : ∀ t, MQ below (mj_Q g r) args s 600000 7302250 (mj_A g) t → lw_Z below args s t := by
  rintro t ⟨o, h2, h3, ⟨h4, -, -⟩, L, ⟨h5, h6, h7⟩, h8⟩
  refine ⟨o, h2, h3, ?_, h5, h6, ?_⟩
  · rw [h4, h1]
    rfl
  · refine State.sameButNew.drop_fresh (L := []) (J := L) h7 (fun q hq => ?_)
    have := h8 q hq
    show s.heap.size ≤ q.base
    rw [← hz]
    exact this
theorem mj_arrOf {s : State} {ty : FieldType} {args : Array Value} (h : (Cond.arrayClass ty).before args s = true) : ∃ c : ClassId, s.vm.findClass ("[" ++ ty.toString) = some c ∧ ArrOfT s c ty := by
  obtain ⟨c, k, comp, h1, h2, h3⟩ := Cond.arrayClass_spec h
  exact ⟨c, h1, fun n z => ⟨fun k h => (by cases h), k, h2, comp, h3⟩⟩
theorem mj_arrOver {s : State} {C : String} {args : Array Value} (h : (Cond.arrayOver (.object C)).before args s = true) : ∃ c : ClassId, ArrOfT s c (.object C) ∧ va_RA s c (.object C) := by
  obtain ⟨comp, c, k, h1, -, h3, h4, h5⟩ := Cond.arrayOver_spec h
  exact ⟨c, fun n z => ⟨fun k h => (by cases h), k, h3, comp, h4⟩, k, comp, h3, h4, h1, h5⟩
set_option maxHeartbeats 4000000 in
theorem whole_from (hall : mj_Law) {p : Program} {e : Env} {s : State} {m : MethodId} {below : List Frame} {meth : Method} {c : Code} (l : Launch) {b L : Nat} {xs : Nat → Int32} (hL : L ≤ 1536) (C0 : lw_At p s m meth c b L xs) : W p l e room_1 s m #[Value.ref b] below meth c s.heap [] 0 0 (lw_Z below #[Value.ref b] s) (entryFrame m ([Value.ref b] : List Value).toArray 4) := by
  obtain ⟨hx, hb, hr, hml, hown, hts, hX, hbl, hlk, hgv⟩ := C0
  have hfl := flat_of_before _ hgv
  have htb : ∀ w ∈ mt_TB, w.before #[Value.ref b] s = true := fun w hw => hts w (List.mem_filter.mp hw).1
  have ht1 : ∀ w ∈ tables_1, w.before #[Value.ref b] s = true := fun w hw => hts w (List.mem_append_right _ hw)
  obtain ⟨ws1, ws2, ws3, ws4, ws5, ws6⟩ := mj_w_str
  -- classes
  have hD : ∀ ci : Nat, ∃ q : ClassId × (Nat → Nat), ∀ r : vw_C, mt_cl[ci]? = some r → u_Kn s r.1 r.2.1 r.2.2 q.1 q.2 := by
    intro ci
    cases hc : mt_cl[ci]? with
    | none => exact ⟨(0, fun _ => 0), fun r h => by cases h⟩
    | some r0 =>
      obtain ⟨-, -, -, -, f4, -⟩ := mt_ok_cl ci r0 hc
      obtain ⟨cC, iS, hk⟩ := u_known htb f4 (htb _ (mt_ok_in ci r0 hc))
      exact ⟨(cC, iS), fun r h => by cases h; exact hk⟩
  -- array classes
  obtain ⟨a0, a01, a02⟩ := mj_arrOf (htb _ mt_arr0)
  obtain ⟨a1, a11, a12⟩ := mj_arrOf (htb _ mt_arr1)
  obtain ⟨a2, a21, a22⟩ := mj_arrOf (htb _ mt_arr2)
  obtain ⟨a3, a31, a32⟩ := mj_arrOver (ht1 _ ws5)
  obtain ⟨a4, a41, a42⟩ := mj_arrOver (ht1 _ ws6)
  -- literals
  have hnA : ∀ a : Nat, a < s.heap.size → ¬ (fun q => s.heap.size ≤ q) a := fun a h z => Nat.not_le.mpr h z
  obtain ⟨adK, adV, hS, hSe⟩ := vk_Sof (args := #[Value.ref b]) (s := s) (N := mt_lits.length) (tm := mj_tm) (len := mt_lits.map List.length) (byt := mt_lits) (A := fun q => s.heap.size ≤ q)
    (by decide) (fun i hi => hfl _ (mj_lit_ex i hi)) (fun i hi => hfl _ (mj_lit_co i hi)) (fun i hi => hfl _ (mj_lit_ar i hi)) (fun i hi => hfl _ (mj_lit_le i hi)) (fun i hi j hj => hfl _ (mj_lit_el i hi j hj))
    (fun i j hi hj hij => by
      have h2 : mt_lits.length = 2 := rfl
      have e : (i = 0 ∧ j = 1) ∨ (i = 1 ∧ j = 0) := by omega
      rcases e with ⟨rfl, rfl⟩ | ⟨rfl, rfl⟩
      · exact Or.inl (hfl _ mj_lit_ne)
      · exact Or.inr (hfl _ mj_lit_ne)) hnA
  obtain ⟨dK, hdK⟩ : ∃ f : Nat → ClassId × (Nat → Nat), ∀ ci r, mt_cl[ci]? = some r → u_Kn s r.1 r.2.1 r.2.2 (f ci).1 (f ci).2 := ⟨fun ci => Classical.choose (hD ci), fun ci => Classical.choose_spec (hD ci)⟩
  obtain ⟨g, hg⟩ : ∃ g : mj_G, g = (s.heap.size, (fun ci => (dK ci).1, fun ci => (dK ci).2), (fun kd => if kd = 100 then a0 else if kd = 101 then a1 else if kd = 102 then a2 else if kd = 200 then a3 else a4), mj_sg b adK adV, L, xs) := ⟨_, rfl⟩
  have hT : mj_Tab g s := by
    subst hg
    refine ⟨⟨fun ci r h => hdK ci r h, fun k q hk => ?_⟩, fun w hw => ?_, hX, hbl, ?_, fun q hq => ?_, fun q hq => ?_, fun C hC => ?_⟩
    · match k, hk with
      | 0, hk => cases hk; exact ⟨a02, a01⟩
      | 1, hk => cases hk; exact ⟨a12, a11⟩
      | 2, hk => cases hk; exact ⟨a22, a21⟩
      | 3, hk => cases hk; exact ⟨a31, a32⟩
      | 4, hk => cases hk; exact ⟨a41, a42⟩
      | n + 5, hk => simp [mj_tys, mt_ty] at hk
    · have hw1 := (List.mem_filter.mp hw).1
      have hw2 := (List.mem_filter.mp hw).2
      have hw3 := hts w hw1
      cases w <;> first | exact va_Nw.of rfl hw3 | (simp [mj_isNest] at hw2; done)
    · have e1 : (fun i => mj_sg b adK adV (2 * i + 1)) = adK := funext mj_sg1
      have e2 : (fun i => mj_sg b adK adV (2 * i + 2)) = adV := funext mj_sg2
      show vk_S _ _ _ (fun i => mj_sg b adK adV (2 * i + 1)) (fun i => mj_sg b adK adV (2 * i + 2)) _ _ _
      rw [e1, e2]
      exact hS
    · simp only [mt_KS, List.mem_cons, List.not_mem_nil, or_false] at hq
      rcases hq with rfl | rfl
      · exact vk_R.of (A := #[Value.ref b]) (ht1 _ ws1) (by
          show Term.eval _ _ _ _ _ _ = some (.ref (mj_sg b adK adV (2 * 0 + 1)))
          rw [mj_sg1]
          exact hSe 0 (by decide))
      · exact vk_R.of (A := #[Value.ref b]) (ht1 _ ws2) (by
          show Term.eval _ _ _ _ _ _ = some (.ref (mj_sg b adK adV (2 * 1 + 1)))
          rw [mj_sg1]
          exact hSe 1 (by decide))
    · simp only [mt_SZ, List.mem_cons, List.not_mem_nil, or_false] at hq
      subst hq
      exact va_Zof (ht1 _ ws3) (ht1 _ ws4) (va_eqi (hfl _ mj_lit_cs)) hnA
    · simp only [mt_AO, List.mem_cons, List.not_mem_nil, or_false] at hC
      rcases hC with rfl | rfl
      · exact va_AO.of (ht1 _ ws5)
      · exact va_AO.of (ht1 _ ws6)
  have hz : g.1 = s.heap.size := by rw [hg]
  obtain ⟨n, r, hrun, hr1, hr2, hr3⟩ := hall L xs hL
  have hLx : g.2.2.2.2.1 = L ∧ g.2.2.2.2.2 = xs := by rw [hg]; exact ⟨rfl, rfl⟩
  rw [← hLx.1, ← hLx.2] at hrun
  have hsim := (mj_sound g l n 1000 0 0 _ [] mj_h0 r hrun).2
  have hLo := mj_ent_Lo (g := g) (mj := 0) (as := [.retAddr 0]) (fun w hw => by
    simp only [List.mem_cons, List.not_mem_nil, or_false] at hw
    subst hw
    rfl) (by decide)
  have hW := hsim p e room_1 s m #[Value.ref b] below meth c s.heap [] 0 0 600000 7302250 _ ⟨hx, hb, hml, hr, hlk, hown, fun h => absurd h (by decide), htb, hT, Nat.le_of_eq hz, by decide, by decide⟩
    ⟨by rw [hz]; rfl, fun k q hk => by simp [mj_ws, mj_z, mj_h0] at hk⟩ hLo va_S.rf rfl (by show 0 + mj_z r.2 ≤ 600000 + 0; omega) (by show 0 + mj_u r.2 ≤ 7302250 + 0; omega) (Nat.le_refl _) (Nat.le_refl _)
  rw [lg_entry_eq]
  intro T hT0 X
  obtain ⟨t, q1, q2⟩ := hW T hT0 X
  have hbv : mj_v g (.retAddr 0) = Value.ref b := by rw [hg]; rfl
  refine ⟨t, ?_, mj_ends hz hr1 t q2⟩
  have e9 : [Value.retAddr 0].map (mj_v g) = [Value.ref b] := by rw [List.map_cons, hbv]; rfl
  rw [e9] at q1
  exact q1
end
section
/-! One row a kind of instruction: what it does to a weakest precondition. -/
def mj_is (h : MH) (a kd n : Nat) : Prop := a < mj_z h ∧ mj_m h a = (kd, n)
section Wp2
variable {L : Nat} {xs : Nat → Int32} {d mi pc : Nat} {ls : List (Option Value)} {st : List Value} {h : MH} {Q : Option Value × MH → Prop}
theorem mj_w_gi {idx a ci k N : Nat} (hf : mj_ft mi pc = some (.getfield idx, 3)) (hg : mj_get mt_F (mt_on mi) idx = some (ci, k)) (hr : mj_fr ci k = false) (hn : (mt_cf ci).length = N) (hk : k < N) (H : mj_is h a ci N) : mj_Wp L xs d mi pc ls (.ref a :: st) h Q ↔ mj_Wp L xs d mi (pc + 3) ls (.int (mj_i h a k) :: st) h Q := by
  refine mj_W_nx (f := (pc + 3, ls, .int (mj_i h a k) :: st, h)) hf ?_
  subst hn
  simp only [mj_ex, mj_gf, hg, H.1, H.2, hk, mj_nx, mj_rd, hr]
  simp
theorem mj_w_gr {idx a ci k N : Nat} (hf : mj_ft mi pc = some (.getfield idx, 3)) (hg : mj_get mt_F (mt_on mi) idx = some (ci, k)) (hr : mj_fr ci k = true) (hn : (mt_cf ci).length = N) (hk : k < N) (H : mj_is h a ci N) : mj_Wp L xs d mi pc ls (.ref a :: st) h Q ↔ mj_Wp L xs d mi (pc + 3) ls (mj_rv (mj_r h a k) :: st) h Q := by
  refine mj_W_nx (f := (pc + 3, ls, mj_rv (mj_r h a k) :: st, h)) hf ?_
  subst hn
  simp only [mj_ex, mj_gf, hg, H.1, H.2, hk, mj_nx, mj_rd, hr]
  simp
theorem mj_w_pi {idx a ci k N : Nat} {b : Bool} {x : Int32} (hf : mj_ft mi pc = some (.putfield idx, 3)) (hg : mj_get mt_P (mt_on mi) idx = some (ci, k, b)) (hb : (!b || (mt_y mi).name == "<init>") = true) (hr : mj_fr ci k = false) (hn : (mt_cf ci).length = N) (hk : k < N) (H : mj_is h a ci N) (hx : mj_fit ((mt_cf ci).getD k .int) x = true) : mj_Wp L xs d mi pc ls (.int x :: .ref a :: st) h Q ↔ mj_Wp L xs d mi (pc + 3) ls st (mj_wi h a k x) Q := by
  refine mj_W_nx (f := (pc + 3, ls, st, mj_wi h a k x)) hf ?_
  subst hn
  simp only [mj_ex, mj_pf, hg, hb, H.1, H.2, hk, mj_nx, hr, hx]
  simp
theorem mj_w_pr {idx a ci k N c : Nat} {b : Bool} (hf : mj_ft mi pc = some (.putfield idx, 3)) (hg : mj_get mt_P (mt_on mi) idx = some (ci, k, b)) (hb : (!b || (mt_y mi).name == "<init>") = true) (hr : mj_fr ci k = true) (hn : (mt_cf ci).length = N) (hk : k < N) (H : mj_is h a ci N) : mj_Wp L xs d mi pc ls (.ref c :: .ref a :: st) h Q ↔ mj_Wp L xs d mi (pc + 3) ls st (mj_wr h a k (some c)) Q := by
  refine mj_W_nx (f := (pc + 3, ls, st, mj_wr h a k (some c))) hf ?_
  subst hn
  simp only [mj_ex, mj_pf, hg, hb, H.1, H.2, hk, mj_nx, hr]
  simp
theorem mj_w_pn {idx a ci k N : Nat} {b : Bool} (hf : mj_ft mi pc = some (.putfield idx, 3)) (hg : mj_get mt_P (mt_on mi) idx = some (ci, k, b)) (hb : (!b || (mt_y mi).name == "<init>") = true) (hr : mj_fr ci k = true) (hn : (mt_cf ci).length = N) (hk : k < N) (H : mj_is h a ci N) : mj_Wp L xs d mi pc ls (.null :: .ref a :: st) h Q ↔ mj_Wp L xs d mi (pc + 3) ls st (mj_wr h a k none) Q := by
  refine mj_W_nx (f := (pc + 3, ls, st, mj_wr h a k none)) hf ?_
  subst hn
  simp only [mj_ex, mj_pf, hg, hb, H.1, H.2, hk, mj_nx, hr]
  simp
theorem mj_kd_is {a kd n : Nat} {i : Int32} (H : mj_is h a kd n) (hi : mj_in i n = true) : mj_kd h a kd i = true := by
  simp [mj_kd, H.1, H.2, hi]
theorem mj_w_iaload {a n : Nat} {i : Int32} (hf : mj_ft mi pc = some (.iaload, 1)) (H : mj_is h a 100 n) (hi : mj_in i n = true) : mj_Wp L xs d mi pc ls (.int i :: .ref a :: st) h Q ↔ mj_Wp L xs d mi (pc + 1) ls (.int (mj_i h a i.toNatClampNeg) :: st) h Q := by
  refine mj_W_nx (f := (pc + 1, ls, .int (mj_i h a i.toNatClampNeg) :: st, h)) hf ?_
  simp only [mj_ex, mj_ial, mj_ald, mj_kd_is H hi, mj_nx]
  simp
theorem mj_w_baload {a n : Nat} {i : Int32} (hf : mj_ft mi pc = some (.baload, 1)) (H : mj_is h a 101 n) (hi : mj_in i n = true) : mj_Wp L xs d mi pc ls (.int i :: .ref a :: st) h Q ↔ mj_Wp L xs d mi (pc + 1) ls (.int (mj_i h a i.toNatClampNeg) :: st) h Q := by
  refine mj_W_nx (f := (pc + 1, ls, .int (mj_i h a i.toNatClampNeg) :: st, h)) hf ?_
  simp only [mj_ex, mj_bal, mj_ald, mj_kd_is H hi, mj_nx]
  simp
theorem mj_w_caload {a n : Nat} {i : Int32} (hf : mj_ft mi pc = some (.caload, 1)) (H : mj_is h a 102 n) (hi : mj_in i n = true) : mj_Wp L xs d mi pc ls (.int i :: .ref a :: st) h Q ↔ mj_Wp L xs d mi (pc + 1) ls (.int (mj_i h a i.toNatClampNeg) :: st) h Q := by
  refine mj_W_nx (f := (pc + 1, ls, .int (mj_i h a i.toNatClampNeg) :: st, h)) hf ?_
  simp only [mj_ex, mj_ald, mj_kd_is H hi, mj_nx]
  simp
theorem mj_w_iastore {a n : Nat} {i x : Int32} (hf : mj_ft mi pc = some (.iastore, 1)) (H : mj_is h a 100 n) (hi : mj_in i n = true) : mj_Wp L xs d mi pc ls (.int x :: .int i :: .ref a :: st) h Q ↔ mj_Wp L xs d mi (pc + 1) ls st (mj_wi h a i.toNatClampNeg x) Q := by
  refine mj_W_nx (f := (pc + 1, ls, st, mj_wi h a i.toNatClampNeg x)) hf ?_
  simp only [mj_ex, mj_ast, mj_kd_is H hi, mj_nx]
  simp
theorem mj_w_bastore {a n : Nat} {i x : Int32} (hf : mj_ft mi pc = some (.bastore, 1)) (H : mj_is h a 101 n) (hi : mj_in i n = true) : mj_Wp L xs d mi pc ls (.int x :: .int i :: .ref a :: st) h Q ↔ mj_Wp L xs d mi (pc + 1) ls st (mj_wi h a i.toNatClampNeg (vp_nar .boolean x)) Q := by
  refine mj_W_nx (f := (pc + 1, ls, st, mj_wi h a i.toNatClampNeg (vp_nar .boolean x))) hf ?_
  simp only [mj_ex, mj_ast, mj_kd_is H hi, mj_nx]
  simp
theorem mj_w_castore {a n : Nat} {i x : Int32} (hf : mj_ft mi pc = some (.castore, 1)) (H : mj_is h a 102 n) (hi : mj_in i n = true) : mj_Wp L xs d mi pc ls (.int x :: .int i :: .ref a :: st) h Q ↔ mj_Wp L xs d mi (pc + 1) ls st (mj_wi h a i.toNatClampNeg (vp_nar .char x)) Q := by
  refine mj_W_nx (f := (pc + 1, ls, st, mj_wi h a i.toNatClampNeg (vp_nar .char x))) hf ?_
  simp only [mj_ex, mj_ast, mj_kd_is H hi, mj_nx]
  simp
theorem mj_w_aaload {a n kd : Nat} {i : Int32} (hf : mj_ft mi pc = some (.aaload, 1)) (H : mj_is h a kd n) (hkd : kd = 200 ∨ kd = 201) (hi : mj_in i n = true) : mj_Wp L xs d mi pc ls (.int i :: .ref a :: st) h Q ↔ mj_Wp L xs d mi (pc + 1) ls (mj_rv (mj_r h a i.toNatClampNeg) :: st) h Q := by
  refine mj_W_nx (f := (pc + 1, ls, mj_rv (mj_r h a i.toNatClampNeg) :: st, h)) hf ?_
  have hk : (mj_kd h a 200 i || mj_kd h a 201 i) = true := by
    rcases hkd with rfl | rfl
    · simp [mj_kd_is H hi]
    · simp [mj_kd_is H hi]
  simp only [mj_ex, mj_aal, hk, mj_nx]
  simp
theorem mj_w_aastore {a b n kd ci N : Nat} {i : Int32} (hf : mj_ft mi pc = some (.aastore, 1)) (H : mj_is h a kd n) (Hb : mj_is h b ci N) (hs : mt_sub.any (fun q => q.1 == ci && q.2 == kd) = true) (hi : mj_in i n = true) : mj_Wp L xs d mi pc ls (.ref b :: .int i :: .ref a :: st) h Q ↔ mj_Wp L xs d mi (pc + 1) ls st (mj_wr h a i.toNatClampNeg (some b)) Q := by
  refine mj_W_nx (f := (pc + 1, ls, st, mj_wr h a i.toNatClampNeg (some b))) hf ?_
  have hk := mj_kd_is H hi
  simp only [mj_ex, mj_aas, Hb.1, Hb.2, H.2, hk, hs, mj_nx]
  simp
theorem mj_w_alen {a n kd : Nat} (hf : mj_ft mi pc = some (.arraylength, 1)) (H : mj_is h a kd n) (h1 : 100 ≤ kd) (ht : mt_ty.any (fun q => q.1 == kd) = true) : mj_Wp L xs d mi pc ls (.ref a :: st) h Q ↔ mj_Wp L xs d mi (pc + 1) ls (.int (nI n) :: st) h Q := by
  refine mj_W_nx (f := (pc + 1, ls, .int (nI n) :: st, h)) hf ?_
  simp only [mj_ex, mj_len, H.1, H.2, h1, ht, mj_nx, nI]
  simp
theorem mj_w_na {k : Int32} {t : ClassFile.ArrayType} {kd : Nat} (hf : mj_ft mi pc = some (.newarray t, 2)) (ht : (t = .int ∧ kd = 100) ∨ (t = .boolean ∧ kd = 101) ∨ (t = .char ∧ kd = 102)) (h0 : ¬ k < 0) (h1 : k.toNatClampNeg ≤ 65536) : mj_Wp L xs d mi pc ls (.int k :: st) h Q ↔ mj_Wp L xs d mi (pc + 2) ls (.ref (mj_z h) :: st) (mj_nw h kd k.toNatClampNeg) Q := by
  refine mj_W_nx (f := (pc + 2, ls, .ref (mj_z h) :: st, mj_nw h kd k.toNatClampNeg)) hf ?_
  rcases ht with ⟨rfl, rfl⟩ | ⟨rfl, rfl⟩ | ⟨rfl, rfl⟩ <;> simp only [mj_ex, mj_na, h0, h1, mj_nx] <;> simp
theorem mj_w_div {x y : Int32} (hf : mj_ft mi pc = some (.idiv, 1)) (hy : ¬ y = 0) : mj_Wp L xs d mi pc ls (.int y :: .int x :: st) h Q ↔ mj_Wp L xs d mi (pc + 1) ls (.int (x / y) :: st) h Q := by
  refine mj_W_nx (f := (pc + 1, ls, .int (x / y) :: st, h)) hf ?_
  simp [mj_ex, mj_bi, hy, mj_nx]
theorem mj_w_rem {x y : Int32} (hf : mj_ft mi pc = some (.irem, 1)) (hy : ¬ y = 0) : mj_Wp L xs d mi pc ls (.int y :: .int x :: st) h Q ↔ mj_Wp L xs d mi (pc + 1) ls (.int (x - x / y * y) :: st) h Q := by
  refine mj_W_nx (f := (pc + 1, ls, .int (x - x / y * y) :: st, h)) hf ?_
  simp [mj_ex, mj_bi, hy, mj_nx]
theorem mj_w_br {p : Prop} {hdp : Decidable p} {i : ClassFile.Instr} {t : Nat} {ls' : List (Option Value)} {st' : List Value} (hf : mj_ft mi pc = some (i, 3)) (h1 : p → mj_ex L xs mi pc ls st h i 3 = some (.inl (t, ls', st', h))) (h2 : ¬ p → mj_ex L xs mi pc ls st h i 3 = some (.inl (pc + 3, ls', st', h))) : mj_Wp L xs d mi pc ls st h Q ↔ @ite Prop p hdp (mj_Wp L xs d mi t ls' st' h Q) (mj_Wp L xs d mi (pc + 3) ls' st' h Q) := by
  by_cases hp : p
  · rw [if_pos hp]
    exact mj_W_nx hf (h1 hp)
  · rw [if_neg hp]
    exact mj_W_nx hf (h2 hp)
theorem mj_w_ir {x : Int32} {ty : FieldType} (hf : mj_ft mi pc = some (.ireturn, 1)) (hr : mt_ret mi = some ty) (hR : mj_isR ty = false) (hx : mj_fit ty x = true) : mj_Wp L xs d mi pc ls [.int x] h Q ↔ Q (some (.int x), h) := by
  refine mj_W_rt hf ?_
  simp only [mj_ex, mj_ir, hr, hR, hx]
  simp
end Wp2
end
section
/-! More rows a kind of instruction. -/
theorem mj_fit_int (x : Int32) : mj_fit .int x = true := by simp [mj_fit, narrow, fits]
theorem mj_fit_b0 : mj_fit .boolean 0 = true := by decide
theorem mj_fit_b1 : mj_fit .boolean 1 = true := by decide
section Wp3
variable {L : Nat} {xs : Nat → Int32} {d mi pc : Nat} {ls : List (Option Value)} {st : List Value} {h : MH} {Q : Option Value × MH → Prop}
theorem mj_w_if_eq {off : Int} {t : Nat} {x : Int32} (hf : mj_ft mi pc = some (.ifCond .eq off, 3)) (ho : mj_ok pc off = true) (ht : mj_to pc off = t) : mj_Wp L xs d mi pc ls (.int x :: st) h Q ↔ if x = nI 0 then mj_Wp L xs d mi t ls st h Q else mj_Wp L xs d mi (pc + 3) ls st h Q := by
  refine mj_w_br (p := x = nI 0) (t := t) hf (fun hp => ?_) (fun hp => ?_)
  · have hp : x = 0 := hp
    simp [mj_ex, mj_i1, mj_if, ho, ht, hp, mj_nx]
  · have hp : ¬ (x = 0) := hp
    simp only [mj_ex, mj_i1, mj_if, ho, decide_eq_false hp, mj_nx]
    simp
theorem mj_w_if_ne {off : Int} {t : Nat} {x : Int32} (hf : mj_ft mi pc = some (.ifCond .ne off, 3)) (ho : mj_ok pc off = true) (ht : mj_to pc off = t) : mj_Wp L xs d mi pc ls (.int x :: st) h Q ↔ if ¬ x = nI 0 then mj_Wp L xs d mi t ls st h Q else mj_Wp L xs d mi (pc + 3) ls st h Q := by
  refine mj_w_br (p := ¬ x = nI 0) (t := t) hf (fun hp => ?_) (fun hp => ?_)
  · have hp : ¬ x = 0 := hp
    simp [mj_ex, mj_i1, mj_if, ho, ht, hp, mj_nx]
  · have hp : ¬ (¬ x = 0) := hp
    simp only [mj_ex, mj_i1, mj_if, ho, decide_eq_false hp, mj_nx]
    simp
theorem mj_w_if_lt {off : Int} {t : Nat} {x : Int32} (hf : mj_ft mi pc = some (.ifCond .lt off, 3)) (ho : mj_ok pc off = true) (ht : mj_to pc off = t) : mj_Wp L xs d mi pc ls (.int x :: st) h Q ↔ if x < nI 0 then mj_Wp L xs d mi t ls st h Q else mj_Wp L xs d mi (pc + 3) ls st h Q := by
  refine mj_w_br (p := x < nI 0) (t := t) hf (fun hp => ?_) (fun hp => ?_)
  · have hp : x < 0 := hp
    simp [mj_ex, mj_i1, mj_if, ho, ht, hp, mj_nx]
  · have hp : ¬ (x < 0) := hp
    simp only [mj_ex, mj_i1, mj_if, ho, decide_eq_false hp, mj_nx]
    simp
theorem mj_w_if_ge {off : Int} {t : Nat} {x : Int32} (hf : mj_ft mi pc = some (.ifCond .ge off, 3)) (ho : mj_ok pc off = true) (ht : mj_to pc off = t) : mj_Wp L xs d mi pc ls (.int x :: st) h Q ↔ if nI 0 ≤ x then mj_Wp L xs d mi t ls st h Q else mj_Wp L xs d mi (pc + 3) ls st h Q := by
  refine mj_w_br (p := nI 0 ≤ x) (t := t) hf (fun hp => ?_) (fun hp => ?_)
  · have hp : 0 ≤ x := hp
    simp [mj_ex, mj_i1, mj_if, ho, ht, hp, mj_nx]
  · have hp : ¬ (0 ≤ x) := hp
    simp only [mj_ex, mj_i1, mj_if, ho, decide_eq_false hp, mj_nx]
    simp
theorem mj_w_if_gt {off : Int} {t : Nat} {x : Int32} (hf : mj_ft mi pc = some (.ifCond .gt off, 3)) (ho : mj_ok pc off = true) (ht : mj_to pc off = t) : mj_Wp L xs d mi pc ls (.int x :: st) h Q ↔ if nI 0 < x then mj_Wp L xs d mi t ls st h Q else mj_Wp L xs d mi (pc + 3) ls st h Q := by
  refine mj_w_br (p := nI 0 < x) (t := t) hf (fun hp => ?_) (fun hp => ?_)
  · have hp : 0 < x := hp
    simp [mj_ex, mj_i1, mj_if, ho, ht, hp, mj_nx]
  · have hp : ¬ (0 < x) := hp
    simp only [mj_ex, mj_i1, mj_if, ho, decide_eq_false hp, mj_nx]
    simp
theorem mj_w_if_le {off : Int} {t : Nat} {x : Int32} (hf : mj_ft mi pc = some (.ifCond .le off, 3)) (ho : mj_ok pc off = true) (ht : mj_to pc off = t) : mj_Wp L xs d mi pc ls (.int x :: st) h Q ↔ if x ≤ nI 0 then mj_Wp L xs d mi t ls st h Q else mj_Wp L xs d mi (pc + 3) ls st h Q := by
  refine mj_w_br (p := x ≤ nI 0) (t := t) hf (fun hp => ?_) (fun hp => ?_)
  · have hp : x ≤ 0 := hp
    simp [mj_ex, mj_i1, mj_if, ho, ht, hp, mj_nx]
  · have hp : ¬ (x ≤ 0) := hp
    simp only [mj_ex, mj_i1, mj_if, ho, decide_eq_false hp, mj_nx]
    simp
theorem mj_w_icmp_eq {off : Int} {t : Nat} {x y : Int32} (hf : mj_ft mi pc = some (.if_icmp .eq off, 3)) (ho : mj_ok pc off = true) (ht : mj_to pc off = t) : mj_Wp L xs d mi pc ls (.int y :: .int x :: st) h Q ↔ if x = y then mj_Wp L xs d mi t ls st h Q else mj_Wp L xs d mi (pc + 3) ls st h Q := by
  refine mj_w_br (p := x = y) (t := t) hf (fun hp => ?_) (fun hp => ?_)
  · simp only [mj_ex, mj_i2, mj_if, ho, ht, decide_eq_true hp, mj_nx]
    simp
  · simp only [mj_ex, mj_i2, mj_if, ho, decide_eq_false hp, mj_nx]
    simp
theorem mj_w_icmp_ne {off : Int} {t : Nat} {x y : Int32} (hf : mj_ft mi pc = some (.if_icmp .ne off, 3)) (ho : mj_ok pc off = true) (ht : mj_to pc off = t) : mj_Wp L xs d mi pc ls (.int y :: .int x :: st) h Q ↔ if ¬ x = y then mj_Wp L xs d mi t ls st h Q else mj_Wp L xs d mi (pc + 3) ls st h Q := by
  refine mj_w_br (p := ¬ x = y) (t := t) hf (fun hp => ?_) (fun hp => ?_)
  · simp only [mj_ex, mj_i2, mj_if, ho, ht, decide_eq_true hp, mj_nx]
    simp
  · simp only [mj_ex, mj_i2, mj_if, ho, decide_eq_false hp, mj_nx]
    simp
theorem mj_w_icmp_lt {off : Int} {t : Nat} {x y : Int32} (hf : mj_ft mi pc = some (.if_icmp .lt off, 3)) (ho : mj_ok pc off = true) (ht : mj_to pc off = t) : mj_Wp L xs d mi pc ls (.int y :: .int x :: st) h Q ↔ if x < y then mj_Wp L xs d mi t ls st h Q else mj_Wp L xs d mi (pc + 3) ls st h Q := by
  refine mj_w_br (p := x < y) (t := t) hf (fun hp => ?_) (fun hp => ?_)
  · simp only [mj_ex, mj_i2, mj_if, ho, ht, decide_eq_true hp, mj_nx]
    simp
  · simp only [mj_ex, mj_i2, mj_if, ho, decide_eq_false hp, mj_nx]
    simp
theorem mj_w_icmp_ge {off : Int} {t : Nat} {x y : Int32} (hf : mj_ft mi pc = some (.if_icmp .ge off, 3)) (ho : mj_ok pc off = true) (ht : mj_to pc off = t) : mj_Wp L xs d mi pc ls (.int y :: .int x :: st) h Q ↔ if y ≤ x then mj_Wp L xs d mi t ls st h Q else mj_Wp L xs d mi (pc + 3) ls st h Q := by
  refine mj_w_br (p := y ≤ x) (t := t) hf (fun hp => ?_) (fun hp => ?_)
  · simp only [mj_ex, mj_i2, mj_if, ho, ht, decide_eq_true hp, mj_nx]
    simp
  · simp only [mj_ex, mj_i2, mj_if, ho, decide_eq_false hp, mj_nx]
    simp
theorem mj_w_icmp_gt {off : Int} {t : Nat} {x y : Int32} (hf : mj_ft mi pc = some (.if_icmp .gt off, 3)) (ho : mj_ok pc off = true) (ht : mj_to pc off = t) : mj_Wp L xs d mi pc ls (.int y :: .int x :: st) h Q ↔ if y < x then mj_Wp L xs d mi t ls st h Q else mj_Wp L xs d mi (pc + 3) ls st h Q := by
  refine mj_w_br (p := y < x) (t := t) hf (fun hp => ?_) (fun hp => ?_)
  · simp only [mj_ex, mj_i2, mj_if, ho, ht, decide_eq_true hp, mj_nx]
    simp
  · simp only [mj_ex, mj_i2, mj_if, ho, decide_eq_false hp, mj_nx]
    simp
theorem mj_w_icmp_le {off : Int} {t : Nat} {x y : Int32} (hf : mj_ft mi pc = some (.if_icmp .le off, 3)) (ho : mj_ok pc off = true) (ht : mj_to pc off = t) : mj_Wp L xs d mi pc ls (.int y :: .int x :: st) h Q ↔ if x ≤ y then mj_Wp L xs d mi t ls st h Q else mj_Wp L xs d mi (pc + 3) ls st h Q := by
  refine mj_w_br (p := x ≤ y) (t := t) hf (fun hp => ?_) (fun hp => ?_)
  · simp only [mj_ex, mj_i2, mj_if, ho, ht, decide_eq_true hp, mj_nx]
    simp
  · simp only [mj_ex, mj_i2, mj_if, ho, decide_eq_false hp, mj_nx]
    simp
theorem mj_w_ifnull_r {off : Int} {a : Nat} (hf : mj_ft mi pc = some (.ifnull off, 3)) (ho : mj_ok pc off = true) : mj_Wp L xs d mi pc ls (.ref a :: st) h Q ↔ mj_Wp L xs d mi (pc + 3) ls st h Q := by
  refine mj_W_nx (f := (pc + 3, ls, st, h)) hf ?_
  simp [mj_ex, mj_nul, mj_if, ho, mj_nx]
theorem mj_w_ifnull_n {off : Int} {t : Nat} (hf : mj_ft mi pc = some (.ifnull off, 3)) (ho : mj_ok pc off = true) (ht : mj_to pc off = t) : mj_Wp L xs d mi pc ls (.null :: st) h Q ↔ mj_Wp L xs d mi t ls st h Q := by
  refine mj_W_nx (f := (t, ls, st, h)) hf ?_
  simp [mj_ex, mj_nul, mj_if, ho, ht, mj_nx]
theorem mj_w_ifnonnull_r {off : Int} {t a : Nat} (hf : mj_ft mi pc = some (.ifnonnull off, 3)) (ho : mj_ok pc off = true) (ht : mj_to pc off = t) : mj_Wp L xs d mi pc ls (.ref a :: st) h Q ↔ mj_Wp L xs d mi t ls st h Q := by
  refine mj_W_nx (f := (t, ls, st, h)) hf ?_
  simp [mj_ex, mj_nul, mj_if, ho, ht, mj_nx]
theorem mj_w_ifnonnull_n {off : Int} (hf : mj_ft mi pc = some (.ifnonnull off, 3)) (ho : mj_ok pc off = true) : mj_Wp L xs d mi pc ls (.null :: st) h Q ↔ mj_Wp L xs d mi (pc + 3) ls st h Q := by
  refine mj_W_nx (f := (pc + 3, ls, st, h)) hf ?_
  simp [mj_ex, mj_nul, mj_if, ho, mj_nx]
theorem mj_cl_nI {n : Nat} (h : n ≤ 65536) : (nI n).toNatClampNeg = n := nI_clamp (by omega)
theorem mj_w_nan {n : Nat} {t : ClassFile.ArrayType} {kd : Nat} (hf : mj_ft mi pc = some (.newarray t, 2)) (ht : (t = .int ∧ kd = 100) ∨ (t = .boolean ∧ kd = 101) ∨ (t = .char ∧ kd = 102)) (hn : n ≤ 65536) : mj_Wp L xs d mi pc ls (.int (nI n) :: st) h Q ↔ mj_Wp L xs d mi (pc + 2) ls (.ref (mj_z h) :: st) (mj_nw h kd n) Q := by
  have h1 := mj_w_na (L := L) (xs := xs) (d := d) (ls := ls) (st := st) (h := h) (Q := Q) (k := nI n) hf ht (nI_pos (by omega)) (by rw [mj_cl_nI hn]; exact hn)
  rw [mj_cl_nI hn] at h1
  exact h1
theorem mj_w_naq {n idx kd : Nat} (hf : mj_ft mi pc = some (.anewarray idx, 3)) (hg : mj_get mt_NA (mt_on mi) idx = some kd) (hn : n ≤ 65536) : mj_Wp L xs d mi pc ls (.int (nI n) :: st) h Q ↔ mj_Wp L xs d mi (pc + 3) ls (.ref (mj_z h) :: st) (mj_nw h kd n) Q := by
  refine mj_W_nx (f := (pc + 3, ls, .ref (mj_z h) :: st, mj_nw h kd n)) hf ?_
  have h0 : ¬ nI n < 0 := nI_pos (by omega)
  simp only [mj_ex, hg, mj_na, mj_cl_nI hn, h0, hn, mj_nx]
  simp
theorem mj_w_new {idx ci N : Nat} (hf : mj_ft mi pc = some (.new idx, 3)) (hg : mj_get mt_N (mt_on mi) idx = some ci) (hN : (mt_cf ci).length = N) : mj_Wp L xs d mi pc ls st h Q ↔ mj_Wp L xs d mi (pc + 3) ls (.ref (mj_z h) :: st) (mj_nw h ci N) Q := by
  refine mj_W_nx (f := (pc + 3, ls, .ref (mj_z h) :: st, mj_nw h ci N)) hf ?_
  subst hN
  simp only [mj_ex, mj_new, hg, mj_nx]
  simp
theorem mj_w_obj {idx a : Nat} (hf : mj_ft mi pc = some (.invokespecial idx, 3)) (hg : mj_get mt_MI (mt_on mi) idx = some 9999) (hs : st.length ≤ 8) : mj_Wp L xs d mi pc ls (.ref a :: st) h Q ↔ mj_Wp L xs d mi (pc + 3) ls st h Q := by
  refine mj_W_nx (f := (pc + 3, ls, st, h)) hf ?_
  simp only [mj_ex, mj_ivp, hg, mj_nx, hs]
  simp
theorem mj_w_call {i : ClassFile.Instr} {mj : Nat} {as rest : List Value} {lo : List (Option Value)} (hf : mj_ft mi pc = some (i, 3)) (he : mj_ex L xs mi pc ls st h i 3 = mj_call pc 3 mj as rest) (h1 : rest.length ≤ 8) (h2 : rest.all mj_c1 = true) (h3 : as.all mj_c1 = true) (h4 : as.length = mt_n mj) (hl : mj_ent mj as = lo) : mj_Wp L xs (d + 1) mi pc ls st h Q ↔ mj_Wp L xs d mj 0 lo [] h (fun r => mj_Wp L xs (d + 1) mi (pc + 3) ls (r.1.toList ++ rest) r.2 Q) := by
  subst hl
  refine mj_W_cl (q := (mj, as, pc + 3, rest)) hf ?_
  rw [he]
  simp [mj_call, h1, h2, h3, h4]
theorem mj_w_cv {idx mj ci N a k : Nat} {rows : List (Nat × Nat)} {as rest : List Value} {lo : List (Option Value)} (hf : mj_ft mi pc = some (.invokevirtual idx, 3)) (hg : mj_get mt_MV (mt_on mi) idx = some (k, rows)) (hr : rows.find? (fun q => q.1 == ci) = some (ci, mj)) (hst : (st.take k).reverse = .ref a :: as) (hre : st.drop k = rest) (H : mj_is h a ci N) (h1 : rest.length ≤ 8) (h2 : rest.all mj_c1 = true) (h3 : (Value.ref a :: as).all mj_c1 = true) (h4 : (Value.ref a :: as).length = mt_n mj) (hl : mj_ent mj (.ref a :: as) = lo) : mj_Wp L xs (d + 1) mi pc ls st h Q ↔ mj_Wp L xs d mj 0 lo [] h (fun r => mj_Wp L xs (d + 1) mi (pc + 3) ls (r.1.toList ++ rest) r.2 Q) := by
  refine mj_w_call (as := .ref a :: as) hf ?_ h1 h2 h3 h4 hl
  simp only [mj_ex, mj_ivv, hg, hst, H.1, H.2, hr, hre]
  simp
theorem mj_w_slen (hf : mj_ft mi pc = some (.arraylength, 1)) : mj_Wp L xs d mi pc ls (.retAddr 0 :: st) h Q ↔ mj_Wp L xs d mi (pc + 1) ls (.int (nI L) :: st) h Q := by
  refine mj_W_nx (f := (pc + 1, ls, .int (nI L) :: st, h)) hf ?_
  simp [mj_ex, mj_len, mj_nx, nI]
theorem mj_w_sld {i : Int32} (hf : mj_ft mi pc = some (.iaload, 1)) (hi : mj_in i L = true) : mj_Wp L xs d mi pc ls (.int i :: .retAddr 0 :: st) h Q ↔ mj_Wp L xs d mi (pc + 1) ls (.int (xs i.toNatClampNeg) :: st) h Q := by
  refine mj_W_nx (f := (pc + 1, ls, .int (xs i.toNatClampNeg) :: st, h)) hf ?_
  simp [mj_ex, mj_ial, mj_nx, hi]
end Wp3
end
