section
-- ===== PART A: goes FIRST, ahead of the names: the tables' words, and 'selects' of the private methods out of them =====
/-- a private method of a class that the tables say can be made, by its rows of tables_1 -/
def lw_okq (q : MethodName × Nat) : Prop := (q.1.cls ≠ "java/lang/invoke/MethodHandle" ∧ q.1.cls ≠ "java/lang/invoke/VarHandle") ∧ Cond.instantiable q.1.cls q.2 ∈ tables_1 ∧ Cond.privateMethod q.1 ∈ tables_1 ∧ Cond.instanceMethod q.1 ∈ tables_1
theorem lw_p0 : lw_okq (⟨"RootGates$Table", "clearParts", "()V"⟩, 2) := ⟨⟨by decide +kernel, by decide +kernel⟩, List.mem_of_getElem? (i := 32) (by decide +kernel), List.mem_of_getElem? (i := 42) (by decide +kernel), List.mem_of_getElem? (i := 43) (by decide +kernel)⟩
theorem lw_p1 : lw_okq (⟨"RootGates$Table", "applyToPair", "(III)V"⟩, 2) := ⟨⟨by decide +kernel, by decide +kernel⟩, List.mem_of_getElem? (i := 32) (by decide +kernel), List.mem_of_getElem? (i := 325) (by decide +kernel), List.mem_of_getElem? (i := 326) (by decide +kernel)⟩
theorem lw_p2 : lw_okq (⟨"RootGates$Table", "addAndSubtract", "(II)V"⟩, 2) := ⟨⟨by decide +kernel, by decide +kernel⟩, List.mem_of_getElem? (i := 32) (by decide +kernel), List.mem_of_getElem? (i := 329) (by decide +kernel), List.mem_of_getElem? (i := 330) (by decide +kernel)⟩
theorem lw_p3 : lw_okq (⟨"RootGates$Table", "rotate", "(II)V"⟩, 2) := ⟨⟨by decide +kernel, by decide +kernel⟩, List.mem_of_getElem? (i := 32) (by decide +kernel), List.mem_of_getElem? (i := 333) (by decide +kernel), List.mem_of_getElem? (i := 334) (by decide +kernel)⟩
theorem lw_p4 : lw_okq (⟨"RootGates$Table", "exchange", "(II)V"⟩, 2) := ⟨⟨by decide +kernel, by decide +kernel⟩, List.mem_of_getElem? (i := 32) (by decide +kernel), List.mem_of_getElem? (i := 337) (by decide +kernel), List.mem_of_getElem? (i := 338) (by decide +kernel)⟩
theorem lw_p5 : lw_okq (⟨"RootGates$Table", "isMultipleOfR", "()Z"⟩, 2) := ⟨⟨by decide +kernel, by decide +kernel⟩, List.mem_of_getElem? (i := 32) (by decide +kernel), List.mem_of_getElem? (i := 345) (by decide +kernel), List.mem_of_getElem? (i := 346) (by decide +kernel)⟩
theorem lw_p6 : lw_okq (⟨"RootGates$Table", "divideByR", "(I)V"⟩, 2) := ⟨⟨by decide +kernel, by decide +kernel⟩, List.mem_of_getElem? (i := 32) (by decide +kernel), List.mem_of_getElem? (i := 349) (by decide +kernel), List.mem_of_getElem? (i := 350) (by decide +kernel)⟩
theorem lw_p7 : lw_okq (⟨"RootGates", "settleRegister", "(I)I"⟩, 14) := ⟨⟨by decide +kernel, by decide +kernel⟩, List.mem_of_getElem? (i := 15) (by decide +kernel), List.mem_of_getElem? (i := 354) (by decide +kernel), List.mem_of_getElem? (i := 355) (by decide +kernel)⟩
theorem lw_p8 : lw_okq (⟨"RootGates$Table", "addProduct", "(I[JI[JI)V"⟩, 2) := ⟨⟨by decide +kernel, by decide +kernel⟩, List.mem_of_getElem? (i := 32) (by decide +kernel), List.mem_of_getElem? (i := 374) (by decide +kernel), List.mem_of_getElem? (i := 375) (by decide +kernel)⟩
theorem lw_p9 : lw_okq (⟨"RootGates$Channel", "fillColumn", "(I)V"⟩, 6) := ⟨⟨by decide +kernel, by decide +kernel⟩, List.mem_of_getElem? (i := 198) (by decide +kernel), List.mem_of_getElem? (i := 416) (by decide +kernel), List.mem_of_getElem? (i := 417) (by decide +kernel)⟩
theorem lw_p10 : lw_okq (⟨"RootGates$Channel", "lower", "()V"⟩, 6) := ⟨⟨by decide +kernel, by decide +kernel⟩, List.mem_of_getElem? (i := 198) (by decide +kernel), List.mem_of_getElem? (i := 424) (by decide +kernel), List.mem_of_getElem? (i := 425) (by decide +kernel)⟩
theorem lw_p11 : lw_okq (⟨"RootGates$Channel", "isEven", "()Z"⟩, 6) := ⟨⟨by decide +kernel, by decide +kernel⟩, List.mem_of_getElem? (i := 198) (by decide +kernel), List.mem_of_getElem? (i := 428) (by decide +kernel), List.mem_of_getElem? (i := 429) (by decide +kernel)⟩
theorem lw_p12 : lw_okq (⟨"RootGates$Cliffords", "reach", "(II)V"⟩, 10) := ⟨⟨by decide +kernel, by decide +kernel⟩, List.mem_of_getElem? (i := 159) (by decide +kernel), List.mem_of_getElem? (i := 449) (by decide +kernel), List.mem_of_getElem? (i := 450) (by decide +kernel)⟩
theorem lw_p13 : lw_okq (⟨"RootGates$Cliffords", "findKey", "(I)I"⟩, 10) := ⟨⟨by decide +kernel, by decide +kernel⟩, List.mem_of_getElem? (i := 159) (by decide +kernel), List.mem_of_getElem? (i := 458) (by decide +kernel), List.mem_of_getElem? (i := 459) (by decide +kernel)⟩
theorem lw_p14 : lw_okq (⟨"RootGates$Cliffords", "fillWithout", "(I)V"⟩, 10) := ⟨⟨by decide +kernel, by decide +kernel⟩, List.mem_of_getElem? (i := 159) (by decide +kernel), List.mem_of_getElem? (i := 471) (by decide +kernel), List.mem_of_getElem? (i := 472) (by decide +kernel)⟩
theorem lw_p15 : lw_okq (⟨"RootGates$Cliffords", "isRankedBy", "([I)Z"⟩, 10) := ⟨⟨by decide +kernel, by decide +kernel⟩, List.mem_of_getElem? (i := 159) (by decide +kernel), List.mem_of_getElem? (i := 502) (by decide +kernel), List.mem_of_getElem? (i := 503) (by decide +kernel)⟩
def lw_privs_1 : List (MethodName × Nat) := [(⟨"RootGates$Table", "clearParts", "()V"⟩, 2), (⟨"RootGates$Table", "applyToPair", "(III)V"⟩, 2), (⟨"RootGates$Table", "addAndSubtract", "(II)V"⟩, 2), (⟨"RootGates$Table", "rotate", "(II)V"⟩, 2), (⟨"RootGates$Table", "exchange", "(II)V"⟩, 2), (⟨"RootGates$Table", "isMultipleOfR", "()Z"⟩, 2), (⟨"RootGates$Table", "divideByR", "(I)V"⟩, 2), (⟨"RootGates", "settleRegister", "(I)I"⟩, 14), (⟨"RootGates$Table", "addProduct", "(I[JI[JI)V"⟩, 2), (⟨"RootGates$Channel", "fillColumn", "(I)V"⟩, 6), (⟨"RootGates$Channel", "lower", "()V"⟩, 6), (⟨"RootGates$Channel", "isEven", "()Z"⟩, 6), (⟨"RootGates$Cliffords", "reach", "(II)V"⟩, 10), (⟨"RootGates$Cliffords", "findKey", "(I)I"⟩, 10), (⟨"RootGates$Cliffords", "fillWithout", "(I)V"⟩, 10), (⟨"RootGates$Cliffords", "isRankedBy", "([I)Z"⟩, 10)]
theorem lw_r1 : ∀ q ∈ lw_privs_1, lw_okq q := List.forall_mem_cons.mpr ⟨lw_p0, List.forall_mem_cons.mpr ⟨lw_p1, List.forall_mem_cons.mpr ⟨lw_p2, List.forall_mem_cons.mpr ⟨lw_p3, List.forall_mem_cons.mpr ⟨lw_p4, List.forall_mem_cons.mpr ⟨lw_p5, List.forall_mem_cons.mpr ⟨lw_p6, List.forall_mem_cons.mpr ⟨lw_p7, List.forall_mem_cons.mpr ⟨lw_p8, List.forall_mem_cons.mpr ⟨lw_p9, List.forall_mem_cons.mpr ⟨lw_p10, List.forall_mem_cons.mpr ⟨lw_p11, List.forall_mem_cons.mpr ⟨lw_p12, List.forall_mem_cons.mpr ⟨lw_p13, List.forall_mem_cons.mpr ⟨lw_p14, List.forall_mem_cons.mpr ⟨lw_p15, fun _ h => absurd h List.not_mem_nil⟩⟩⟩⟩⟩⟩⟩⟩⟩⟩⟩⟩⟩⟩⟩⟩
theorem lw_p16 : lw_okq (⟨"RootGates$Cliffords", "improveRanks", "()Z"⟩, 10) := ⟨⟨by decide +kernel, by decide +kernel⟩, List.mem_of_getElem? (i := 159) (by decide +kernel), List.mem_of_getElem? (i := 508) (by decide +kernel), List.mem_of_getElem? (i := 509) (by decide +kernel)⟩
theorem lw_p17 : lw_okq (⟨"RootGates$Cliffords", "weightOf", "(I)I"⟩, 10) := ⟨⟨by decide +kernel, by decide +kernel⟩, List.mem_of_getElem? (i := 159) (by decide +kernel), List.mem_of_getElem? (i := 512) (by decide +kernel), List.mem_of_getElem? (i := 513) (by decide +kernel)⟩
theorem lw_p18 : lw_okq (⟨"RootGates", "settleWord", "(I)I"⟩, 14) := ⟨⟨by decide +kernel, by decide +kernel⟩, List.mem_of_getElem? (i := 15) (by decide +kernel), List.mem_of_getElem? (i := 553) (by decide +kernel), List.mem_of_getElem? (i := 554) (by decide +kernel)⟩
theorem lw_p19 : lw_okq (⟨"RootGates$Row", "shortenOnce", "()Z"⟩, 2) := ⟨⟨by decide +kernel, by decide +kernel⟩, List.mem_of_getElem? (i := 63) (by decide +kernel), List.mem_of_getElem? (i := 610) (by decide +kernel), List.mem_of_getElem? (i := 611) (by decide +kernel)⟩
theorem lw_p20 : lw_okq (⟨"RootGates$Row", "shortenAt", "(I)Z"⟩, 2) := ⟨⟨by decide +kernel, by decide +kernel⟩, List.mem_of_getElem? (i := 63) (by decide +kernel), List.mem_of_getElem? (i := 614) (by decide +kernel), List.mem_of_getElem? (i := 615) (by decide +kernel)⟩
theorem lw_p21 : lw_okq (⟨"RootGates$Row", "standsEightTimes", "(II)Z"⟩, 2) := ⟨⟨by decide +kernel, by decide +kernel⟩, List.mem_of_getElem? (i := 63) (by decide +kernel), List.mem_of_getElem? (i := 623) (by decide +kernel), List.mem_of_getElem? (i := 624) (by decide +kernel)⟩
theorem lw_p22 : lw_okq (⟨"RootGates$Normal", "findSyllable", "(I)I"⟩, 3) := ⟨⟨by decide +kernel, by decide +kernel⟩, List.mem_of_getElem? (i := 229) (by decide +kernel), List.mem_of_getElem? (i := 640) (by decide +kernel), List.mem_of_getElem? (i := 641) (by decide +kernel)⟩
theorem lw_p23 : lw_okq (⟨"RootGates$Normal", "takeAway", "(I)V"⟩, 3) := ⟨⟨by decide +kernel, by decide +kernel⟩, List.mem_of_getElem? (i := 229) (by decide +kernel), List.mem_of_getElem? (i := 644) (by decide +kernel), List.mem_of_getElem? (i := 645) (by decide +kernel)⟩
theorem lw_p24 : lw_okq (⟨"RootGates$Normal", "addCheapest", "(LRootGates$Row;LRootGates$Cliffords;)Z"⟩, 3) := ⟨⟨by decide +kernel, by decide +kernel⟩, List.mem_of_getElem? (i := 229) (by decide +kernel), List.mem_of_getElem? (i := 653) (by decide +kernel), List.mem_of_getElem? (i := 654) (by decide +kernel)⟩
theorem lw_p25 : lw_okq (⟨"RootGates$Reader", "readByte", "(LRootGates$Tape;I)Z"⟩, 7) := ⟨⟨by decide +kernel, by decide +kernel⟩, List.mem_of_getElem? (i := 131) (by decide +kernel), List.mem_of_getElem? (i := 714) (by decide +kernel), List.mem_of_getElem? (i := 715) (by decide +kernel)⟩
theorem lw_p26 : lw_okq (⟨"RootGates$Reader", "readGate", "(I)Z"⟩, 7) := ⟨⟨by decide +kernel, by decide +kernel⟩, List.mem_of_getElem? (i := 131) (by decide +kernel), List.mem_of_getElem? (i := 720) (by decide +kernel), List.mem_of_getElem? (i := 721) (by decide +kernel)⟩
theorem lw_p27 : lw_okq (⟨"RootGates$Reader", "isHeld", "(II)Z"⟩, 7) := ⟨⟨by decide +kernel, by decide +kernel⟩, List.mem_of_getElem? (i := 131) (by decide +kernel), List.mem_of_getElem? (i := 724) (by decide +kernel), List.mem_of_getElem? (i := 725) (by decide +kernel)⟩
theorem lw_p28 : lw_okq (⟨"RootGates$Reader", "turnItem", "(I)Z"⟩, 7) := ⟨⟨by decide +kernel, by decide +kernel⟩, List.mem_of_getElem? (i := 131) (by decide +kernel), List.mem_of_getElem? (i := 728) (by decide +kernel), List.mem_of_getElem? (i := 729) (by decide +kernel)⟩
theorem lw_p29 : lw_okq (⟨"RootGates$Reader", "turnOnce", "(I)Z"⟩, 7) := ⟨⟨by decide +kernel, by decide +kernel⟩, List.mem_of_getElem? (i := 131) (by decide +kernel), List.mem_of_getElem? (i := 732) (by decide +kernel), List.mem_of_getElem? (i := 733) (by decide +kernel)⟩
theorem lw_p30 : lw_okq (⟨"RootGates$Reader", "openGroup", "()Z"⟩, 7) := ⟨⟨by decide +kernel, by decide +kernel⟩, List.mem_of_getElem? (i := 131) (by decide +kernel), List.mem_of_getElem? (i := 742) (by decide +kernel), List.mem_of_getElem? (i := 743) (by decide +kernel)⟩
theorem lw_p31 : lw_okq (⟨"RootGates$Reader", "closeGroup", "(I)Z"⟩, 7) := ⟨⟨by decide +kernel, by decide +kernel⟩, List.mem_of_getElem? (i := 131) (by decide +kernel), List.mem_of_getElem? (i := 747) (by decide +kernel), List.mem_of_getElem? (i := 748) (by decide +kernel)⟩
def lw_privs_2 : List (MethodName × Nat) := [(⟨"RootGates$Cliffords", "improveRanks", "()Z"⟩, 10), (⟨"RootGates$Cliffords", "weightOf", "(I)I"⟩, 10), (⟨"RootGates", "settleWord", "(I)I"⟩, 14), (⟨"RootGates$Row", "shortenOnce", "()Z"⟩, 2), (⟨"RootGates$Row", "shortenAt", "(I)Z"⟩, 2), (⟨"RootGates$Row", "standsEightTimes", "(II)Z"⟩, 2), (⟨"RootGates$Normal", "findSyllable", "(I)I"⟩, 3), (⟨"RootGates$Normal", "takeAway", "(I)V"⟩, 3), (⟨"RootGates$Normal", "addCheapest", "(LRootGates$Row;LRootGates$Cliffords;)Z"⟩, 3), (⟨"RootGates$Reader", "readByte", "(LRootGates$Tape;I)Z"⟩, 7), (⟨"RootGates$Reader", "readGate", "(I)Z"⟩, 7), (⟨"RootGates$Reader", "isHeld", "(II)Z"⟩, 7), (⟨"RootGates$Reader", "turnItem", "(I)Z"⟩, 7), (⟨"RootGates$Reader", "turnOnce", "(I)Z"⟩, 7), (⟨"RootGates$Reader", "openGroup", "()Z"⟩, 7), (⟨"RootGates$Reader", "closeGroup", "(I)Z"⟩, 7)]
theorem lw_r2 : ∀ q ∈ lw_privs_2, lw_okq q := List.forall_mem_cons.mpr ⟨lw_p16, List.forall_mem_cons.mpr ⟨lw_p17, List.forall_mem_cons.mpr ⟨lw_p18, List.forall_mem_cons.mpr ⟨lw_p19, List.forall_mem_cons.mpr ⟨lw_p20, List.forall_mem_cons.mpr ⟨lw_p21, List.forall_mem_cons.mpr ⟨lw_p22, List.forall_mem_cons.mpr ⟨lw_p23, List.forall_mem_cons.mpr ⟨lw_p24, List.forall_mem_cons.mpr ⟨lw_p25, List.forall_mem_cons.mpr ⟨lw_p26, List.forall_mem_cons.mpr ⟨lw_p27, List.forall_mem_cons.mpr ⟨lw_p28, List.forall_mem_cons.mpr ⟨lw_p29, List.forall_mem_cons.mpr ⟨lw_p30, List.forall_mem_cons.mpr ⟨lw_p31, fun _ h => absurd h List.not_mem_nil⟩⟩⟩⟩⟩⟩⟩⟩⟩⟩⟩⟩⟩⟩⟩⟩
theorem lw_p32 : lw_okq (⟨"RootGatesModel", "number", "(IIIJ)V"⟩, 29) := ⟨⟨by decide +kernel, by decide +kernel⟩, List.mem_of_getElem? (i := 787) (by decide +kernel), List.mem_of_getElem? (i := 793) (by decide +kernel), List.mem_of_getElem? (i := 794) (by decide +kernel)⟩
theorem lw_p33 : lw_okq (⟨"RootGatesModel", "gates", "()V"⟩, 29) := ⟨⟨by decide +kernel, by decide +kernel⟩, List.mem_of_getElem? (i := 787) (by decide +kernel), List.mem_of_getElem? (i := 797) (by decide +kernel), List.mem_of_getElem? (i := 798) (by decide +kernel)⟩
theorem lw_p34 : lw_okq (⟨"RootGatesModel", "copies", "(II)V"⟩, 29) := ⟨⟨by decide +kernel, by decide +kernel⟩, List.mem_of_getElem? (i := 787) (by decide +kernel), List.mem_of_getElem? (i := 802) (by decide +kernel), List.mem_of_getElem? (i := 803) (by decide +kernel)⟩
theorem lw_p35 : lw_okq (⟨"RootGatesModel", "walks", "()V"⟩, 29) := ⟨⟨by decide +kernel, by decide +kernel⟩, List.mem_of_getElem? (i := 787) (by decide +kernel), List.mem_of_getElem? (i := 806) (by decide +kernel), List.mem_of_getElem? (i := 807) (by decide +kernel)⟩
theorem lw_p36 : lw_okq (⟨"RootGatesModel", "saves", "(I)V"⟩, 29) := ⟨⟨by decide +kernel, by decide +kernel⟩, List.mem_of_getElem? (i := 787) (by decide +kernel), List.mem_of_getElem? (i := 810) (by decide +kernel), List.mem_of_getElem? (i := 811) (by decide +kernel)⟩
theorem lw_p37 : lw_okq (⟨"RootGatesModel", "loads", "(II)V"⟩, 29) := ⟨⟨by decide +kernel, by decide +kernel⟩, List.mem_of_getElem? (i := 787) (by decide +kernel), List.mem_of_getElem? (i := 814) (by decide +kernel), List.mem_of_getElem? (i := 815) (by decide +kernel)⟩
theorem lw_p38 : lw_okq (⟨"RootGatesModel", "product", "(III)V"⟩, 29) := ⟨⟨by decide +kernel, by decide +kernel⟩, List.mem_of_getElem? (i := 787) (by decide +kernel), List.mem_of_getElem? (i := 818) (by decide +kernel), List.mem_of_getElem? (i := 819) (by decide +kernel)⟩
theorem lw_p39 : lw_okq (⟨"RootGatesModel", "plainly", "(III)V"⟩, 29) := ⟨⟨by decide +kernel, by decide +kernel⟩, List.mem_of_getElem? (i := 787) (by decide +kernel), List.mem_of_getElem? (i := 822) (by decide +kernel), List.mem_of_getElem? (i := 823) (by decide +kernel)⟩
theorem lw_p40 : lw_okq (⟨"RootGatesModel", "adds", "(IIIIII)V"⟩, 29) := ⟨⟨by decide +kernel, by decide +kernel⟩, List.mem_of_getElem? (i := 787) (by decide +kernel), List.mem_of_getElem? (i := 826) (by decide +kernel), List.mem_of_getElem? (i := 827) (by decide +kernel)⟩
theorem lw_p41 : lw_okq (⟨"RootGatesModel", "at", "(III)J"⟩, 29) := ⟨⟨by decide +kernel, by decide +kernel⟩, List.mem_of_getElem? (i := 787) (by decide +kernel), List.mem_of_getElem? (i := 830) (by decide +kernel), List.mem_of_getElem? (i := 831) (by decide +kernel)⟩
theorem lw_p42 : lw_okq (⟨"RootGatesModel", "eOf", "(I)I"⟩, 29) := ⟨⟨by decide +kernel, by decide +kernel⟩, List.mem_of_getElem? (i := 787) (by decide +kernel), List.mem_of_getElem? (i := 834) (by decide +kernel), List.mem_of_getElem? (i := 835) (by decide +kernel)⟩
theorem lw_p43 : lw_okq (⟨"RootGatesModel", "lowers", "(I)V"⟩, 29) := ⟨⟨by decide +kernel, by decide +kernel⟩, List.mem_of_getElem? (i := 787) (by decide +kernel), List.mem_of_getElem? (i := 838) (by decide +kernel), List.mem_of_getElem? (i := 839) (by decide +kernel)⟩
theorem lw_p44 : lw_okq (⟨"RootGatesModel", "isOver", "(I)Z"⟩, 29) := ⟨⟨by decide +kernel, by decide +kernel⟩, List.mem_of_getElem? (i := 787) (by decide +kernel), List.mem_of_getElem? (i := 842) (by decide +kernel), List.mem_of_getElem? (i := 843) (by decide +kernel)⟩
theorem lw_p45 : lw_okq (⟨"RootGatesModel", "cliffordOf", "(I)I"⟩, 29) := ⟨⟨by decide +kernel, by decide +kernel⟩, List.mem_of_getElem? (i := 787) (by decide +kernel), List.mem_of_getElem? (i := 847) (by decide +kernel), List.mem_of_getElem? (i := 848) (by decide +kernel)⟩
theorem lw_p46 : lw_okq (⟨"RootGatesModel", "turns", "(II)V"⟩, 29) := ⟨⟨by decide +kernel, by decide +kernel⟩, List.mem_of_getElem? (i := 787) (by decide +kernel), List.mem_of_getElem? (i := 854) (by decide +kernel), List.mem_of_getElem? (i := 855) (by decide +kernel)⟩
theorem lw_p47 : lw_okq (⟨"RootGatesModel", "comes", "(I)I"⟩, 29) := ⟨⟨by decide +kernel, by decide +kernel⟩, List.mem_of_getElem? (i := 787) (by decide +kernel), List.mem_of_getElem? (i := 965) (by decide +kernel), List.mem_of_getElem? (i := 966) (by decide +kernel)⟩
def lw_privs_3 : List (MethodName × Nat) := [(⟨"RootGatesModel", "number", "(IIIJ)V"⟩, 29), (⟨"RootGatesModel", "gates", "()V"⟩, 29), (⟨"RootGatesModel", "copies", "(II)V"⟩, 29), (⟨"RootGatesModel", "walks", "()V"⟩, 29), (⟨"RootGatesModel", "saves", "(I)V"⟩, 29), (⟨"RootGatesModel", "loads", "(II)V"⟩, 29), (⟨"RootGatesModel", "product", "(III)V"⟩, 29), (⟨"RootGatesModel", "plainly", "(III)V"⟩, 29), (⟨"RootGatesModel", "adds", "(IIIIII)V"⟩, 29), (⟨"RootGatesModel", "at", "(III)J"⟩, 29), (⟨"RootGatesModel", "eOf", "(I)I"⟩, 29), (⟨"RootGatesModel", "lowers", "(I)V"⟩, 29), (⟨"RootGatesModel", "isOver", "(I)Z"⟩, 29), (⟨"RootGatesModel", "cliffordOf", "(I)I"⟩, 29), (⟨"RootGatesModel", "turns", "(II)V"⟩, 29), (⟨"RootGatesModel", "comes", "(I)I"⟩, 29)]
theorem lw_r3 : ∀ q ∈ lw_privs_3, lw_okq q := List.forall_mem_cons.mpr ⟨lw_p32, List.forall_mem_cons.mpr ⟨lw_p33, List.forall_mem_cons.mpr ⟨lw_p34, List.forall_mem_cons.mpr ⟨lw_p35, List.forall_mem_cons.mpr ⟨lw_p36, List.forall_mem_cons.mpr ⟨lw_p37, List.forall_mem_cons.mpr ⟨lw_p38, List.forall_mem_cons.mpr ⟨lw_p39, List.forall_mem_cons.mpr ⟨lw_p40, List.forall_mem_cons.mpr ⟨lw_p41, List.forall_mem_cons.mpr ⟨lw_p42, List.forall_mem_cons.mpr ⟨lw_p43, List.forall_mem_cons.mpr ⟨lw_p44, List.forall_mem_cons.mpr ⟨lw_p45, List.forall_mem_cons.mpr ⟨lw_p46, List.forall_mem_cons.mpr ⟨lw_p47, fun _ h => absurd h List.not_mem_nil⟩⟩⟩⟩⟩⟩⟩⟩⟩⟩⟩⟩⟩⟩⟩⟩
theorem lw_p48 : lw_okq (⟨"RootGatesModel", "areSame", "(II)Z"⟩, 29) := ⟨⟨by decide +kernel, by decide +kernel⟩, List.mem_of_getElem? (i := 787) (by decide +kernel), List.mem_of_getElem? (i := 994) (by decide +kernel), List.mem_of_getElem? (i := 995) (by decide +kernel)⟩
theorem lw_p49 : lw_okq (⟨"RootGatesModel", "channels", "(I)I"⟩, 29) := ⟨⟨by decide +kernel, by decide +kernel⟩, List.mem_of_getElem? (i := 787) (by decide +kernel), List.mem_of_getElem? (i := 1002) (by decide +kernel), List.mem_of_getElem? (i := 1003) (by decide +kernel)⟩
theorem lw_p50 : lw_okq (⟨"RootGatesModel", "isNumber", "(I)Z"⟩, 29) := ⟨⟨by decide +kernel, by decide +kernel⟩, List.mem_of_getElem? (i := 787) (by decide +kernel), List.mem_of_getElem? (i := 1018) (by decide +kernel), List.mem_of_getElem? (i := 1019) (by decide +kernel)⟩
theorem lw_p51 : lw_okq (⟨"RootGatesModel", "cheapestBehind", "(I)V"⟩, 29) := ⟨⟨by decide +kernel, by decide +kernel⟩, List.mem_of_getElem? (i := 787) (by decide +kernel), List.mem_of_getElem? (i := 1035) (by decide +kernel), List.mem_of_getElem? (i := 1036) (by decide +kernel)⟩
theorem lw_p52 : lw_okq (⟨"RootGatesModel", "costs", "()V"⟩, 29) := ⟨⟨by decide +kernel, by decide +kernel⟩, List.mem_of_getElem? (i := 787) (by decide +kernel), List.mem_of_getElem? (i := 1039) (by decide +kernel), List.mem_of_getElem? (i := 1040) (by decide +kernel)⟩
theorem lw_p53 : lw_okq (⟨"RootGatesModel", "takes", "(I)V"⟩, 29) := ⟨⟨by decide +kernel, by decide +kernel⟩, List.mem_of_getElem? (i := 787) (by decide +kernel), List.mem_of_getElem? (i := 1051) (by decide +kernel), List.mem_of_getElem? (i := 1052) (by decide +kernel)⟩
theorem lw_p54 : lw_okq (⟨"RootGatesModel", "becomes", "(I)I"⟩, 29) := ⟨⟨by decide +kernel, by decide +kernel⟩, List.mem_of_getElem? (i := 787) (by decide +kernel), List.mem_of_getElem? (i := 1055) (by decide +kernel), List.mem_of_getElem? (i := 1056) (by decide +kernel)⟩
theorem lw_p55 : lw_okq (⟨"RootGatesModel", "isOther", "(I)Z"⟩, 29) := ⟨⟨by decide +kernel, by decide +kernel⟩, List.mem_of_getElem? (i := 787) (by decide +kernel), List.mem_of_getElem? (i := 1059) (by decide +kernel), List.mem_of_getElem? (i := 1060) (by decide +kernel)⟩
theorem lw_p56 : lw_okq (⟨"RootGatesModel", "valueOf", "(IIIII)V"⟩, 29) := ⟨⟨by decide +kernel, by decide +kernel⟩, List.mem_of_getElem? (i := 787) (by decide +kernel), List.mem_of_getElem? (i := 1075) (by decide +kernel), List.mem_of_getElem? (i := 1076) (by decide +kernel)⟩
theorem lw_p57 : lw_okq (⟨"RootGatesModel", "isRuled", "(I)Z"⟩, 29) := ⟨⟨by decide +kernel, by decide +kernel⟩, List.mem_of_getElem? (i := 787) (by decide +kernel), List.mem_of_getElem? (i := 1083) (by decide +kernel), List.mem_of_getElem? (i := 1084) (by decide +kernel)⟩
theorem lw_p58 : lw_okq (⟨"RootGatesModel", "isPair", "(III)Z"⟩, 29) := ⟨⟨by decide +kernel, by decide +kernel⟩, List.mem_of_getElem? (i := 787) (by decide +kernel), List.mem_of_getElem? (i := 1087) (by decide +kernel), List.mem_of_getElem? (i := 1088) (by decide +kernel)⟩
theorem lw_p59 : lw_okq (⟨"RootGatesModel", "cuts", "(IIII)V"⟩, 29) := ⟨⟨by decide +kernel, by decide +kernel⟩, List.mem_of_getElem? (i := 787) (by decide +kernel), List.mem_of_getElem? (i := 1091) (by decide +kernel), List.mem_of_getElem? (i := 1092) (by decide +kernel)⟩
theorem lw_p60 : lw_okq (⟨"RootGatesModel", "isLess", "(II)Z"⟩, 29) := ⟨⟨by decide +kernel, by decide +kernel⟩, List.mem_of_getElem? (i := 787) (by decide +kernel), List.mem_of_getElem? (i := 1099) (by decide +kernel), List.mem_of_getElem? (i := 1100) (by decide +kernel)⟩
theorem lw_p61 : lw_okq (⟨"RootGatesModel", "items", "()Z"⟩, 29) := ⟨⟨by decide +kernel, by decide +kernel⟩, List.mem_of_getElem? (i := 787) (by decide +kernel), List.mem_of_getElem? (i := 1129) (by decide +kernel), List.mem_of_getElem? (i := 1130) (by decide +kernel)⟩
theorem lw_p62 : lw_okq (⟨"RootGatesModel", "begins", "()Z"⟩, 29) := ⟨⟨by decide +kernel, by decide +kernel⟩, List.mem_of_getElem? (i := 787) (by decide +kernel), List.mem_of_getElem? (i := 1133) (by decide +kernel), List.mem_of_getElem? (i := 1134) (by decide +kernel)⟩
theorem lw_p63 : lw_okq (⟨"RootGatesModel", "here", "()I"⟩, 29) := ⟨⟨by decide +kernel, by decide +kernel⟩, List.mem_of_getElem? (i := 787) (by decide +kernel), List.mem_of_getElem? (i := 1137) (by decide +kernel), List.mem_of_getElem? (i := 1138) (by decide +kernel)⟩
def lw_privs_4 : List (MethodName × Nat) := [(⟨"RootGatesModel", "areSame", "(II)Z"⟩, 29), (⟨"RootGatesModel", "channels", "(I)I"⟩, 29), (⟨"RootGatesModel", "isNumber", "(I)Z"⟩, 29), (⟨"RootGatesModel", "cheapestBehind", "(I)V"⟩, 29), (⟨"RootGatesModel", "costs", "()V"⟩, 29), (⟨"RootGatesModel", "takes", "(I)V"⟩, 29), (⟨"RootGatesModel", "becomes", "(I)I"⟩, 29), (⟨"RootGatesModel", "isOther", "(I)Z"⟩, 29), (⟨"RootGatesModel", "valueOf", "(IIIII)V"⟩, 29), (⟨"RootGatesModel", "isRuled", "(I)Z"⟩, 29), (⟨"RootGatesModel", "isPair", "(III)Z"⟩, 29), (⟨"RootGatesModel", "cuts", "(IIII)V"⟩, 29), (⟨"RootGatesModel", "isLess", "(II)Z"⟩, 29), (⟨"RootGatesModel", "items", "()Z"⟩, 29), (⟨"RootGatesModel", "begins", "()Z"⟩, 29), (⟨"RootGatesModel", "here", "()I"⟩, 29)]
theorem lw_r4 : ∀ q ∈ lw_privs_4, lw_okq q := List.forall_mem_cons.mpr ⟨lw_p48, List.forall_mem_cons.mpr ⟨lw_p49, List.forall_mem_cons.mpr ⟨lw_p50, List.forall_mem_cons.mpr ⟨lw_p51, List.forall_mem_cons.mpr ⟨lw_p52, List.forall_mem_cons.mpr ⟨lw_p53, List.forall_mem_cons.mpr ⟨lw_p54, List.forall_mem_cons.mpr ⟨lw_p55, List.forall_mem_cons.mpr ⟨lw_p56, List.forall_mem_cons.mpr ⟨lw_p57, List.forall_mem_cons.mpr ⟨lw_p58, List.forall_mem_cons.mpr ⟨lw_p59, List.forall_mem_cons.mpr ⟨lw_p60, List.forall_mem_cons.mpr ⟨lw_p61, List.forall_mem_cons.mpr ⟨lw_p62, List.forall_mem_cons.mpr ⟨lw_p63, fun _ h => absurd h List.not_mem_nil⟩⟩⟩⟩⟩⟩⟩⟩⟩⟩⟩⟩⟩⟩⟩⟩
theorem lw_p64 : lw_okq (⟨"RootGatesModel", "item", "()Z"⟩, 29) := ⟨⟨by decide +kernel, by decide +kernel⟩, List.mem_of_getElem? (i := 787) (by decide +kernel), List.mem_of_getElem? (i := 1144) (by decide +kernel), List.mem_of_getElem? (i := 1145) (by decide +kernel)⟩
theorem lw_p65 : lw_okq (⟨"RootGatesModel", "puts", "(I)V"⟩, 29) := ⟨⟨by decide +kernel, by decide +kernel⟩, List.mem_of_getElem? (i := 787) (by decide +kernel), List.mem_of_getElem? (i := 1148) (by decide +kernel), List.mem_of_getElem? (i := 1149) (by decide +kernel)⟩
theorem lw_p66 : lw_okq (⟨"RootGatesModel", "reverses", "(I)V"⟩, 29) := ⟨⟨by decide +kernel, by decide +kernel⟩, List.mem_of_getElem? (i := 787) (by decide +kernel), List.mem_of_getElem? (i := 1152) (by decide +kernel), List.mem_of_getElem? (i := 1153) (by decide +kernel)⟩
theorem lw_p67 : lw_okq (⟨"RootGatesModel", "all", "()I"⟩, 29) := ⟨⟨by decide +kernel, by decide +kernel⟩, List.mem_of_getElem? (i := 787) (by decide +kernel), List.mem_of_getElem? (i := 1162) (by decide +kernel), List.mem_of_getElem? (i := 1163) (by decide +kernel)⟩
def lw_privs_5 : List (MethodName × Nat) := [(⟨"RootGatesModel", "item", "()Z"⟩, 29), (⟨"RootGatesModel", "puts", "(I)V"⟩, 29), (⟨"RootGatesModel", "reverses", "(I)V"⟩, 29), (⟨"RootGatesModel", "all", "()I"⟩, 29)]
theorem lw_r5 : ∀ q ∈ lw_privs_5, lw_okq q := List.forall_mem_cons.mpr ⟨lw_p64, List.forall_mem_cons.mpr ⟨lw_p65, List.forall_mem_cons.mpr ⟨lw_p66, List.forall_mem_cons.mpr ⟨lw_p67, fun _ h => absurd h List.not_mem_nil⟩⟩⟩⟩
def lw_privs : List (MethodName × Nat) := lw_privs_1 ++ (lw_privs_2 ++ (lw_privs_3 ++ (lw_privs_4 ++ (lw_privs_5))))
def lw_tbl : List Cond := k2_sels lw_privs ++ tables_1
theorem lw_privs_ok : ∀ q ∈ lw_privs, lw_okq q := by
  show ∀ q ∈ lw_privs_1 ++ (lw_privs_2 ++ (lw_privs_3 ++ (lw_privs_4 ++ (lw_privs_5)))), lw_okq q
  exact List.forall_mem_append.mpr ⟨lw_r1, List.forall_mem_append.mpr ⟨lw_r2, List.forall_mem_append.mpr ⟨lw_r3, List.forall_mem_append.mpr ⟨lw_r4, lw_r5⟩⟩⟩⟩
end
section
def RX0 : String := "RootGates$Bench"
def TX0 : u_T := fun k => match k with
  | 0 => ("RootGates$Bench", "registers", "[LRootGates$Table;", true)
  | 1 => ("RootGates$Bench", "words", "[LRootGates$Row;", true)
  | _ => ("RootGates$Bench", "prices", "[I", true)
def tyX0 : Nat → FieldType := fun k => match k with
  | 0 => .array (.object "RootGates$Table")
  | 1 => .array (.object "RootGates$Row")
  | _ => .array .int
abbrev wsX00 : List Cond := u_ws RX0 TX0 3
theorem nmX0 : ∀ a, a < 3 → ∀ b, b < 3 → a ≠ b → (TX0 a).2.1 ≠ (TX0 b).2.1 := by decide +kernel
theorem tyX0_ok : ∀ k, k < 3 → parseFieldDescriptor (TX0 k).2.2.1 = some (tyX0 k) := by decide +kernel
abbrev cX0_init : ByteArray := prog_2_method_1_code
def yX0_init : MethodName := ⟨RX0, "<init>", "()V"⟩
abbrev cX0_makeCopy : ByteArray := prog_2_method_2_code
def yX0_makeCopy : MethodName := ⟨RX0, "makeCopy", "(LRootGates$Bench;)V"⟩
abbrev cX0_countGates : ByteArray := prog_2_method_3_code
def yX0_countGates : MethodName := ⟨RX0, "countGates", "()I"⟩
abbrev cX0_countGate : ByteArray := prog_2_method_4_code
def yX0_countGate : MethodName := ⟨RX0, "countGate", "(I)I"⟩
abbrev cX0_sumPrices : ByteArray := prog_2_method_5_code
def yX0_sumPrices : MethodName := ⟨RX0, "sumPrices", "()I"⟩
def RX1 : String := "RootGates$Channel"
def TX1 : u_T := fun k => match k with
  | 0 => ("RootGates$Channel", "x", "[J", true)
  | 1 => ("RootGates$Channel", "y", "[J", true)
  | 2 => ("RootGates$Channel", "f", "I", false)
  | 3 => ("RootGates$Channel", "turned", "LRootGates$Table;", true)
  | 4 => ("RootGates$Channel", "moved", "LRootGates$Table;", true)
  | _ => ("RootGates$Channel", "seen", "LRootGates$Table;", true)
def tyX1 : Nat → FieldType := fun k => match k with
  | 0 => .array .long
  | 1 => .array .long
  | 2 => .int
  | 3 => .object "RootGates$Table"
  | 4 => .object "RootGates$Table"
  | _ => .object "RootGates$Table"
abbrev wsX10 : List Cond := u_ws RX1 TX1 6
theorem nmX1 : ∀ a, a < 6 → ∀ b, b < 6 → a ≠ b → (TX1 a).2.1 ≠ (TX1 b).2.1 := by decide +kernel
theorem tyX1_ok : ∀ k, k < 6 → parseFieldDescriptor (TX1 k).2.2.1 = some (tyX1 k) := by decide +kernel
abbrev cX1_init : ByteArray := prog_3_method_1_code
def yX1_init : MethodName := ⟨RX1, "<init>", "()V"⟩
abbrev cX1_makeOf : ByteArray := prog_3_method_2_code
def yX1_makeOf : MethodName := ⟨RX1, "makeOf", "(LRootGates$Table;)V"⟩
abbrev cX1_fillColumn : ByteArray := prog_3_method_3_code
def yX1_fillColumn : MethodName := ⟨RX1, "fillColumn", "(I)V"⟩
abbrev cX1_lower : ByteArray := prog_3_method_4_code
def yX1_lower : MethodName := ⟨RX1, "lower", "()V"⟩
abbrev cX1_isEven : ByteArray := prog_3_method_5_code
def yX1_isEven : MethodName := ⟨RX1, "isEven", "()Z"⟩
def RX2 : String := "RootGates$Cliffords"
def TX2 : u_T := fun k => match k with
  | 0 => ("RootGates$Cliffords", "keys", "[I", true)
  | 1 => ("RootGates$Cliffords", "behind", "[I", true)
  | 2 => ("RootGates$Cliffords", "without", "[I", true)
  | 3 => ("RootGates$Cliffords", "parent", "[I", true)
  | 4 => ("RootGates$Cliffords", "parentGate", "[I", true)
  | 5 => ("RootGates$Cliffords", "ranks", "[I", true)
  | 6 => ("RootGates$Cliffords", "rankedPrices", "[I", true)
  | 7 => ("RootGates$Cliffords", "work", "LRootGates$Table;", true)
  | 8 => ("RootGates$Cliffords", "found", "I", false)
  | _ => ("RootGates$Cliffords", "ranked", "Z", false)
def tyX2 : Nat → FieldType := fun k => match k with
  | 0 => .array .int
  | 1 => .array .int
  | 2 => .array .int
  | 3 => .array .int
  | 4 => .array .int
  | 5 => .array .int
  | 6 => .array .int
  | 7 => .object "RootGates$Table"
  | 8 => .int
  | _ => .boolean
abbrev wsX20 : List Cond := u_ws RX2 TX2 10
theorem nmX2 : ∀ a, a < 10 → ∀ b, b < 10 → a ≠ b → (TX2 a).2.1 ≠ (TX2 b).2.1 := by decide +kernel
theorem tyX2_ok : ∀ k, k < 10 → parseFieldDescriptor (TX2 k).2.2.1 = some (tyX2 k) := by decide +kernel
abbrev cX2_init : ByteArray := prog_4_method_1_code
def yX2_init : MethodName := ⟨RX2, "<init>", "()V"⟩
abbrev cX2_prepare : ByteArray := prog_4_method_2_code
def yX2_prepare : MethodName := ⟨RX2, "prepare", "()V"⟩
abbrev cX2_find : ByteArray := prog_4_method_3_code
def yX2_find : MethodName := ⟨RX2, "find", "(LRootGates$Table;)I"⟩
abbrev cX2_load : ByteArray := prog_4_method_4_code
def yX2_load : MethodName := ⟨RX2, "load", "(ILRootGates$Table;)V"⟩
abbrev cX2_next : ByteArray := prog_4_method_5_code
def yX2_next : MethodName := ⟨RX2, "next", "(II)I"⟩
abbrev cX2_keyOf : ByteArray := prog_4_method_6_code
def yX2_keyOf : MethodName := ⟨RX2, "keyOf", "(LRootGates$Table;)I"⟩
abbrev cX2_findKey : ByteArray := prog_4_method_7_code
def yX2_findKey : MethodName := ⟨RX2, "findKey", "(I)I"⟩
abbrev cX2_reach : ByteArray := prog_4_method_8_code
def yX2_reach : MethodName := ⟨RX2, "reach", "(II)V"⟩
abbrev cX2_fillWithout : ByteArray := prog_4_method_9_code
def yX2_fillWithout : MethodName := ⟨RX2, "fillWithout", "(I)V"⟩
abbrev cX2_rankBy : ByteArray := prog_4_method_10_code
def yX2_rankBy : MethodName := ⟨RX2, "rankBy", "([I)V"⟩
abbrev cX2_isRankedBy : ByteArray := prog_4_method_11_code
def yX2_isRankedBy : MethodName := ⟨RX2, "isRankedBy", "([I)Z"⟩
abbrev cX2_improveRanks : ByteArray := prog_4_method_12_code
def yX2_improveRanks : MethodName := ⟨RX2, "improveRanks", "()Z"⟩
abbrev cX2_weightOf : ByteArray := prog_4_method_13_code
def yX2_weightOf : MethodName := ⟨RX2, "weightOf", "(I)I"⟩
abbrev cX2_costOf : ByteArray := prog_4_method_14_code
def yX2_costOf : MethodName := ⟨RX2, "costOf", "(I)I"⟩
abbrev cX2_lengthOf : ByteArray := prog_4_method_15_code
def yX2_lengthOf : MethodName := ⟨RX2, "lengthOf", "(I)I"⟩
abbrev cX2_gateOf : ByteArray := prog_4_method_16_code
def yX2_gateOf : MethodName := ⟨RX2, "gateOf", "(II)I"⟩
abbrev cX2_restOf : ByteArray := prog_4_method_17_code
def yX2_restOf : MethodName := ⟨RX2, "restOf", "(I)I"⟩
abbrev cX2_firstGateOf : ByteArray := prog_4_method_18_code
def yX2_firstGateOf : MethodName := ⟨RX2, "firstGateOf", "(I)I"⟩
def RX3 : String := "RootGates$History"
def TX3 : u_T := fun k => match k with
  | 0 => ("RootGates$History", "rows", "[LRootGates$Row;", true)
  | 1 => ("RootGates$History", "owners", "[I", true)
  | 2 => ("RootGates$History", "next", "I", false)
  | _ => ("RootGates$History", "size", "I", false)
def tyX3 : Nat → FieldType := fun k => match k with
  | 0 => .array (.object "RootGates$Row")
  | 1 => .array .int
  | 2 => .int
  | _ => .int
abbrev wsX30 : List Cond := u_ws RX3 TX3 4
theorem nmX3 : ∀ a, a < 4 → ∀ b, b < 4 → a ≠ b → (TX3 a).2.1 ≠ (TX3 b).2.1 := by decide +kernel
theorem tyX3_ok : ∀ k, k < 4 → parseFieldDescriptor (TX3 k).2.2.1 = some (tyX3 k) := by decide +kernel
abbrev cX3_init : ByteArray := prog_5_method_1_code
def yX3_init : MethodName := ⟨RX3, "<init>", "()V"⟩
abbrev cX3_keep : ByteArray := prog_5_method_2_code
def yX3_keep : MethodName := ⟨RX3, "keep", "(ILRootGates$Row;)V"⟩
abbrev cX3_giveBack : ByteArray := prog_5_method_3_code
def yX3_giveBack : MethodName := ⟨RX3, "giveBack", "([LRootGates$Row;)V"⟩
def RX4 : String := "RootGates$Normal"
def TX4 : u_T := fun k => match k with
  | 0 => ("RootGates$Normal", "left", "LRootGates$Table;", true)
  | 1 => ("RootGates$Normal", "trial", "LRootGates$Table;", true)
  | _ => ("RootGates$Normal", "shape", "LRootGates$Channel;", true)
def tyX4 : Nat → FieldType := fun k => match k with
  | 0 => .object "RootGates$Table"
  | 1 => .object "RootGates$Table"
  | _ => .object "RootGates$Channel"
abbrev wsX40 : List Cond := u_ws RX4 TX4 3
theorem nmX4 : ∀ a, a < 3 → ∀ b, b < 3 → a ≠ b → (TX4 a).2.1 ≠ (TX4 b).2.1 := by decide +kernel
theorem tyX4_ok : ∀ k, k < 3 → parseFieldDescriptor (TX4 k).2.2.1 = some (tyX4 k) := by decide +kernel
abbrev cX4_init : ByteArray := prog_6_method_1_code
def yX4_init : MethodName := ⟨RX4, "<init>", "()V"⟩
abbrev cX4_form : ByteArray := prog_6_method_2_code
def yX4_form : MethodName := ⟨RX4, "form", "(LRootGates$Table;LRootGates$Cliffords;LRootGates$Row;)Z"⟩
abbrev cX4_findSyllable : ByteArray := prog_6_method_3_code
def yX4_findSyllable : MethodName := ⟨RX4, "findSyllable", "(I)I"⟩
abbrev cX4_takeAway : ByteArray := prog_6_method_4_code
def yX4_takeAway : MethodName := ⟨RX4, "takeAway", "(I)V"⟩
abbrev cX4_addSyllable : ByteArray := prog_6_method_5_code
def yX4_addSyllable : MethodName := ⟨RX4, "addSyllable", "(LRootGates$Row;I)Z"⟩
abbrev cX4_addCheapest : ByteArray := prog_6_method_6_code
def yX4_addCheapest : MethodName := ⟨RX4, "addCheapest", "(LRootGates$Row;LRootGates$Cliffords;)Z"⟩
def RX5 : String := "RootGates$Reader"
def TX5 : u_T := fun k => match k with
  | 0 => ("RootGates$Reader", "row", "[I", true)
  | 1 => ("RootGates$Reader", "spare", "[I", true)
  | 2 => ("RootGates$Reader", "starts", "[I", true)
  | 3 => ("RootGates$Reader", "turnsAhead", "[I", true)
  | 4 => ("RootGates$Reader", "size", "I", false)
  | 5 => ("RootGates$Reader", "level", "I", false)
  | _ => ("RootGates$Reader", "turns", "I", false)
def tyX5 : Nat → FieldType := fun k => match k with
  | 0 => .array .int
  | 1 => .array .int
  | 2 => .array .int
  | 3 => .array .int
  | 4 => .int
  | 5 => .int
  | _ => .int
abbrev wsX50 : List Cond := u_ws RX5 TX5 7
theorem nmX5 : ∀ a, a < 7 → ∀ b, b < 7 → a ≠ b → (TX5 a).2.1 ≠ (TX5 b).2.1 := by decide +kernel
theorem tyX5_ok : ∀ k, k < 7 → parseFieldDescriptor (TX5 k).2.2.1 = some (tyX5 k) := by decide +kernel
abbrev cX5_init : ByteArray := prog_7_method_1_code
def yX5_init : MethodName := ⟨RX5, "<init>", "()V"⟩
abbrev cX5_read : ByteArray := prog_7_method_2_code
def yX5_read : MethodName := ⟨RX5, "read", "(LRootGates$Tape;LRootGates$Row;)Z"⟩
abbrev cX5_readByte : ByteArray := prog_7_method_3_code
def yX5_readByte : MethodName := ⟨RX5, "readByte", "(LRootGates$Tape;I)Z"⟩
abbrev cX5_isHeld : ByteArray := prog_7_method_4_code
def yX5_isHeld : MethodName := ⟨RX5, "isHeld", "(II)Z"⟩
abbrev cX5_readGate : ByteArray := prog_7_method_5_code
def yX5_readGate : MethodName := ⟨RX5, "readGate", "(I)Z"⟩
abbrev cX5_openGroup : ByteArray := prog_7_method_6_code
def yX5_openGroup : MethodName := ⟨RX5, "openGroup", "()Z"⟩
abbrev cX5_closeGroup : ByteArray := prog_7_method_7_code
def yX5_closeGroup : MethodName := ⟨RX5, "closeGroup", "(I)Z"⟩
abbrev cX5_turnItem : ByteArray := prog_7_method_8_code
def yX5_turnItem : MethodName := ⟨RX5, "turnItem", "(I)Z"⟩
abbrev cX5_turnOnce : ByteArray := prog_7_method_9_code
def yX5_turnOnce : MethodName := ⟨RX5, "turnOnce", "(I)Z"⟩
abbrev cX5_widthOf : ByteArray := prog_7_method_10_code
def yX5_widthOf : MethodName := ⟨RX5, "widthOf", "(I)I"⟩
abbrev cX5_turnedGate : ByteArray := prog_7_method_11_code
def yX5_turnedGate : MethodName := ⟨RX5, "turnedGate", "(II)I"⟩
def RX6 : String := "RootGates$Row"
def TX6 : u_T := fun k => match k with
  | 0 => ("RootGates$Row", "gates", "[I", true)
  | _ => ("RootGates$Row", "size", "I", false)
def tyX6 : Nat → FieldType := fun k => match k with
  | 0 => .array .int
  | _ => .int
abbrev wsX60 : List Cond := u_ws RX6 TX6 2
theorem nmX6 : ∀ a, a < 2 → ∀ b, b < 2 → a ≠ b → (TX6 a).2.1 ≠ (TX6 b).2.1 := by decide +kernel
theorem tyX6_ok : ∀ k, k < 2 → parseFieldDescriptor (TX6 k).2.2.1 = some (tyX6 k) := by decide +kernel
abbrev cX6_init : ByteArray := prog_8_method_1_code
def yX6_init : MethodName := ⟨RX6, "<init>", "()V"⟩
abbrev cX6_makeCopy : ByteArray := prog_8_method_2_code
def yX6_makeCopy : MethodName := ⟨RX6, "makeCopy", "(LRootGates$Row;)V"⟩
abbrev cX6_isSame : ByteArray := prog_8_method_3_code
def yX6_isSame : MethodName := ⟨RX6, "isSame", "(LRootGates$Row;)Z"⟩
abbrev cX6_at : ByteArray := prog_8_method_4_code
def yX6_at : MethodName := ⟨RX6, "at", "(I)I"⟩
abbrev cX6_add : ByteArray := prog_8_method_5_code
def yX6_add : MethodName := ⟨RX6, "add", "(I)Z"⟩
abbrev cX6_cut : ByteArray := prog_8_method_6_code
def yX6_cut : MethodName := ⟨RX6, "cut", "(II)V"⟩
abbrev cX6_countOf : ByteArray := prog_8_method_7_code
def yX6_countOf : MethodName := ⟨RX6, "countOf", "(I)I"⟩
abbrev cX6_costBy : ByteArray := prog_8_method_8_code
def yX6_costBy : MethodName := ⟨RX6, "costBy", "([I)I"⟩
abbrev cX6_shorten : ByteArray := prog_8_method_9_code
def yX6_shorten : MethodName := ⟨RX6, "shorten", "()V"⟩
abbrev cX6_shortenOnce : ByteArray := prog_8_method_10_code
def yX6_shortenOnce : MethodName := ⟨RX6, "shortenOnce", "()Z"⟩
abbrev cX6_shortenAt : ByteArray := prog_8_method_11_code
def yX6_shortenAt : MethodName := ⟨RX6, "shortenAt", "(I)Z"⟩
abbrev cX6_goesOut : ByteArray := prog_8_method_12_code
def yX6_goesOut : MethodName := ⟨RX6, "goesOut", "(II)Z"⟩
abbrev cX6_joinOf : ByteArray := prog_8_method_13_code
def yX6_joinOf : MethodName := ⟨RX6, "joinOf", "(II)I"⟩
abbrev cX6_standsEightTimes : ByteArray := prog_8_method_14_code
def yX6_standsEightTimes : MethodName := ⟨RX6, "standsEightTimes", "(II)Z"⟩
def RX7 : String := "RootGates$Table"
def TX7 : u_T := fun k => match k with
  | 0 => ("RootGates$Table", "parts", "[J", true)
  | _ => ("RootGates$Table", "e", "I", false)
def tyX7 : Nat → FieldType := fun k => match k with
  | 0 => .array .long
  | _ => .int
abbrev wsX70 : List Cond := u_ws RX7 TX7 2
theorem nmX7 : ∀ a, a < 2 → ∀ b, b < 2 → a ≠ b → (TX7 a).2.1 ≠ (TX7 b).2.1 := by decide +kernel
theorem tyX7_ok : ∀ k, k < 2 → parseFieldDescriptor (TX7 k).2.2.1 = some (tyX7 k) := by decide +kernel
abbrev cX7_init : ByteArray := prog_9_method_1_code
def yX7_init : MethodName := ⟨RX7, "<init>", "()V"⟩
abbrev cX7_placeOf : ByteArray := prog_9_method_2_code
def yX7_placeOf : MethodName := ⟨RX7, "placeOf", "(II)I"⟩
abbrev cX7_makeUnit : ByteArray := prog_9_method_3_code
def yX7_makeUnit : MethodName := ⟨RX7, "makeUnit", "()V"⟩
abbrev cX7_makeCopy : ByteArray := prog_9_method_4_code
def yX7_makeCopy : MethodName := ⟨RX7, "makeCopy", "(LRootGates$Table;)V"⟩
abbrev cX7_isSame : ByteArray := prog_9_method_5_code
def yX7_isSame : MethodName := ⟨RX7, "isSame", "(LRootGates$Table;)Z"⟩
abbrev cX7_makeTurned : ByteArray := prog_9_method_6_code
def yX7_makeTurned : MethodName := ⟨RX7, "makeTurned", "(LRootGates$Table;)V"⟩
abbrev cX7_makeProduct : ByteArray := prog_9_method_7_code
def yX7_makeProduct : MethodName := ⟨RX7, "makeProduct", "(LRootGates$Table;LRootGates$Table;)V"⟩
abbrev cX7_clearParts : ByteArray := prog_9_method_8_code
def yX7_clearParts : MethodName := ⟨RX7, "clearParts", "()V"⟩
abbrev cX7_addProduct : ByteArray := prog_9_method_9_code
def yX7_addProduct : MethodName := ⟨RX7, "addProduct", "(I[JI[JI)V"⟩
abbrev cX7_applyRow : ByteArray := prog_9_method_10_code
def yX7_applyRow : MethodName := ⟨RX7, "applyRow", "(LRootGates$Row;II)V"⟩
abbrev cX7_applyBehind : ByteArray := prog_9_method_11_code
def yX7_applyBehind : MethodName := ⟨RX7, "applyBehind", "(I)V"⟩
abbrev cX7_applyAhead : ByteArray := prog_9_method_12_code
def yX7_applyAhead : MethodName := ⟨RX7, "applyAhead", "(I)V"⟩
abbrev cX7_applyToPair : ByteArray := prog_9_method_13_code
def yX7_applyToPair : MethodName := ⟨RX7, "applyToPair", "(III)V"⟩
abbrev cX7_addAndSubtract : ByteArray := prog_9_method_14_code
def yX7_addAndSubtract : MethodName := ⟨RX7, "addAndSubtract", "(II)V"⟩
abbrev cX7_exchange : ByteArray := prog_9_method_15_code
def yX7_exchange : MethodName := ⟨RX7, "exchange", "(II)V"⟩
abbrev cX7_rotate : ByteArray := prog_9_method_16_code
def yX7_rotate : MethodName := ⟨RX7, "rotate", "(II)V"⟩
abbrev cX7_lower : ByteArray := prog_9_method_17_code
def yX7_lower : MethodName := ⟨RX7, "lower", "()V"⟩
abbrev cX7_isMultipleOfR : ByteArray := prog_9_method_18_code
def yX7_isMultipleOfR : MethodName := ⟨RX7, "isMultipleOfR", "()Z"⟩
abbrev cX7_divideByR : ByteArray := prog_9_method_19_code
def yX7_divideByR : MethodName := ⟨RX7, "divideByR", "(I)V"⟩
def RX8 : String := "RootGates$Tape"
def TX8 : u_T := fun k => match k with
  | 0 => ("RootGates$Tape", "bytes", "[I", true)
  | _ => ("RootGates$Tape", "size", "I", false)
def tyX8 : Nat → FieldType := fun k => match k with
  | 0 => .array .int
  | _ => .int
abbrev wsX80 : List Cond := u_ws RX8 TX8 2
theorem nmX8 : ∀ a, a < 2 → ∀ b, b < 2 → a ≠ b → (TX8 a).2.1 ≠ (TX8 b).2.1 := by decide +kernel
theorem tyX8_ok : ∀ k, k < 2 → parseFieldDescriptor (TX8 k).2.2.1 = some (tyX8 k) := by decide +kernel
abbrev cX8_init : ByteArray := prog_10_method_1_code
def yX8_init : MethodName := ⟨RX8, "<init>", "()V"⟩
abbrev cX8_add : ByteArray := prog_10_method_2_code
def yX8_add : MethodName := ⟨RX8, "add", "(I)Z"⟩
abbrev cX8_at : ByteArray := prog_10_method_3_code
def yX8_at : MethodName := ⟨RX8, "at", "(I)I"⟩
abbrev cX8_figureAt : ByteArray := prog_10_method_4_code
def yX8_figureAt : MethodName := ⟨RX8, "figureAt", "(I)I"⟩
abbrev cX8_findFault : ByteArray := prog_10_method_5_code
def yX8_findFault : MethodName := ⟨RX8, "findFault", "()I"⟩
def RX9 : String := "RootGates"
def TX9 : u_T := fun k => match k with
  | 0 => ("RootGates", "bench", "LRootGates$Bench;", true)
  | 1 => ("RootGates", "picture", "LRootGates$Bench;", true)
  | 2 => ("RootGates", "pictured", "Z", false)
  | 3 => ("RootGates", "history", "LRootGates$History;", true)
  | 4 => ("RootGates", "tape", "LRootGates$Tape;", true)
  | 5 => ("RootGates", "reader", "LRootGates$Reader;", true)
  | 6 => ("RootGates", "cliffords", "LRootGates$Cliffords;", true)
  | 7 => ("RootGates", "shape", "LRootGates$Channel;", true)
  | 8 => ("RootGates", "former", "LRootGates$Normal;", true)
  | 9 => ("RootGates", "draft", "LRootGates$Row;", true)
  | 10 => ("RootGates", "work", "LRootGates$Table;", true)
  | 11 => ("RootGates", "begun", "LRootGates$Table;", true)
  | 12 => ("RootGates", "ended", "LRootGates$Table;", true)
  | _ => ("RootGates", "trial", "LRootGates$Table;", true)
def tyX9 : Nat → FieldType := fun k => match k with
  | 0 => .object "RootGates$Bench"
  | 1 => .object "RootGates$Bench"
  | 2 => .boolean
  | 3 => .object "RootGates$History"
  | 4 => .object "RootGates$Tape"
  | 5 => .object "RootGates$Reader"
  | 6 => .object "RootGates$Cliffords"
  | 7 => .object "RootGates$Channel"
  | 8 => .object "RootGates$Normal"
  | 9 => .object "RootGates$Row"
  | 10 => .object "RootGates$Table"
  | 11 => .object "RootGates$Table"
  | 12 => .object "RootGates$Table"
  | _ => .object "RootGates$Table"
abbrev wsX90 : List Cond := u_ws RX9 TX9 14
theorem nmX9 : ∀ a, a < 14 → ∀ b, b < 14 → a ≠ b → (TX9 a).2.1 ≠ (TX9 b).2.1 := by decide +kernel
theorem tyX9_ok : ∀ k, k < 14 → parseFieldDescriptor (TX9 k).2.2.1 = some (tyX9 k) := by decide +kernel
abbrev cX9_init : ByteArray := prog_1_method_1_code
def yX9_init : MethodName := ⟨RX9, "<init>", "()V"⟩
abbrev cX9_one : ByteArray := prog_1_method_2_code
def yX9_one : MethodName := ⟨RX9, "one", "(I)I"⟩
abbrev cX9_gate : ByteArray := prog_1_method_3_code
def yX9_gate : MethodName := ⟨RX9, "gate", "(II)I"⟩
abbrev cX9_ahead : ByteArray := prog_1_method_4_code
def yX9_ahead : MethodName := ⟨RX9, "ahead", "(II)I"⟩
abbrev cX9_times : ByteArray := prog_1_method_5_code
def yX9_times : MethodName := ⟨RX9, "times", "(III)I"⟩
abbrev cX9_turn : ByteArray := prog_1_method_6_code
def yX9_turn : MethodName := ⟨RX9, "turn", "(I)I"⟩
abbrev cX9_part : ByteArray := prog_1_method_7_code
def yX9_part : MethodName := ⟨RX9, "part", "(IIII)J"⟩
abbrev cX9_e : ByteArray := prog_1_method_8_code
def yX9_e : MethodName := ⟨RX9, "e", "(I)I"⟩
abbrev cX9_phase : ByteArray := prog_1_method_9_code
def yX9_phase : MethodName := ⟨RX9, "phase", "(II)I"⟩
abbrev cX9_channel : ByteArray := prog_1_method_10_code
def yX9_channel : MethodName := ⟨RX9, "channel", "(IIII)J"⟩
abbrev cX9_count : ByteArray := prog_1_method_11_code
def yX9_count : MethodName := ⟨RX9, "count", "(I)I"⟩
abbrev cX9_clifford : ByteArray := prog_1_method_12_code
def yX9_clifford : MethodName := ⟨RX9, "clifford", "(I)I"⟩
abbrev cX9_take : ByteArray := prog_1_method_13_code
def yX9_take : MethodName := ⟨RX9, "take", "(II)I"⟩
abbrev cX9_leads : ByteArray := prog_1_method_14_code
def yX9_leads : MethodName := ⟨RX9, "leads", "(II)I"⟩
abbrev cX9_price : ByteArray := prog_1_method_15_code
def yX9_price : MethodName := ⟨RX9, "price", "(II)I"⟩
abbrev cX9_cheapest : ByteArray := prog_1_method_16_code
def yX9_cheapest : MethodName := ⟨RX9, "cheapest", "(II)I"⟩
abbrev cX9_push : ByteArray := prog_1_method_17_code
def yX9_push : MethodName := ⟨RX9, "push", "(II)I"⟩
abbrev cX9_pull : ByteArray := prog_1_method_18_code
def yX9_pull : MethodName := ⟨RX9, "pull", "(I)I"⟩
abbrev cX9_word : ByteArray := prog_1_method_19_code
def yX9_word : MethodName := ⟨RX9, "word", "(II)I"⟩
abbrev cX9_value : ByteArray := prog_1_method_20_code
def yX9_value : MethodName := ⟨RX9, "value", "(II)I"⟩
abbrev cX9_shorter : ByteArray := prog_1_method_21_code
def yX9_shorter : MethodName := ⟨RX9, "shorter", "(I)I"⟩
abbrev cX9_normal : ByteArray := prog_1_method_22_code
def yX9_normal : MethodName := ⟨RX9, "normal", "(II)I"⟩
abbrev cX9_fits : ByteArray := prog_1_method_23_code
def yX9_fits : MethodName := ⟨RX9, "fits", "(III)I"⟩
abbrev cX9_parts : ByteArray := prog_1_method_24_code
def yX9_parts : MethodName := ⟨RX9, "parts", "(II)I"⟩
abbrev cX9_undo : ByteArray := prog_1_method_25_code
def yX9_undo : MethodName := ⟨RX9, "undo", "()I"⟩
abbrev cX9_feed : ByteArray := prog_1_method_26_code
def yX9_feed : MethodName := ⟨RX9, "feed", "(I)I"⟩
abbrev cX9_wipe : ByteArray := prog_1_method_27_code
def yX9_wipe : MethodName := ⟨RX9, "wipe", "()I"⟩
abbrev cX9_write : ByteArray := prog_1_method_28_code
def yX9_write : MethodName := ⟨RX9, "write", "(I)I"⟩
abbrev cX9_image : ByteArray := prog_1_method_29_code
def yX9_image : MethodName := ⟨RX9, "image", "()I"⟩
abbrev cX9_restore : ByteArray := prog_1_method_30_code
def yX9_restore : MethodName := ⟨RX9, "restore", "()I"⟩
abbrev cX9_told : ByteArray := prog_1_method_31_code
def yX9_told : MethodName := ⟨RX9, "told", "(I)I"⟩
abbrev cX9_isBelow : ByteArray := prog_1_method_32_code
def yX9_isBelow : MethodName := ⟨RX9, "isBelow", "(II)Z"⟩
abbrev cX9_isRegister : ByteArray := prog_1_method_33_code
def yX9_isRegister : MethodName := ⟨RX9, "isRegister", "(I)Z"⟩
abbrev cX9_isGate : ByteArray := prog_1_method_34_code
def yX9_isGate : MethodName := ⟨RX9, "isGate", "(I)Z"⟩
abbrev cX9_isWord : ByteArray := prog_1_method_35_code
def yX9_isWord : MethodName := ⟨RX9, "isWord", "(I)Z"⟩
abbrev cX9_settleRegister : ByteArray := prog_1_method_36_code
def yX9_settleRegister : MethodName := ⟨RX9, "settleRegister", "(I)I"⟩
abbrev cX9_settleWord : ByteArray := prog_1_method_37_code
def yX9_settleWord : MethodName := ⟨RX9, "settleWord", "(I)I"⟩
abbrev cX9_gateOfLetter : ByteArray := prog_1_method_38_code
def yX9_gateOfLetter : MethodName := ⟨RX9, "gateOfLetter", "(I)I"⟩
def RX10 : String := "RootGatesModel"
def TX10 : u_T := fun k => match k with
  | 0 => ("RootGatesModel", "table", "[J", true)
  | 1 => ("RootGatesModel", "clifford", "[J", true)
  | 2 => ("RootGatesModel", "kept", "[J", true)
  | 3 => ("RootGatesModel", "price", "[I", true)
  | 4 => ("RootGatesModel", "keptPrice", "[I", true)
  | 5 => ("RootGatesModel", "word", "[I", true)
  | 6 => ("RootGatesModel", "size", "[I", true)
  | 7 => ("RootGatesModel", "keptWord", "[I", true)
  | 8 => ("RootGatesModel", "keptSize", "[I", true)
  | 9 => ("RootGatesModel", "isKept", "Z", false)
  | 10 => ("RootGatesModel", "x", "[J", true)
  | 11 => ("RootGatesModel", "y", "[J", true)
  | 12 => ("RootGatesModel", "behind", "[I", true)
  | 13 => ("RootGatesModel", "left", "[I", true)
  | 14 => ("RootGatesModel", "there", "I", false)
  | 15 => ("RootGatesModel", "cost", "[I", true)
  | 16 => ("RootGatesModel", "steps", "[I", true)
  | 17 => ("RootGatesModel", "row", "[I", true)
  | 18 => ("RootGatesModel", "many", "I", false)
  | 19 => ("RootGatesModel", "was", "[I", true)
  | 20 => ("RootGatesModel", "wasSize", "[I", true)
  | 21 => ("RootGatesModel", "wasOf", "[I", true)
  | 22 => ("RootGatesModel", "changes", "I", false)
  | 23 => ("RootGatesModel", "tape", "[I", true)
  | 24 => ("RootGatesModel", "fed", "I", false)
  | 25 => ("RootGatesModel", "place", "I", false)
  | 26 => ("RootGatesModel", "open", "I", false)
  | 27 => ("RootGatesModel", "isSpent", "Z", false)
  | _ => ("RootGatesModel", "aside", "[I", true)
def tyX10 : Nat → FieldType := fun k => match k with
  | 0 => .array .long
  | 1 => .array .long
  | 2 => .array .long
  | 3 => .array .int
  | 4 => .array .int
  | 5 => .array .int
  | 6 => .array .int
  | 7 => .array .int
  | 8 => .array .int
  | 9 => .boolean
  | 10 => .array .long
  | 11 => .array .long
  | 12 => .array .int
  | 13 => .array .int
  | 14 => .int
  | 15 => .array .int
  | 16 => .array .int
  | 17 => .array .int
  | 18 => .int
  | 19 => .array .int
  | 20 => .array .int
  | 21 => .array .int
  | 22 => .int
  | 23 => .array .int
  | 24 => .int
  | 25 => .int
  | 26 => .int
  | 27 => .boolean
  | _ => .array .int
abbrev wsX100 : List Cond := u_ws RX10 TX10 29
theorem nmX10 : ∀ a, a < 29 → ∀ b, b < 29 → a ≠ b → (TX10 a).2.1 ≠ (TX10 b).2.1 := by decide +kernel
theorem tyX10_ok : ∀ k, k < 29 → parseFieldDescriptor (TX10 k).2.2.1 = some (tyX10 k) := by decide +kernel
abbrev cX10_init : ByteArray := prog_12_method_1_code
def yX10_init : MethodName := ⟨RX10, "<init>", "()V"⟩
abbrev cX10_isIn : ByteArray := prog_12_method_2_code
def yX10_isIn : MethodName := ⟨RX10, "isIn", "(JJJ)Z"⟩
abbrev cX10_number : ByteArray := prog_12_method_3_code
def yX10_number : MethodName := ⟨RX10, "number", "(IIIJ)V"⟩
abbrev cX10_at : ByteArray := prog_12_method_4_code
def yX10_at : MethodName := ⟨RX10, "at", "(III)J"⟩
abbrev cX10_eOf : ByteArray := prog_12_method_5_code
def yX10_eOf : MethodName := ⟨RX10, "eOf", "(I)I"⟩
abbrev cX10_copies : ByteArray := prog_12_method_6_code
def yX10_copies : MethodName := ⟨RX10, "copies", "(II)V"⟩
abbrev cX10_gates : ByteArray := prog_12_method_7_code
def yX10_gates : MethodName := ⟨RX10, "gates", "()V"⟩
abbrev cX10_isOver : ByteArray := prog_12_method_8_code
def yX10_isOver : MethodName := ⟨RX10, "isOver", "(I)Z"⟩
abbrev cX10_lowers : ByteArray := prog_12_method_9_code
def yX10_lowers : MethodName := ⟨RX10, "lowers", "(I)V"⟩
abbrev cX10_adds : ByteArray := prog_12_method_10_code
def yX10_adds : MethodName := ⟨RX10, "adds", "(IIIIII)V"⟩
abbrev cX10_plainly : ByteArray := prog_12_method_11_code
def yX10_plainly : MethodName := ⟨RX10, "plainly", "(III)V"⟩
abbrev cX10_product : ByteArray := prog_12_method_12_code
def yX10_product : MethodName := ⟨RX10, "product", "(III)V"⟩
abbrev cX10_turns : ByteArray := prog_12_method_13_code
def yX10_turns : MethodName := ⟨RX10, "turns", "(II)V"⟩
abbrev cX10_areSame : ByteArray := prog_12_method_14_code
def yX10_areSame : MethodName := ⟨RX10, "areSame", "(II)Z"⟩
abbrev cX10_isRegister : ByteArray := prog_12_method_15_code
def yX10_isRegister : MethodName := ⟨RX10, "isRegister", "(I)Z"⟩
abbrev cX10_isGate : ByteArray := prog_12_method_16_code
def yX10_isGate : MethodName := ⟨RX10, "isGate", "(I)Z"⟩
abbrev cX10_one : ByteArray := prog_12_method_17_code
def yX10_one : MethodName := ⟨RX10, "one", "(I)I"⟩
abbrev cX10_comes : ByteArray := prog_12_method_18_code
def yX10_comes : MethodName := ⟨RX10, "comes", "(I)I"⟩
abbrev cX10_gate : ByteArray := prog_12_method_19_code
def yX10_gate : MethodName := ⟨RX10, "gate", "(II)I"⟩
abbrev cX10_ahead : ByteArray := prog_12_method_20_code
def yX10_ahead : MethodName := ⟨RX10, "ahead", "(II)I"⟩
abbrev cX10_times : ByteArray := prog_12_method_21_code
def yX10_times : MethodName := ⟨RX10, "times", "(III)I"⟩
abbrev cX10_turn : ByteArray := prog_12_method_22_code
def yX10_turn : MethodName := ⟨RX10, "turn", "(I)I"⟩
abbrev cX10_part : ByteArray := prog_12_method_23_code
def yX10_part : MethodName := ⟨RX10, "part", "(IIII)J"⟩
abbrev cX10_e : ByteArray := prog_12_method_24_code
def yX10_e : MethodName := ⟨RX10, "e", "(I)I"⟩
abbrev cX10_phase : ByteArray := prog_12_method_25_code
def yX10_phase : MethodName := ⟨RX10, "phase", "(II)I"⟩
abbrev cX10_channels : ByteArray := prog_12_method_26_code
def yX10_channels : MethodName := ⟨RX10, "channels", "(I)I"⟩
abbrev cX10_channel : ByteArray := prog_12_method_27_code
def yX10_channel : MethodName := ⟨RX10, "channel", "(IIII)J"⟩
abbrev cX10_count : ByteArray := prog_12_method_28_code
def yX10_count : MethodName := ⟨RX10, "count", "(I)I"⟩
abbrev cX10_cliffordOf : ByteArray := prog_12_method_29_code
def yX10_cliffordOf : MethodName := ⟨RX10, "cliffordOf", "(I)I"⟩
abbrev cX10_loads : ByteArray := prog_12_method_30_code
def yX10_loads : MethodName := ⟨RX10, "loads", "(II)V"⟩
abbrev cX10_saves : ByteArray := prog_12_method_31_code
def yX10_saves : MethodName := ⟨RX10, "saves", "(I)V"⟩
abbrev cX10_isClifford : ByteArray := prog_12_method_32_code
def yX10_isClifford : MethodName := ⟨RX10, "isClifford", "(I)Z"⟩
abbrev cX10_walks : ByteArray := prog_12_method_33_code
def yX10_walks : MethodName := ⟨RX10, "walks", "()V"⟩
abbrev cX10_isNumber : ByteArray := prog_12_method_34_code
def yX10_isNumber : MethodName := ⟨RX10, "isNumber", "(I)Z"⟩
abbrev cX10_clifford : ByteArray := prog_12_method_35_code
def yX10_clifford : MethodName := ⟨RX10, "clifford", "(I)I"⟩
abbrev cX10_take : ByteArray := prog_12_method_36_code
def yX10_take : MethodName := ⟨RX10, "take", "(II)I"⟩
abbrev cX10_leads : ByteArray := prog_12_method_37_code
def yX10_leads : MethodName := ⟨RX10, "leads", "(II)I"⟩
abbrev cX10_price : ByteArray := prog_12_method_38_code
def yX10_price : MethodName := ⟨RX10, "price", "(II)I"⟩
abbrev cX10_costs : ByteArray := prog_12_method_39_code
def yX10_costs : MethodName := ⟨RX10, "costs", "()V"⟩
abbrev cX10_cheapestBehind : ByteArray := prog_12_method_40_code
def yX10_cheapestBehind : MethodName := ⟨RX10, "cheapestBehind", "(I)V"⟩
abbrev cX10_cheapest : ByteArray := prog_12_method_41_code
def yX10_cheapest : MethodName := ⟨RX10, "cheapest", "(II)I"⟩
abbrev cX10_isWord : ByteArray := prog_12_method_42_code
def yX10_isWord : MethodName := ⟨RX10, "isWord", "(I)Z"⟩
abbrev cX10_isOther : ByteArray := prog_12_method_43_code
def yX10_isOther : MethodName := ⟨RX10, "isOther", "(I)Z"⟩
abbrev cX10_becomes : ByteArray := prog_12_method_44_code
def yX10_becomes : MethodName := ⟨RX10, "becomes", "(I)I"⟩
abbrev cX10_takes : ByteArray := prog_12_method_45_code
def yX10_takes : MethodName := ⟨RX10, "takes", "(I)V"⟩
abbrev cX10_push : ByteArray := prog_12_method_46_code
def yX10_push : MethodName := ⟨RX10, "push", "(II)I"⟩
abbrev cX10_pull : ByteArray := prog_12_method_47_code
def yX10_pull : MethodName := ⟨RX10, "pull", "(I)I"⟩
abbrev cX10_word : ByteArray := prog_12_method_48_code
def yX10_word : MethodName := ⟨RX10, "word", "(II)I"⟩
abbrev cX10_valueOf : ByteArray := prog_12_method_49_code
def yX10_valueOf : MethodName := ⟨RX10, "valueOf", "(IIIII)V"⟩
abbrev cX10_value : ByteArray := prog_12_method_50_code
def yX10_value : MethodName := ⟨RX10, "value", "(II)I"⟩
abbrev cX10_isPair : ByteArray := prog_12_method_51_code
def yX10_isPair : MethodName := ⟨RX10, "isPair", "(III)Z"⟩
abbrev cX10_cuts : ByteArray := prog_12_method_52_code
def yX10_cuts : MethodName := ⟨RX10, "cuts", "(IIII)V"⟩
abbrev cX10_isRuled : ByteArray := prog_12_method_53_code
def yX10_isRuled : MethodName := ⟨RX10, "isRuled", "(I)Z"⟩
abbrev cX10_shorter : ByteArray := prog_12_method_54_code
def yX10_shorter : MethodName := ⟨RX10, "shorter", "(I)I"⟩
abbrev cX10_isLess : ByteArray := prog_12_method_55_code
def yX10_isLess : MethodName := ⟨RX10, "isLess", "(II)Z"⟩
abbrev cX10_normal : ByteArray := prog_12_method_56_code
def yX10_normal : MethodName := ⟨RX10, "normal", "(II)I"⟩
abbrev cX10_fits : ByteArray := prog_12_method_57_code
def yX10_fits : MethodName := ⟨RX10, "fits", "(III)I"⟩
abbrev cX10_parts : ByteArray := prog_12_method_58_code
def yX10_parts : MethodName := ⟨RX10, "parts", "(II)I"⟩
abbrev cX10_undo : ByteArray := prog_12_method_59_code
def yX10_undo : MethodName := ⟨RX10, "undo", "()I"⟩
abbrev cX10_feed : ByteArray := prog_12_method_60_code
def yX10_feed : MethodName := ⟨RX10, "feed", "(I)I"⟩
abbrev cX10_wipe : ByteArray := prog_12_method_61_code
def yX10_wipe : MethodName := ⟨RX10, "wipe", "()I"⟩
abbrev cX10_here : ByteArray := prog_12_method_62_code
def yX10_here : MethodName := ⟨RX10, "here", "()I"⟩
abbrev cX10_gateBy : ByteArray := prog_12_method_63_code
def yX10_gateBy : MethodName := ⟨RX10, "gateBy", "(I)I"⟩
abbrev cX10_begins : ByteArray := prog_12_method_64_code
def yX10_begins : MethodName := ⟨RX10, "begins", "()Z"⟩
abbrev cX10_puts : ByteArray := prog_12_method_65_code
def yX10_puts : MethodName := ⟨RX10, "puts", "(I)V"⟩
abbrev cX10_reverses : ByteArray := prog_12_method_66_code
def yX10_reverses : MethodName := ⟨RX10, "reverses", "(I)V"⟩
abbrev cX10_item : ByteArray := prog_12_method_67_code
def yX10_item : MethodName := ⟨RX10, "item", "()Z"⟩
abbrev cX10_items : ByteArray := prog_12_method_68_code
def yX10_items : MethodName := ⟨RX10, "items", "()Z"⟩
abbrev cX10_write : ByteArray := prog_12_method_69_code
def yX10_write : MethodName := ⟨RX10, "write", "(I)I"⟩
abbrev cX10_all : ByteArray := prog_12_method_70_code
def yX10_all : MethodName := ⟨RX10, "all", "()I"⟩
abbrev cX10_image : ByteArray := prog_12_method_71_code
def yX10_image : MethodName := ⟨RX10, "image", "()I"⟩
abbrev cX10_restore : ByteArray := prog_12_method_72_code
def yX10_restore : MethodName := ⟨RX10, "restore", "()I"⟩
abbrev cX10_told : ByteArray := prog_12_method_73_code
def yX10_told : MethodName := ⟨RX10, "told", "(I)I"⟩
def RJ9 : String := "java/lang/Math"
def TJ9 : u_T := fun k => match k with
  | _ => ("", "", "", false)
def tyJ9 : Nat → FieldType := fun k => match k with
  | _ => .int
abbrev wsJ90 : List Cond := u_ws RJ9 TJ9 0
theorem nmJ9 : ∀ a, a < 0 → ∀ b, b < 0 → a ≠ b → (TJ9 a).2.1 ≠ (TJ9 b).2.1 := by decide +kernel
theorem tyJ9_ok : ∀ k, k < 0 → parseFieldDescriptor (TJ9 k).2.2.1 = some (tyJ9 k) := by decide +kernel
abbrev cJ9_max_7cf53 : ByteArray := prog_13_method_65_code
def yJ9_max_7cf53 : MethodName := ⟨RJ9, "max", "(II)I"⟩
abbrev cJ9_min_7cf53 : ByteArray := prog_13_method_69_code
def yJ9_min_7cf53 : MethodName := ⟨RJ9, "min", "(II)I"⟩
def RJ10 : String := "java/lang/System"
def TJ10 : u_T := fun k => match k with
  | _ => ("", "", "", false)
def tyJ10 : Nat → FieldType := fun k => match k with
  | _ => .int
abbrev wsJ100 : List Cond := u_ws RJ10 TJ10 0
theorem nmJ10 : ∀ a, a < 0 → ∀ b, b < 0 → a ≠ b → (TJ10 a).2.1 ≠ (TJ10 b).2.1 := by decide +kernel
theorem tyJ10_ok : ∀ k, k < 0 → parseFieldDescriptor (TJ10 k).2.2.1 = some (tyJ10 k) := by decide +kernel
def RL : String := "RootGatesLaw"
abbrev cL_law : ByteArray := code
def yL_law : MethodName := ⟨RL, "law", "([I)Z"⟩
abbrev vwCl : List vw_C := [(RX0, TX0, 3), (RX1, TX1, 6), (RX2, TX2, 10), (RX3, TX3, 4), (RX4, TX4, 3), (RX5, TX5, 7), (RX6, TX6, 2), (RX7, TX7, 2), (RX8, TX8, 2), (RX9, TX9, 14), (RX10, TX10, 29)]
end
section
theorem dX0_init_0 : decode cX0_init 0 = .ok (.aload_n 0, 1) := by decide +kernel
theorem dX0_init_1 : decode cX0_init 1 = .ok (.invokespecial 3, 3) := by decide +kernel
theorem dX0_init_4 : decode cX0_init 4 = .ok (.aload_n 0, 1) := by decide +kernel
theorem dX0_init_5 : decode cX0_init 5 = .ok (.iconst 4, 1) := by decide +kernel
theorem dX0_init_6 : decode cX0_init 6 = .ok (.anewarray 9, 3) := by decide +kernel
theorem dX0_init_9 : decode cX0_init 9 = .ok (.putfield 11, 3) := by decide +kernel
theorem dX0_init_12 : decode cX0_init 12 = .ok (.aload_n 0, 1) := by decide +kernel
theorem dX0_init_13 : decode cX0_init 13 = .ok (.iconst 3, 1) := by decide +kernel
theorem dX0_init_14 : decode cX0_init 14 = .ok (.anewarray 17, 3) := by decide +kernel
theorem dX0_init_17 : decode cX0_init 17 = .ok (.putfield 19, 3) := by decide +kernel
theorem dX0_init_20 : decode cX0_init 20 = .ok (.aload_n 0, 1) := by decide +kernel
theorem dX0_init_21 : decode cX0_init 21 = .ok (.bipush 7, 2) := by decide +kernel
theorem dX0_init_23 : decode cX0_init 23 = .ok (.newarray .int, 2) := by decide +kernel
theorem dX0_init_25 : decode cX0_init 25 = .ok (.putfield 23, 3) := by decide +kernel
theorem dX0_init_28 : decode cX0_init 28 = .ok (.iconst 0, 1) := by decide +kernel
theorem dX0_init_29 : decode cX0_init 29 = .ok (.istore_n 1, 1) := by decide +kernel
theorem dX0_init_30 : decode cX0_init 30 = .ok (.iload_n 1, 1) := by decide +kernel
theorem dX0_init_31 : decode cX0_init 31 = .ok (.iconst 4, 1) := by decide +kernel
theorem dX0_init_32 : decode cX0_init 32 = .ok (.if_icmp .ge 22, 3) := by decide +kernel
theorem dX0_init_35 : decode cX0_init 35 = .ok (.aload_n 0, 1) := by decide +kernel
theorem dX0_init_36 : decode cX0_init 36 = .ok (.getfield 11, 3) := by decide +kernel
theorem dX0_init_39 : decode cX0_init 39 = .ok (.iload_n 1, 1) := by decide +kernel
theorem dX0_init_40 : decode cX0_init 40 = .ok (.new 9, 3) := by decide +kernel
theorem dX0_init_43 : decode cX0_init 43 = .ok (.dup, 1) := by decide +kernel
theorem dX0_init_44 : decode cX0_init 44 = .ok (.invokespecial 27, 3) := by decide +kernel
theorem dX0_init_47 : decode cX0_init 47 = .ok (.aastore, 1) := by decide +kernel
theorem dX0_init_48 : decode cX0_init 48 = .ok (.iinc 1 1, 3) := by decide +kernel
theorem dX0_init_51 : decode cX0_init 51 = .ok (.goto (-21), 3) := by decide +kernel
theorem dX0_init_54 : decode cX0_init 54 = .ok (.iconst 0, 1) := by decide +kernel
theorem dX0_init_55 : decode cX0_init 55 = .ok (.istore_n 1, 1) := by decide +kernel
theorem dX0_init_56 : decode cX0_init 56 = .ok (.iload_n 1, 1) := by decide +kernel
theorem dX0_init_57 : decode cX0_init 57 = .ok (.iconst 3, 1) := by decide +kernel
theorem dX0_init_58 : decode cX0_init 58 = .ok (.if_icmp .ge 22, 3) := by decide +kernel
theorem dX0_init_61 : decode cX0_init 61 = .ok (.aload_n 0, 1) := by decide +kernel
theorem dX0_init_62 : decode cX0_init 62 = .ok (.getfield 19, 3) := by decide +kernel
theorem dX0_init_65 : decode cX0_init 65 = .ok (.iload_n 1, 1) := by decide +kernel
theorem dX0_init_66 : decode cX0_init 66 = .ok (.new 17, 3) := by decide +kernel
theorem dX0_init_69 : decode cX0_init 69 = .ok (.dup, 1) := by decide +kernel
theorem dX0_init_70 : decode cX0_init 70 = .ok (.invokespecial 28, 3) := by decide +kernel
theorem dX0_init_73 : decode cX0_init 73 = .ok (.aastore, 1) := by decide +kernel
theorem dX0_init_74 : decode cX0_init 74 = .ok (.iinc 1 1, 3) := by decide +kernel
theorem dX0_init_77 : decode cX0_init 77 = .ok (.goto (-21), 3) := by decide +kernel
theorem dX0_init_80 : decode cX0_init 80 = .ok (.iconst 0, 1) := by decide +kernel
theorem dX0_init_81 : decode cX0_init 81 = .ok (.istore_n 1, 1) := by decide +kernel
theorem dX0_init_82 : decode cX0_init 82 = .ok (.iload_n 1, 1) := by decide +kernel
theorem dX0_init_83 : decode cX0_init 83 = .ok (.bipush 7, 2) := by decide +kernel
theorem dX0_init_85 : decode cX0_init 85 = .ok (.if_icmp .ge 16, 3) := by decide +kernel
theorem dX0_init_88 : decode cX0_init 88 = .ok (.aload_n 0, 1) := by decide +kernel
theorem dX0_init_89 : decode cX0_init 89 = .ok (.getfield 23, 3) := by decide +kernel
theorem dX0_init_92 : decode cX0_init 92 = .ok (.iload_n 1, 1) := by decide +kernel
theorem dX0_init_93 : decode cX0_init 93 = .ok (.iconst 1, 1) := by decide +kernel
theorem dX0_init_94 : decode cX0_init 94 = .ok (.iastore, 1) := by decide +kernel
theorem dX0_init_95 : decode cX0_init 95 = .ok (.iinc 1 1, 3) := by decide +kernel
theorem dX0_init_98 : decode cX0_init 98 = .ok (.goto (-16), 3) := by decide +kernel
theorem dX0_init_101 : decode cX0_init 101 = .ok (.return_, 1) := by decide +kernel
theorem dX0_makeCopy_0 : decode cX0_makeCopy 0 = .ok (.iconst 0, 1) := by decide +kernel
theorem dX0_makeCopy_1 : decode cX0_makeCopy 1 = .ok (.istore_n 2, 1) := by decide +kernel
theorem dX0_makeCopy_2 : decode cX0_makeCopy 2 = .ok (.iload_n 2, 1) := by decide +kernel
theorem dX0_makeCopy_3 : decode cX0_makeCopy 3 = .ok (.iconst 4, 1) := by decide +kernel
theorem dX0_makeCopy_4 : decode cX0_makeCopy 4 = .ok (.if_icmp .ge 24, 3) := by decide +kernel
theorem dX0_makeCopy_7 : decode cX0_makeCopy 7 = .ok (.aload_n 0, 1) := by decide +kernel
theorem dX0_makeCopy_8 : decode cX0_makeCopy 8 = .ok (.getfield 11, 3) := by decide +kernel
theorem dX0_makeCopy_11 : decode cX0_makeCopy 11 = .ok (.iload_n 2, 1) := by decide +kernel
theorem dX0_makeCopy_12 : decode cX0_makeCopy 12 = .ok (.aaload, 1) := by decide +kernel
theorem dX0_makeCopy_13 : decode cX0_makeCopy 13 = .ok (.aload_n 1, 1) := by decide +kernel
theorem dX0_makeCopy_14 : decode cX0_makeCopy 14 = .ok (.getfield 11, 3) := by decide +kernel
theorem dX0_makeCopy_17 : decode cX0_makeCopy 17 = .ok (.iload_n 2, 1) := by decide +kernel
theorem dX0_makeCopy_18 : decode cX0_makeCopy 18 = .ok (.aaload, 1) := by decide +kernel
theorem dX0_makeCopy_19 : decode cX0_makeCopy 19 = .ok (.invokevirtual 29, 3) := by decide +kernel
theorem dX0_makeCopy_22 : decode cX0_makeCopy 22 = .ok (.iinc 2 1, 3) := by decide +kernel
theorem dX0_makeCopy_25 : decode cX0_makeCopy 25 = .ok (.goto (-23), 3) := by decide +kernel
theorem dX0_makeCopy_28 : decode cX0_makeCopy 28 = .ok (.iconst 0, 1) := by decide +kernel
theorem dX0_makeCopy_29 : decode cX0_makeCopy 29 = .ok (.istore_n 2, 1) := by decide +kernel
theorem dX0_makeCopy_30 : decode cX0_makeCopy 30 = .ok (.iload_n 2, 1) := by decide +kernel
theorem dX0_makeCopy_31 : decode cX0_makeCopy 31 = .ok (.iconst 3, 1) := by decide +kernel
theorem dX0_makeCopy_32 : decode cX0_makeCopy 32 = .ok (.if_icmp .ge 24, 3) := by decide +kernel
theorem dX0_makeCopy_35 : decode cX0_makeCopy 35 = .ok (.aload_n 0, 1) := by decide +kernel
theorem dX0_makeCopy_36 : decode cX0_makeCopy 36 = .ok (.getfield 19, 3) := by decide +kernel
theorem dX0_makeCopy_39 : decode cX0_makeCopy 39 = .ok (.iload_n 2, 1) := by decide +kernel
theorem dX0_makeCopy_40 : decode cX0_makeCopy 40 = .ok (.aaload, 1) := by decide +kernel
theorem dX0_makeCopy_41 : decode cX0_makeCopy 41 = .ok (.aload_n 1, 1) := by decide +kernel
theorem dX0_makeCopy_42 : decode cX0_makeCopy 42 = .ok (.getfield 19, 3) := by decide +kernel
theorem dX0_makeCopy_45 : decode cX0_makeCopy 45 = .ok (.iload_n 2, 1) := by decide +kernel
theorem dX0_makeCopy_46 : decode cX0_makeCopy 46 = .ok (.aaload, 1) := by decide +kernel
theorem dX0_makeCopy_47 : decode cX0_makeCopy 47 = .ok (.invokevirtual 33, 3) := by decide +kernel
theorem dX0_makeCopy_50 : decode cX0_makeCopy 50 = .ok (.iinc 2 1, 3) := by decide +kernel
theorem dX0_makeCopy_53 : decode cX0_makeCopy 53 = .ok (.goto (-23), 3) := by decide +kernel
theorem dX0_makeCopy_56 : decode cX0_makeCopy 56 = .ok (.aload_n 1, 1) := by decide +kernel
theorem dX0_makeCopy_57 : decode cX0_makeCopy 57 = .ok (.getfield 23, 3) := by decide +kernel
theorem dX0_makeCopy_60 : decode cX0_makeCopy 60 = .ok (.iconst 0, 1) := by decide +kernel
theorem dX0_makeCopy_61 : decode cX0_makeCopy 61 = .ok (.aload_n 0, 1) := by decide +kernel
theorem dX0_makeCopy_62 : decode cX0_makeCopy 62 = .ok (.getfield 23, 3) := by decide +kernel
theorem dX0_makeCopy_65 : decode cX0_makeCopy 65 = .ok (.iconst 0, 1) := by decide +kernel
theorem dX0_makeCopy_66 : decode cX0_makeCopy 66 = .ok (.bipush 7, 2) := by decide +kernel
theorem dX0_makeCopy_68 : decode cX0_makeCopy 68 = .ok (.invokestatic 36, 3) := by decide +kernel
theorem dX0_makeCopy_71 : decode cX0_makeCopy 71 = .ok (.return_, 1) := by decide +kernel
theorem dX0_countGates_0 : decode cX0_countGates 0 = .ok (.iconst 0, 1) := by decide +kernel
theorem dX0_countGates_1 : decode cX0_countGates 1 = .ok (.istore_n 1, 1) := by decide +kernel
theorem dX0_countGates_2 : decode cX0_countGates 2 = .ok (.aload_n 0, 1) := by decide +kernel
theorem dX0_countGates_3 : decode cX0_countGates 3 = .ok (.getfield 19, 3) := by decide +kernel
theorem dX0_countGates_6 : decode cX0_countGates 6 = .ok (.astore_n 2, 1) := by decide +kernel
theorem dX0_countGates_7 : decode cX0_countGates 7 = .ok (.aload_n 2, 1) := by decide +kernel
theorem dX0_countGates_8 : decode cX0_countGates 8 = .ok (.arraylength, 1) := by decide +kernel
theorem dX0_countGates_9 : decode cX0_countGates 9 = .ok (.istore_n 3, 1) := by decide +kernel
theorem dX0_countGates_10 : decode cX0_countGates 10 = .ok (.iconst 0, 1) := by decide +kernel
theorem dX0_countGates_11 : decode cX0_countGates 11 = .ok (.istore 4, 2) := by decide +kernel
theorem dX0_countGates_13 : decode cX0_countGates 13 = .ok (.iload 4, 2) := by decide +kernel
theorem dX0_countGates_15 : decode cX0_countGates 15 = .ok (.iload_n 3, 1) := by decide +kernel
theorem dX0_countGates_16 : decode cX0_countGates 16 = .ok (.if_icmp .ge 23, 3) := by decide +kernel
theorem dX0_countGates_19 : decode cX0_countGates 19 = .ok (.aload_n 2, 1) := by decide +kernel
theorem dX0_countGates_20 : decode cX0_countGates 20 = .ok (.iload 4, 2) := by decide +kernel
theorem dX0_countGates_22 : decode cX0_countGates 22 = .ok (.aaload, 1) := by decide +kernel
theorem dX0_countGates_23 : decode cX0_countGates 23 = .ok (.astore 5, 2) := by decide +kernel
theorem dX0_countGates_25 : decode cX0_countGates 25 = .ok (.iload_n 1, 1) := by decide +kernel
theorem dX0_countGates_26 : decode cX0_countGates 26 = .ok (.aload 5, 2) := by decide +kernel
theorem dX0_countGates_28 : decode cX0_countGates 28 = .ok (.getfield 42, 3) := by decide +kernel
theorem dX0_countGates_31 : decode cX0_countGates 31 = .ok (.iadd, 1) := by decide +kernel
theorem dX0_countGates_32 : decode cX0_countGates 32 = .ok (.istore_n 1, 1) := by decide +kernel
theorem dX0_countGates_33 : decode cX0_countGates 33 = .ok (.iinc 4 1, 3) := by decide +kernel
theorem dX0_countGates_36 : decode cX0_countGates 36 = .ok (.goto (-23), 3) := by decide +kernel
theorem dX0_countGates_39 : decode cX0_countGates 39 = .ok (.iload_n 1, 1) := by decide +kernel
theorem dX0_countGates_40 : decode cX0_countGates 40 = .ok (.ireturn, 1) := by decide +kernel
theorem dX0_countGate_0 : decode cX0_countGate 0 = .ok (.iconst 0, 1) := by decide +kernel
theorem dX0_countGate_1 : decode cX0_countGate 1 = .ok (.istore_n 2, 1) := by decide +kernel
theorem dX0_countGate_2 : decode cX0_countGate 2 = .ok (.aload_n 0, 1) := by decide +kernel
theorem dX0_countGate_3 : decode cX0_countGate 3 = .ok (.getfield 19, 3) := by decide +kernel
theorem dX0_countGate_6 : decode cX0_countGate 6 = .ok (.astore_n 3, 1) := by decide +kernel
theorem dX0_countGate_7 : decode cX0_countGate 7 = .ok (.aload_n 3, 1) := by decide +kernel
theorem dX0_countGate_8 : decode cX0_countGate 8 = .ok (.arraylength, 1) := by decide +kernel
theorem dX0_countGate_9 : decode cX0_countGate 9 = .ok (.istore 4, 2) := by decide +kernel
theorem dX0_countGate_11 : decode cX0_countGate 11 = .ok (.iconst 0, 1) := by decide +kernel
theorem dX0_countGate_12 : decode cX0_countGate 12 = .ok (.istore 5, 2) := by decide +kernel
theorem dX0_countGate_14 : decode cX0_countGate 14 = .ok (.iload 5, 2) := by decide +kernel
theorem dX0_countGate_16 : decode cX0_countGate 16 = .ok (.iload 4, 2) := by decide +kernel
theorem dX0_countGate_18 : decode cX0_countGate 18 = .ok (.if_icmp .ge 24, 3) := by decide +kernel
theorem dX0_countGate_21 : decode cX0_countGate 21 = .ok (.aload_n 3, 1) := by decide +kernel
theorem dX0_countGate_22 : decode cX0_countGate 22 = .ok (.iload 5, 2) := by decide +kernel
theorem dX0_countGate_24 : decode cX0_countGate 24 = .ok (.aaload, 1) := by decide +kernel
theorem dX0_countGate_25 : decode cX0_countGate 25 = .ok (.astore 6, 2) := by decide +kernel
theorem dX0_countGate_27 : decode cX0_countGate 27 = .ok (.iload_n 2, 1) := by decide +kernel
theorem dX0_countGate_28 : decode cX0_countGate 28 = .ok (.aload 6, 2) := by decide +kernel
theorem dX0_countGate_30 : decode cX0_countGate 30 = .ok (.iload_n 1, 1) := by decide +kernel
theorem dX0_countGate_31 : decode cX0_countGate 31 = .ok (.invokevirtual 46, 3) := by decide +kernel
theorem dX0_countGate_34 : decode cX0_countGate 34 = .ok (.iadd, 1) := by decide +kernel
theorem dX0_countGate_35 : decode cX0_countGate 35 = .ok (.istore_n 2, 1) := by decide +kernel
theorem dX0_countGate_36 : decode cX0_countGate 36 = .ok (.iinc 5 1, 3) := by decide +kernel
theorem dX0_countGate_39 : decode cX0_countGate 39 = .ok (.goto (-25), 3) := by decide +kernel
theorem dX0_countGate_42 : decode cX0_countGate 42 = .ok (.iload_n 2, 1) := by decide +kernel
theorem dX0_countGate_43 : decode cX0_countGate 43 = .ok (.ireturn, 1) := by decide +kernel
theorem dX0_sumPrices_0 : decode cX0_sumPrices 0 = .ok (.iconst 0, 1) := by decide +kernel
theorem dX0_sumPrices_1 : decode cX0_sumPrices 1 = .ok (.istore_n 1, 1) := by decide +kernel
theorem dX0_sumPrices_2 : decode cX0_sumPrices 2 = .ok (.aload_n 0, 1) := by decide +kernel
theorem dX0_sumPrices_3 : decode cX0_sumPrices 3 = .ok (.getfield 23, 3) := by decide +kernel
theorem dX0_sumPrices_6 : decode cX0_sumPrices 6 = .ok (.astore_n 2, 1) := by decide +kernel
theorem dX0_sumPrices_7 : decode cX0_sumPrices 7 = .ok (.aload_n 2, 1) := by decide +kernel
theorem dX0_sumPrices_8 : decode cX0_sumPrices 8 = .ok (.arraylength, 1) := by decide +kernel
theorem dX0_sumPrices_9 : decode cX0_sumPrices 9 = .ok (.istore_n 3, 1) := by decide +kernel
theorem dX0_sumPrices_10 : decode cX0_sumPrices 10 = .ok (.iconst 0, 1) := by decide +kernel
theorem dX0_sumPrices_11 : decode cX0_sumPrices 11 = .ok (.istore 4, 2) := by decide +kernel
theorem dX0_sumPrices_13 : decode cX0_sumPrices 13 = .ok (.iload 4, 2) := by decide +kernel
theorem dX0_sumPrices_15 : decode cX0_sumPrices 15 = .ok (.iload_n 3, 1) := by decide +kernel
theorem dX0_sumPrices_16 : decode cX0_sumPrices 16 = .ok (.if_icmp .ge 20, 3) := by decide +kernel
theorem dX0_sumPrices_19 : decode cX0_sumPrices 19 = .ok (.aload_n 2, 1) := by decide +kernel
theorem dX0_sumPrices_20 : decode cX0_sumPrices 20 = .ok (.iload 4, 2) := by decide +kernel
theorem dX0_sumPrices_22 : decode cX0_sumPrices 22 = .ok (.iaload, 1) := by decide +kernel
theorem dX0_sumPrices_23 : decode cX0_sumPrices 23 = .ok (.istore 5, 2) := by decide +kernel
theorem dX0_sumPrices_25 : decode cX0_sumPrices 25 = .ok (.iload_n 1, 1) := by decide +kernel
theorem dX0_sumPrices_26 : decode cX0_sumPrices 26 = .ok (.iload 5, 2) := by decide +kernel
theorem dX0_sumPrices_28 : decode cX0_sumPrices 28 = .ok (.iadd, 1) := by decide +kernel
theorem dX0_sumPrices_29 : decode cX0_sumPrices 29 = .ok (.istore_n 1, 1) := by decide +kernel
theorem dX0_sumPrices_30 : decode cX0_sumPrices 30 = .ok (.iinc 4 1, 3) := by decide +kernel
theorem dX0_sumPrices_33 : decode cX0_sumPrices 33 = .ok (.goto (-20), 3) := by decide +kernel
theorem dX0_sumPrices_36 : decode cX0_sumPrices 36 = .ok (.iload_n 1, 1) := by decide +kernel
theorem dX0_sumPrices_37 : decode cX0_sumPrices 37 = .ok (.ireturn, 1) := by decide +kernel
theorem dX1_init_0 : decode cX1_init 0 = .ok (.aload_n 0, 1) := by decide +kernel
theorem dX1_init_1 : decode cX1_init 1 = .ok (.invokespecial 3, 3) := by decide +kernel
theorem dX1_init_4 : decode cX1_init 4 = .ok (.aload_n 0, 1) := by decide +kernel
theorem dX1_init_5 : decode cX1_init 5 = .ok (.bipush 9, 2) := by decide +kernel
theorem dX1_init_7 : decode cX1_init 7 = .ok (.newarray .long, 2) := by decide +kernel
theorem dX1_init_9 : decode cX1_init 9 = .ok (.putfield 11, 3) := by decide +kernel
theorem dX1_init_12 : decode cX1_init 12 = .ok (.aload_n 0, 1) := by decide +kernel
theorem dX1_init_13 : decode cX1_init 13 = .ok (.bipush 9, 2) := by decide +kernel
theorem dX1_init_15 : decode cX1_init 15 = .ok (.newarray .long, 2) := by decide +kernel
theorem dX1_init_17 : decode cX1_init 17 = .ok (.putfield 15, 3) := by decide +kernel
theorem dX1_init_20 : decode cX1_init 20 = .ok (.aload_n 0, 1) := by decide +kernel
theorem dX1_init_21 : decode cX1_init 21 = .ok (.iconst 0, 1) := by decide +kernel
theorem dX1_init_22 : decode cX1_init 22 = .ok (.putfield 18, 3) := by decide +kernel
theorem dX1_init_25 : decode cX1_init 25 = .ok (.aload_n 0, 1) := by decide +kernel
theorem dX1_init_26 : decode cX1_init 26 = .ok (.new 22, 3) := by decide +kernel
theorem dX1_init_29 : decode cX1_init 29 = .ok (.dup, 1) := by decide +kernel
theorem dX1_init_30 : decode cX1_init 30 = .ok (.invokespecial 24, 3) := by decide +kernel
theorem dX1_init_33 : decode cX1_init 33 = .ok (.putfield 25, 3) := by decide +kernel
theorem dX1_init_36 : decode cX1_init 36 = .ok (.aload_n 0, 1) := by decide +kernel
theorem dX1_init_37 : decode cX1_init 37 = .ok (.new 22, 3) := by decide +kernel
theorem dX1_init_40 : decode cX1_init 40 = .ok (.dup, 1) := by decide +kernel
theorem dX1_init_41 : decode cX1_init 41 = .ok (.invokespecial 24, 3) := by decide +kernel
theorem dX1_init_44 : decode cX1_init 44 = .ok (.putfield 29, 3) := by decide +kernel
theorem dX1_init_47 : decode cX1_init 47 = .ok (.aload_n 0, 1) := by decide +kernel
theorem dX1_init_48 : decode cX1_init 48 = .ok (.new 22, 3) := by decide +kernel
theorem dX1_init_51 : decode cX1_init 51 = .ok (.dup, 1) := by decide +kernel
theorem dX1_init_52 : decode cX1_init 52 = .ok (.invokespecial 24, 3) := by decide +kernel
theorem dX1_init_55 : decode cX1_init 55 = .ok (.putfield 32, 3) := by decide +kernel
theorem dX1_init_58 : decode cX1_init 58 = .ok (.return_, 1) := by decide +kernel
theorem dX1_makeOf_0 : decode cX1_makeOf 0 = .ok (.aload_n 0, 1) := by decide +kernel
theorem dX1_makeOf_1 : decode cX1_makeOf 1 = .ok (.getfield 25, 3) := by decide +kernel
theorem dX1_makeOf_4 : decode cX1_makeOf 4 = .ok (.aload_n 1, 1) := by decide +kernel
theorem dX1_makeOf_5 : decode cX1_makeOf 5 = .ok (.invokevirtual 35, 3) := by decide +kernel
theorem dX1_makeOf_8 : decode cX1_makeOf 8 = .ok (.aload_n 0, 1) := by decide +kernel
theorem dX1_makeOf_9 : decode cX1_makeOf 9 = .ok (.getfield 29, 3) := by decide +kernel
theorem dX1_makeOf_12 : decode cX1_makeOf 12 = .ok (.aload_n 1, 1) := by decide +kernel
theorem dX1_makeOf_13 : decode cX1_makeOf 13 = .ok (.invokevirtual 39, 3) := by decide +kernel
theorem dX1_makeOf_16 : decode cX1_makeOf 16 = .ok (.aload_n 0, 1) := by decide +kernel
theorem dX1_makeOf_17 : decode cX1_makeOf 17 = .ok (.getfield 29, 3) := by decide +kernel
theorem dX1_makeOf_20 : decode cX1_makeOf 20 = .ok (.iconst 3, 1) := by decide +kernel
theorem dX1_makeOf_21 : decode cX1_makeOf 21 = .ok (.invokevirtual 42, 3) := by decide +kernel
theorem dX1_makeOf_24 : decode cX1_makeOf 24 = .ok (.aload_n 0, 1) := by decide +kernel
theorem dX1_makeOf_25 : decode cX1_makeOf 25 = .ok (.iconst 0, 1) := by decide +kernel
theorem dX1_makeOf_26 : decode cX1_makeOf 26 = .ok (.invokevirtual 46, 3) := by decide +kernel
theorem dX1_makeOf_29 : decode cX1_makeOf 29 = .ok (.aload_n 0, 1) := by decide +kernel
theorem dX1_makeOf_30 : decode cX1_makeOf 30 = .ok (.getfield 29, 3) := by decide +kernel
theorem dX1_makeOf_33 : decode cX1_makeOf 33 = .ok (.iconst 4, 1) := by decide +kernel
theorem dX1_makeOf_34 : decode cX1_makeOf 34 = .ok (.invokevirtual 42, 3) := by decide +kernel
theorem dX1_makeOf_37 : decode cX1_makeOf 37 = .ok (.aload_n 0, 1) := by decide +kernel
theorem dX1_makeOf_38 : decode cX1_makeOf 38 = .ok (.getfield 29, 3) := by decide +kernel
theorem dX1_makeOf_41 : decode cX1_makeOf 41 = .ok (.iconst 5, 1) := by decide +kernel
theorem dX1_makeOf_42 : decode cX1_makeOf 42 = .ok (.invokevirtual 42, 3) := by decide +kernel
theorem dX1_makeOf_45 : decode cX1_makeOf 45 = .ok (.aload_n 0, 1) := by decide +kernel
theorem dX1_makeOf_46 : decode cX1_makeOf 46 = .ok (.getfield 29, 3) := by decide +kernel
theorem dX1_makeOf_49 : decode cX1_makeOf 49 = .ok (.iconst 5, 1) := by decide +kernel
theorem dX1_makeOf_50 : decode cX1_makeOf 50 = .ok (.invokevirtual 42, 3) := by decide +kernel
theorem dX1_makeOf_53 : decode cX1_makeOf 53 = .ok (.aload_n 0, 1) := by decide +kernel
theorem dX1_makeOf_54 : decode cX1_makeOf 54 = .ok (.iconst 1, 1) := by decide +kernel
theorem dX1_makeOf_55 : decode cX1_makeOf 55 = .ok (.invokevirtual 46, 3) := by decide +kernel
theorem dX1_makeOf_58 : decode cX1_makeOf 58 = .ok (.aload_n 0, 1) := by decide +kernel
theorem dX1_makeOf_59 : decode cX1_makeOf 59 = .ok (.getfield 29, 3) := by decide +kernel
theorem dX1_makeOf_62 : decode cX1_makeOf 62 = .ok (.aload_n 1, 1) := by decide +kernel
theorem dX1_makeOf_63 : decode cX1_makeOf 63 = .ok (.invokevirtual 39, 3) := by decide +kernel
theorem dX1_makeOf_66 : decode cX1_makeOf 66 = .ok (.aload_n 0, 1) := by decide +kernel
theorem dX1_makeOf_67 : decode cX1_makeOf 67 = .ok (.getfield 29, 3) := by decide +kernel
theorem dX1_makeOf_70 : decode cX1_makeOf 70 = .ok (.iconst 4, 1) := by decide +kernel
theorem dX1_makeOf_71 : decode cX1_makeOf 71 = .ok (.invokevirtual 42, 3) := by decide +kernel
theorem dX1_makeOf_74 : decode cX1_makeOf 74 = .ok (.aload_n 0, 1) := by decide +kernel
theorem dX1_makeOf_75 : decode cX1_makeOf 75 = .ok (.iconst 2, 1) := by decide +kernel
theorem dX1_makeOf_76 : decode cX1_makeOf 76 = .ok (.invokevirtual 46, 3) := by decide +kernel
theorem dX1_makeOf_79 : decode cX1_makeOf 79 = .ok (.aload_n 0, 1) := by decide +kernel
theorem dX1_makeOf_80 : decode cX1_makeOf 80 = .ok (.iconst 2, 1) := by decide +kernel
theorem dX1_makeOf_81 : decode cX1_makeOf 81 = .ok (.aload_n 1, 1) := by decide +kernel
theorem dX1_makeOf_82 : decode cX1_makeOf 82 = .ok (.getfield 49, 3) := by decide +kernel
theorem dX1_makeOf_85 : decode cX1_makeOf 85 = .ok (.imul, 1) := by decide +kernel
theorem dX1_makeOf_86 : decode cX1_makeOf 86 = .ok (.iconst 2, 1) := by decide +kernel
theorem dX1_makeOf_87 : decode cX1_makeOf 87 = .ok (.iadd, 1) := by decide +kernel
theorem dX1_makeOf_88 : decode cX1_makeOf 88 = .ok (.putfield 18, 3) := by decide +kernel
theorem dX1_makeOf_91 : decode cX1_makeOf 91 = .ok (.aload_n 0, 1) := by decide +kernel
theorem dX1_makeOf_92 : decode cX1_makeOf 92 = .ok (.invokevirtual 52, 3) := by decide +kernel
theorem dX1_makeOf_95 : decode cX1_makeOf 95 = .ok (.return_, 1) := by decide +kernel
theorem dX1_fillColumn_0 : decode cX1_fillColumn 0 = .ok (.aload_n 0, 1) := by decide +kernel
theorem dX1_fillColumn_1 : decode cX1_fillColumn 1 = .ok (.getfield 32, 3) := by decide +kernel
theorem dX1_fillColumn_4 : decode cX1_fillColumn 4 = .ok (.aload_n 0, 1) := by decide +kernel
theorem dX1_fillColumn_5 : decode cX1_fillColumn 5 = .ok (.getfield 29, 3) := by decide +kernel
theorem dX1_fillColumn_8 : decode cX1_fillColumn 8 = .ok (.aload_n 0, 1) := by decide +kernel
theorem dX1_fillColumn_9 : decode cX1_fillColumn 9 = .ok (.getfield 25, 3) := by decide +kernel
theorem dX1_fillColumn_12 : decode cX1_fillColumn 12 = .ok (.invokevirtual 55, 3) := by decide +kernel
theorem dX1_fillColumn_15 : decode cX1_fillColumn 15 = .ok (.iconst 0, 1) := by decide +kernel
theorem dX1_fillColumn_16 : decode cX1_fillColumn 16 = .ok (.iconst 1, 1) := by decide +kernel
theorem dX1_fillColumn_17 : decode cX1_fillColumn 17 = .ok (.invokestatic 59, 3) := by decide +kernel
theorem dX1_fillColumn_20 : decode cX1_fillColumn 20 = .ok (.istore_n 2, 1) := by decide +kernel
theorem dX1_fillColumn_21 : decode cX1_fillColumn 21 = .ok (.aload_n 0, 1) := by decide +kernel
theorem dX1_fillColumn_22 : decode cX1_fillColumn 22 = .ok (.getfield 11, 3) := by decide +kernel
theorem dX1_fillColumn_25 : decode cX1_fillColumn 25 = .ok (.iload_n 1, 1) := by decide +kernel
theorem dX1_fillColumn_26 : decode cX1_fillColumn 26 = .ok (.ldc2_w 63, 3) := by decide +kernel
theorem dX1_fillColumn_29 : decode cX1_fillColumn 29 = .ok (.aload_n 0, 1) := by decide +kernel
theorem dX1_fillColumn_30 : decode cX1_fillColumn 30 = .ok (.getfield 32, 3) := by decide +kernel
theorem dX1_fillColumn_33 : decode cX1_fillColumn 33 = .ok (.getfield 65, 3) := by decide +kernel
theorem dX1_fillColumn_36 : decode cX1_fillColumn 36 = .ok (.iload_n 2, 1) := by decide +kernel
theorem dX1_fillColumn_37 : decode cX1_fillColumn 37 = .ok (.laload, 1) := by decide +kernel
theorem dX1_fillColumn_38 : decode cX1_fillColumn 38 = .ok (.lmul, 1) := by decide +kernel
theorem dX1_fillColumn_39 : decode cX1_fillColumn 39 = .ok (.lastore, 1) := by decide +kernel
theorem dX1_fillColumn_40 : decode cX1_fillColumn 40 = .ok (.aload_n 0, 1) := by decide +kernel
theorem dX1_fillColumn_41 : decode cX1_fillColumn 41 = .ok (.getfield 15, 3) := by decide +kernel
theorem dX1_fillColumn_44 : decode cX1_fillColumn 44 = .ok (.iload_n 1, 1) := by decide +kernel
theorem dX1_fillColumn_45 : decode cX1_fillColumn 45 = .ok (.aload_n 0, 1) := by decide +kernel
theorem dX1_fillColumn_46 : decode cX1_fillColumn 46 = .ok (.getfield 32, 3) := by decide +kernel
theorem dX1_fillColumn_49 : decode cX1_fillColumn 49 = .ok (.getfield 65, 3) := by decide +kernel
theorem dX1_fillColumn_52 : decode cX1_fillColumn 52 = .ok (.iload_n 2, 1) := by decide +kernel
theorem dX1_fillColumn_53 : decode cX1_fillColumn 53 = .ok (.iconst 1, 1) := by decide +kernel
theorem dX1_fillColumn_54 : decode cX1_fillColumn 54 = .ok (.iadd, 1) := by decide +kernel
theorem dX1_fillColumn_55 : decode cX1_fillColumn 55 = .ok (.laload, 1) := by decide +kernel
theorem dX1_fillColumn_56 : decode cX1_fillColumn 56 = .ok (.aload_n 0, 1) := by decide +kernel
theorem dX1_fillColumn_57 : decode cX1_fillColumn 57 = .ok (.getfield 32, 3) := by decide +kernel
theorem dX1_fillColumn_60 : decode cX1_fillColumn 60 = .ok (.getfield 65, 3) := by decide +kernel
theorem dX1_fillColumn_63 : decode cX1_fillColumn 63 = .ok (.iload_n 2, 1) := by decide +kernel
theorem dX1_fillColumn_64 : decode cX1_fillColumn 64 = .ok (.iconst 3, 1) := by decide +kernel
theorem dX1_fillColumn_65 : decode cX1_fillColumn 65 = .ok (.iadd, 1) := by decide +kernel
theorem dX1_fillColumn_66 : decode cX1_fillColumn 66 = .ok (.laload, 1) := by decide +kernel
theorem dX1_fillColumn_67 : decode cX1_fillColumn 67 = .ok (.lsub, 1) := by decide +kernel
theorem dX1_fillColumn_68 : decode cX1_fillColumn 68 = .ok (.lastore, 1) := by decide +kernel
theorem dX1_fillColumn_69 : decode cX1_fillColumn 69 = .ok (.aload_n 0, 1) := by decide +kernel
theorem dX1_fillColumn_70 : decode cX1_fillColumn 70 = .ok (.getfield 11, 3) := by decide +kernel
theorem dX1_fillColumn_73 : decode cX1_fillColumn 73 = .ok (.iconst 3, 1) := by decide +kernel
theorem dX1_fillColumn_74 : decode cX1_fillColumn 74 = .ok (.iload_n 1, 1) := by decide +kernel
theorem dX1_fillColumn_75 : decode cX1_fillColumn 75 = .ok (.iadd, 1) := by decide +kernel
theorem dX1_fillColumn_76 : decode cX1_fillColumn 76 = .ok (.ldc2_w 68, 3) := by decide +kernel
theorem dX1_fillColumn_79 : decode cX1_fillColumn 79 = .ok (.aload_n 0, 1) := by decide +kernel
theorem dX1_fillColumn_80 : decode cX1_fillColumn 80 = .ok (.getfield 32, 3) := by decide +kernel
theorem dX1_fillColumn_83 : decode cX1_fillColumn 83 = .ok (.getfield 65, 3) := by decide +kernel
theorem dX1_fillColumn_86 : decode cX1_fillColumn 86 = .ok (.iload_n 2, 1) := by decide +kernel
theorem dX1_fillColumn_87 : decode cX1_fillColumn 87 = .ok (.iconst 2, 1) := by decide +kernel
theorem dX1_fillColumn_88 : decode cX1_fillColumn 88 = .ok (.iadd, 1) := by decide +kernel
theorem dX1_fillColumn_89 : decode cX1_fillColumn 89 = .ok (.laload, 1) := by decide +kernel
theorem dX1_fillColumn_90 : decode cX1_fillColumn 90 = .ok (.lmul, 1) := by decide +kernel
theorem dX1_fillColumn_91 : decode cX1_fillColumn 91 = .ok (.lastore, 1) := by decide +kernel
theorem dX1_fillColumn_92 : decode cX1_fillColumn 92 = .ok (.aload_n 0, 1) := by decide +kernel
theorem dX1_fillColumn_93 : decode cX1_fillColumn 93 = .ok (.getfield 15, 3) := by decide +kernel
theorem dX1_fillColumn_96 : decode cX1_fillColumn 96 = .ok (.iconst 3, 1) := by decide +kernel
theorem dX1_fillColumn_97 : decode cX1_fillColumn 97 = .ok (.iload_n 1, 1) := by decide +kernel
theorem dX1_fillColumn_98 : decode cX1_fillColumn 98 = .ok (.iadd, 1) := by decide +kernel
theorem dX1_fillColumn_99 : decode cX1_fillColumn 99 = .ok (.aload_n 0, 1) := by decide +kernel
theorem dX1_fillColumn_100 : decode cX1_fillColumn 100 = .ok (.getfield 32, 3) := by decide +kernel
theorem dX1_fillColumn_103 : decode cX1_fillColumn 103 = .ok (.getfield 65, 3) := by decide +kernel
theorem dX1_fillColumn_106 : decode cX1_fillColumn 106 = .ok (.iload_n 2, 1) := by decide +kernel
theorem dX1_fillColumn_107 : decode cX1_fillColumn 107 = .ok (.iconst 1, 1) := by decide +kernel
theorem dX1_fillColumn_108 : decode cX1_fillColumn 108 = .ok (.iadd, 1) := by decide +kernel
theorem dX1_fillColumn_109 : decode cX1_fillColumn 109 = .ok (.laload, 1) := by decide +kernel
theorem dX1_fillColumn_110 : decode cX1_fillColumn 110 = .ok (.aload_n 0, 1) := by decide +kernel
theorem dX1_fillColumn_111 : decode cX1_fillColumn 111 = .ok (.getfield 32, 3) := by decide +kernel
theorem dX1_fillColumn_114 : decode cX1_fillColumn 114 = .ok (.getfield 65, 3) := by decide +kernel
theorem dX1_fillColumn_117 : decode cX1_fillColumn 117 = .ok (.iload_n 2, 1) := by decide +kernel
theorem dX1_fillColumn_118 : decode cX1_fillColumn 118 = .ok (.iconst 3, 1) := by decide +kernel
theorem dX1_fillColumn_119 : decode cX1_fillColumn 119 = .ok (.iadd, 1) := by decide +kernel
theorem dX1_fillColumn_120 : decode cX1_fillColumn 120 = .ok (.laload, 1) := by decide +kernel
theorem dX1_fillColumn_121 : decode cX1_fillColumn 121 = .ok (.ladd, 1) := by decide +kernel
theorem dX1_fillColumn_122 : decode cX1_fillColumn 122 = .ok (.lneg, 1) := by decide +kernel
theorem dX1_fillColumn_123 : decode cX1_fillColumn 123 = .ok (.lastore, 1) := by decide +kernel
theorem dX1_fillColumn_124 : decode cX1_fillColumn 124 = .ok (.iconst 0, 1) := by decide +kernel
theorem dX1_fillColumn_125 : decode cX1_fillColumn 125 = .ok (.iconst 0, 1) := by decide +kernel
theorem dX1_fillColumn_126 : decode cX1_fillColumn 126 = .ok (.invokestatic 59, 3) := by decide +kernel
theorem dX1_fillColumn_129 : decode cX1_fillColumn 129 = .ok (.istore_n 2, 1) := by decide +kernel
theorem dX1_fillColumn_130 : decode cX1_fillColumn 130 = .ok (.aload_n 0, 1) := by decide +kernel
theorem dX1_fillColumn_131 : decode cX1_fillColumn 131 = .ok (.getfield 11, 3) := by decide +kernel
theorem dX1_fillColumn_134 : decode cX1_fillColumn 134 = .ok (.bipush 6, 2) := by decide +kernel
theorem dX1_fillColumn_136 : decode cX1_fillColumn 136 = .ok (.iload_n 1, 1) := by decide +kernel
theorem dX1_fillColumn_137 : decode cX1_fillColumn 137 = .ok (.iadd, 1) := by decide +kernel
theorem dX1_fillColumn_138 : decode cX1_fillColumn 138 = .ok (.ldc2_w 63, 3) := by decide +kernel
theorem dX1_fillColumn_141 : decode cX1_fillColumn 141 = .ok (.aload_n 0, 1) := by decide +kernel
theorem dX1_fillColumn_142 : decode cX1_fillColumn 142 = .ok (.getfield 32, 3) := by decide +kernel
theorem dX1_fillColumn_145 : decode cX1_fillColumn 145 = .ok (.getfield 65, 3) := by decide +kernel
theorem dX1_fillColumn_148 : decode cX1_fillColumn 148 = .ok (.iload_n 2, 1) := by decide +kernel
theorem dX1_fillColumn_149 : decode cX1_fillColumn 149 = .ok (.laload, 1) := by decide +kernel
theorem dX1_fillColumn_150 : decode cX1_fillColumn 150 = .ok (.lmul, 1) := by decide +kernel
theorem dX1_fillColumn_151 : decode cX1_fillColumn 151 = .ok (.lastore, 1) := by decide +kernel
theorem dX1_fillColumn_152 : decode cX1_fillColumn 152 = .ok (.aload_n 0, 1) := by decide +kernel
theorem dX1_fillColumn_153 : decode cX1_fillColumn 153 = .ok (.getfield 15, 3) := by decide +kernel
theorem dX1_fillColumn_156 : decode cX1_fillColumn 156 = .ok (.bipush 6, 2) := by decide +kernel
theorem dX1_fillColumn_158 : decode cX1_fillColumn 158 = .ok (.iload_n 1, 1) := by decide +kernel
theorem dX1_fillColumn_159 : decode cX1_fillColumn 159 = .ok (.iadd, 1) := by decide +kernel
theorem dX1_fillColumn_160 : decode cX1_fillColumn 160 = .ok (.ldc2_w 63, 3) := by decide +kernel
theorem dX1_fillColumn_163 : decode cX1_fillColumn 163 = .ok (.aload_n 0, 1) := by decide +kernel
theorem dX1_fillColumn_164 : decode cX1_fillColumn 164 = .ok (.getfield 32, 3) := by decide +kernel
theorem dX1_fillColumn_167 : decode cX1_fillColumn 167 = .ok (.getfield 65, 3) := by decide +kernel
theorem dX1_fillColumn_170 : decode cX1_fillColumn 170 = .ok (.iload_n 2, 1) := by decide +kernel
theorem dX1_fillColumn_171 : decode cX1_fillColumn 171 = .ok (.iconst 1, 1) := by decide +kernel
theorem dX1_fillColumn_172 : decode cX1_fillColumn 172 = .ok (.iadd, 1) := by decide +kernel
theorem dX1_fillColumn_173 : decode cX1_fillColumn 173 = .ok (.laload, 1) := by decide +kernel
theorem dX1_fillColumn_174 : decode cX1_fillColumn 174 = .ok (.lmul, 1) := by decide +kernel
theorem dX1_fillColumn_175 : decode cX1_fillColumn 175 = .ok (.lastore, 1) := by decide +kernel
theorem dX1_fillColumn_176 : decode cX1_fillColumn 176 = .ok (.return_, 1) := by decide +kernel
theorem dX1_lower_0 : decode cX1_lower 0 = .ok (.iconst 0, 1) := by decide +kernel
theorem dX1_lower_1 : decode cX1_lower 1 = .ok (.istore_n 1, 1) := by decide +kernel
theorem dX1_lower_2 : decode cX1_lower 2 = .ok (.iload_n 1, 1) := by decide +kernel
theorem dX1_lower_3 : decode cX1_lower 3 = .ok (.sipush 1000, 3) := by decide +kernel
theorem dX1_lower_6 : decode cX1_lower 6 = .ok (.if_icmp .ge 77, 3) := by decide +kernel
theorem dX1_lower_9 : decode cX1_lower 9 = .ok (.aload_n 0, 1) := by decide +kernel
theorem dX1_lower_10 : decode cX1_lower 10 = .ok (.getfield 18, 3) := by decide +kernel
theorem dX1_lower_13 : decode cX1_lower 13 = .ok (.ifCond .le 70, 3) := by decide +kernel
theorem dX1_lower_16 : decode cX1_lower 16 = .ok (.aload_n 0, 1) := by decide +kernel
theorem dX1_lower_17 : decode cX1_lower 17 = .ok (.invokevirtual 70, 3) := by decide +kernel
theorem dX1_lower_20 : decode cX1_lower 20 = .ok (.ifCond .eq 63, 3) := by decide +kernel
theorem dX1_lower_23 : decode cX1_lower 23 = .ok (.iconst 0, 1) := by decide +kernel
theorem dX1_lower_24 : decode cX1_lower 24 = .ok (.istore_n 2, 1) := by decide +kernel
theorem dX1_lower_25 : decode cX1_lower 25 = .ok (.iload_n 2, 1) := by decide +kernel
theorem dX1_lower_26 : decode cX1_lower 26 = .ok (.bipush 9, 2) := by decide +kernel
theorem dX1_lower_28 : decode cX1_lower 28 = .ok (.if_icmp .ge 39, 3) := by decide +kernel
theorem dX1_lower_31 : decode cX1_lower 31 = .ok (.aload_n 0, 1) := by decide +kernel
theorem dX1_lower_32 : decode cX1_lower 32 = .ok (.getfield 11, 3) := by decide +kernel
theorem dX1_lower_35 : decode cX1_lower 35 = .ok (.iload_n 2, 1) := by decide +kernel
theorem dX1_lower_36 : decode cX1_lower 36 = .ok (.laload, 1) := by decide +kernel
theorem dX1_lower_37 : decode cX1_lower 37 = .ok (.ldc2_w 63, 3) := by decide +kernel
theorem dX1_lower_40 : decode cX1_lower 40 = .ok (.ldiv, 1) := by decide +kernel
theorem dX1_lower_41 : decode cX1_lower 41 = .ok (.lstore_n 3, 1) := by decide +kernel
theorem dX1_lower_42 : decode cX1_lower 42 = .ok (.aload_n 0, 1) := by decide +kernel
theorem dX1_lower_43 : decode cX1_lower 43 = .ok (.getfield 11, 3) := by decide +kernel
theorem dX1_lower_46 : decode cX1_lower 46 = .ok (.iload_n 2, 1) := by decide +kernel
theorem dX1_lower_47 : decode cX1_lower 47 = .ok (.aload_n 0, 1) := by decide +kernel
theorem dX1_lower_48 : decode cX1_lower 48 = .ok (.getfield 15, 3) := by decide +kernel
theorem dX1_lower_51 : decode cX1_lower 51 = .ok (.iload_n 2, 1) := by decide +kernel
theorem dX1_lower_52 : decode cX1_lower 52 = .ok (.laload, 1) := by decide +kernel
theorem dX1_lower_53 : decode cX1_lower 53 = .ok (.lastore, 1) := by decide +kernel
theorem dX1_lower_54 : decode cX1_lower 54 = .ok (.aload_n 0, 1) := by decide +kernel
theorem dX1_lower_55 : decode cX1_lower 55 = .ok (.getfield 15, 3) := by decide +kernel
theorem dX1_lower_58 : decode cX1_lower 58 = .ok (.iload_n 2, 1) := by decide +kernel
theorem dX1_lower_59 : decode cX1_lower 59 = .ok (.lload_n 3, 1) := by decide +kernel
theorem dX1_lower_60 : decode cX1_lower 60 = .ok (.lastore, 1) := by decide +kernel
theorem dX1_lower_61 : decode cX1_lower 61 = .ok (.iinc 2 1, 3) := by decide +kernel
theorem dX1_lower_64 : decode cX1_lower 64 = .ok (.goto (-39), 3) := by decide +kernel
theorem dX1_lower_67 : decode cX1_lower 67 = .ok (.aload_n 0, 1) := by decide +kernel
theorem dX1_lower_68 : decode cX1_lower 68 = .ok (.dup, 1) := by decide +kernel
theorem dX1_lower_69 : decode cX1_lower 69 = .ok (.getfield 18, 3) := by decide +kernel
theorem dX1_lower_72 : decode cX1_lower 72 = .ok (.iconst 1, 1) := by decide +kernel
theorem dX1_lower_73 : decode cX1_lower 73 = .ok (.isub, 1) := by decide +kernel
theorem dX1_lower_74 : decode cX1_lower 74 = .ok (.putfield 18, 3) := by decide +kernel
theorem dX1_lower_77 : decode cX1_lower 77 = .ok (.iinc 1 1, 3) := by decide +kernel
theorem dX1_lower_80 : decode cX1_lower 80 = .ok (.goto (-78), 3) := by decide +kernel
theorem dX1_lower_83 : decode cX1_lower 83 = .ok (.return_, 1) := by decide +kernel
theorem dX1_isEven_0 : decode cX1_isEven 0 = .ok (.iconst 0, 1) := by decide +kernel
theorem dX1_isEven_1 : decode cX1_isEven 1 = .ok (.istore_n 1, 1) := by decide +kernel
theorem dX1_isEven_2 : decode cX1_isEven 2 = .ok (.iload_n 1, 1) := by decide +kernel
theorem dX1_isEven_3 : decode cX1_isEven 3 = .ok (.bipush 9, 2) := by decide +kernel
theorem dX1_isEven_5 : decode cX1_isEven 5 = .ok (.if_icmp .ge 24, 3) := by decide +kernel
theorem dX1_isEven_8 : decode cX1_isEven 8 = .ok (.aload_n 0, 1) := by decide +kernel
theorem dX1_isEven_9 : decode cX1_isEven 9 = .ok (.getfield 11, 3) := by decide +kernel
theorem dX1_isEven_12 : decode cX1_isEven 12 = .ok (.iload_n 1, 1) := by decide +kernel
theorem dX1_isEven_13 : decode cX1_isEven 13 = .ok (.laload, 1) := by decide +kernel
theorem dX1_isEven_14 : decode cX1_isEven 14 = .ok (.lconst 1, 1) := by decide +kernel
theorem dX1_isEven_15 : decode cX1_isEven 15 = .ok (.land, 1) := by decide +kernel
theorem dX1_isEven_16 : decode cX1_isEven 16 = .ok (.lconst 0, 1) := by decide +kernel
theorem dX1_isEven_17 : decode cX1_isEven 17 = .ok (.lcmp, 1) := by decide +kernel
theorem dX1_isEven_18 : decode cX1_isEven 18 = .ok (.ifCond .eq 5, 3) := by decide +kernel
theorem dX1_isEven_21 : decode cX1_isEven 21 = .ok (.iconst 0, 1) := by decide +kernel
theorem dX1_isEven_22 : decode cX1_isEven 22 = .ok (.ireturn, 1) := by decide +kernel
theorem dX1_isEven_23 : decode cX1_isEven 23 = .ok (.iinc 1 1, 3) := by decide +kernel
theorem dX1_isEven_26 : decode cX1_isEven 26 = .ok (.goto (-24), 3) := by decide +kernel
theorem dX1_isEven_29 : decode cX1_isEven 29 = .ok (.iconst 1, 1) := by decide +kernel
theorem dX1_isEven_30 : decode cX1_isEven 30 = .ok (.ireturn, 1) := by decide +kernel
theorem dX2_init_0 : decode cX2_init 0 = .ok (.aload_n 0, 1) := by decide +kernel
theorem dX2_init_1 : decode cX2_init 1 = .ok (.invokespecial 3, 3) := by decide +kernel
theorem dX2_init_4 : decode cX2_init 4 = .ok (.aload_n 0, 1) := by decide +kernel
theorem dX2_init_5 : decode cX2_init 5 = .ok (.sipush 192, 3) := by decide +kernel
theorem dX2_init_8 : decode cX2_init 8 = .ok (.newarray .int, 2) := by decide +kernel
theorem dX2_init_10 : decode cX2_init 10 = .ok (.putfield 9, 3) := by decide +kernel
theorem dX2_init_13 : decode cX2_init 13 = .ok (.aload_n 0, 1) := by decide +kernel
theorem dX2_init_14 : decode cX2_init 14 = .ok (.sipush 1344, 3) := by decide +kernel
theorem dX2_init_17 : decode cX2_init 17 = .ok (.newarray .int, 2) := by decide +kernel
theorem dX2_init_19 : decode cX2_init 19 = .ok (.putfield 15, 3) := by decide +kernel
theorem dX2_init_22 : decode cX2_init 22 = .ok (.aload_n 0, 1) := by decide +kernel
theorem dX2_init_23 : decode cX2_init 23 = .ok (.sipush 1344, 3) := by decide +kernel
theorem dX2_init_26 : decode cX2_init 26 = .ok (.newarray .int, 2) := by decide +kernel
theorem dX2_init_28 : decode cX2_init 28 = .ok (.putfield 18, 3) := by decide +kernel
theorem dX2_init_31 : decode cX2_init 31 = .ok (.aload_n 0, 1) := by decide +kernel
theorem dX2_init_32 : decode cX2_init 32 = .ok (.sipush 192, 3) := by decide +kernel
theorem dX2_init_35 : decode cX2_init 35 = .ok (.newarray .int, 2) := by decide +kernel
theorem dX2_init_37 : decode cX2_init 37 = .ok (.putfield 21, 3) := by decide +kernel
theorem dX2_init_40 : decode cX2_init 40 = .ok (.aload_n 0, 1) := by decide +kernel
theorem dX2_init_41 : decode cX2_init 41 = .ok (.sipush 192, 3) := by decide +kernel
theorem dX2_init_44 : decode cX2_init 44 = .ok (.newarray .int, 2) := by decide +kernel
theorem dX2_init_46 : decode cX2_init 46 = .ok (.putfield 24, 3) := by decide +kernel
theorem dX2_init_49 : decode cX2_init 49 = .ok (.aload_n 0, 1) := by decide +kernel
theorem dX2_init_50 : decode cX2_init 50 = .ok (.sipush 192, 3) := by decide +kernel
theorem dX2_init_53 : decode cX2_init 53 = .ok (.newarray .int, 2) := by decide +kernel
theorem dX2_init_55 : decode cX2_init 55 = .ok (.putfield 27, 3) := by decide +kernel
theorem dX2_init_58 : decode cX2_init 58 = .ok (.aload_n 0, 1) := by decide +kernel
theorem dX2_init_59 : decode cX2_init 59 = .ok (.bipush 7, 2) := by decide +kernel
theorem dX2_init_61 : decode cX2_init 61 = .ok (.newarray .int, 2) := by decide +kernel
theorem dX2_init_63 : decode cX2_init 63 = .ok (.putfield 30, 3) := by decide +kernel
theorem dX2_init_66 : decode cX2_init 66 = .ok (.aload_n 0, 1) := by decide +kernel
theorem dX2_init_67 : decode cX2_init 67 = .ok (.new 33, 3) := by decide +kernel
theorem dX2_init_70 : decode cX2_init 70 = .ok (.dup, 1) := by decide +kernel
theorem dX2_init_71 : decode cX2_init 71 = .ok (.invokespecial 35, 3) := by decide +kernel
theorem dX2_init_74 : decode cX2_init 74 = .ok (.putfield 36, 3) := by decide +kernel
theorem dX2_init_77 : decode cX2_init 77 = .ok (.aload_n 0, 1) := by decide +kernel
theorem dX2_init_78 : decode cX2_init 78 = .ok (.iconst 0, 1) := by decide +kernel
theorem dX2_init_79 : decode cX2_init 79 = .ok (.putfield 40, 3) := by decide +kernel
theorem dX2_init_82 : decode cX2_init 82 = .ok (.aload_n 0, 1) := by decide +kernel
theorem dX2_init_83 : decode cX2_init 83 = .ok (.iconst 0, 1) := by decide +kernel
theorem dX2_init_84 : decode cX2_init 84 = .ok (.putfield 44, 3) := by decide +kernel
theorem dX2_init_87 : decode cX2_init 87 = .ok (.return_, 1) := by decide +kernel
theorem dX2_prepare_0 : decode cX2_prepare 0 = .ok (.aload_n 0, 1) := by decide +kernel
theorem dX2_prepare_1 : decode cX2_prepare 1 = .ok (.getfield 40, 3) := by decide +kernel
theorem dX2_prepare_4 : decode cX2_prepare 4 = .ok (.ifCond .le 4, 3) := by decide +kernel
theorem dX2_prepare_7 : decode cX2_prepare 7 = .ok (.return_, 1) := by decide +kernel
theorem dX2_prepare_8 : decode cX2_prepare 8 = .ok (.aload_n 0, 1) := by decide +kernel
theorem dX2_prepare_9 : decode cX2_prepare 9 = .ok (.getfield 36, 3) := by decide +kernel
theorem dX2_prepare_12 : decode cX2_prepare 12 = .ok (.invokevirtual 48, 3) := by decide +kernel
theorem dX2_prepare_15 : decode cX2_prepare 15 = .ok (.aload_n 0, 1) := by decide +kernel
theorem dX2_prepare_16 : decode cX2_prepare 16 = .ok (.getfield 9, 3) := by decide +kernel
theorem dX2_prepare_19 : decode cX2_prepare 19 = .ok (.iconst 0, 1) := by decide +kernel
theorem dX2_prepare_20 : decode cX2_prepare 20 = .ok (.aload_n 0, 1) := by decide +kernel
theorem dX2_prepare_21 : decode cX2_prepare 21 = .ok (.getfield 36, 3) := by decide +kernel
theorem dX2_prepare_24 : decode cX2_prepare 24 = .ok (.invokestatic 51, 3) := by decide +kernel
theorem dX2_prepare_27 : decode cX2_prepare 27 = .ok (.iastore, 1) := by decide +kernel
theorem dX2_prepare_28 : decode cX2_prepare 28 = .ok (.aload_n 0, 1) := by decide +kernel
theorem dX2_prepare_29 : decode cX2_prepare 29 = .ok (.iconst 1, 1) := by decide +kernel
theorem dX2_prepare_30 : decode cX2_prepare 30 = .ok (.putfield 40, 3) := by decide +kernel
theorem dX2_prepare_33 : decode cX2_prepare 33 = .ok (.iconst 0, 1) := by decide +kernel
theorem dX2_prepare_34 : decode cX2_prepare 34 = .ok (.istore_n 1, 1) := by decide +kernel
theorem dX2_prepare_35 : decode cX2_prepare 35 = .ok (.iload_n 1, 1) := by decide +kernel
theorem dX2_prepare_36 : decode cX2_prepare 36 = .ok (.aload_n 0, 1) := by decide +kernel
theorem dX2_prepare_37 : decode cX2_prepare 37 = .ok (.getfield 40, 3) := by decide +kernel
theorem dX2_prepare_40 : decode cX2_prepare 40 = .ok (.if_icmp .ge 34, 3) := by decide +kernel
theorem dX2_prepare_43 : decode cX2_prepare 43 = .ok (.iload_n 1, 1) := by decide +kernel
theorem dX2_prepare_44 : decode cX2_prepare 44 = .ok (.sipush 192, 3) := by decide +kernel
theorem dX2_prepare_47 : decode cX2_prepare 47 = .ok (.if_icmp .ge 27, 3) := by decide +kernel
theorem dX2_prepare_50 : decode cX2_prepare 50 = .ok (.aload_n 0, 1) := by decide +kernel
theorem dX2_prepare_51 : decode cX2_prepare 51 = .ok (.iload_n 1, 1) := by decide +kernel
theorem dX2_prepare_52 : decode cX2_prepare 52 = .ok (.iconst 0, 1) := by decide +kernel
theorem dX2_prepare_53 : decode cX2_prepare 53 = .ok (.invokevirtual 55, 3) := by decide +kernel
theorem dX2_prepare_56 : decode cX2_prepare 56 = .ok (.aload_n 0, 1) := by decide +kernel
theorem dX2_prepare_57 : decode cX2_prepare 57 = .ok (.iload_n 1, 1) := by decide +kernel
theorem dX2_prepare_58 : decode cX2_prepare 58 = .ok (.iconst 2, 1) := by decide +kernel
theorem dX2_prepare_59 : decode cX2_prepare 59 = .ok (.invokevirtual 55, 3) := by decide +kernel
theorem dX2_prepare_62 : decode cX2_prepare 62 = .ok (.aload_n 0, 1) := by decide +kernel
theorem dX2_prepare_63 : decode cX2_prepare 63 = .ok (.iload_n 1, 1) := by decide +kernel
theorem dX2_prepare_64 : decode cX2_prepare 64 = .ok (.iconst 5, 1) := by decide +kernel
theorem dX2_prepare_65 : decode cX2_prepare 65 = .ok (.invokevirtual 55, 3) := by decide +kernel
theorem dX2_prepare_68 : decode cX2_prepare 68 = .ok (.iinc 1 1, 3) := by decide +kernel
theorem dX2_prepare_71 : decode cX2_prepare 71 = .ok (.goto (-36), 3) := by decide +kernel
theorem dX2_prepare_74 : decode cX2_prepare 74 = .ok (.iconst 0, 1) := by decide +kernel
theorem dX2_prepare_75 : decode cX2_prepare 75 = .ok (.istore_n 1, 1) := by decide +kernel
theorem dX2_prepare_76 : decode cX2_prepare 76 = .ok (.iload_n 1, 1) := by decide +kernel
theorem dX2_prepare_77 : decode cX2_prepare 77 = .ok (.sipush 192, 3) := by decide +kernel
theorem dX2_prepare_80 : decode cX2_prepare 80 = .ok (.if_icmp .ge 31, 3) := by decide +kernel
theorem dX2_prepare_83 : decode cX2_prepare 83 = .ok (.aload_n 0, 1) := by decide +kernel
theorem dX2_prepare_84 : decode cX2_prepare 84 = .ok (.getfield 15, 3) := by decide +kernel
theorem dX2_prepare_87 : decode cX2_prepare 87 = .ok (.iload_n 1, 1) := by decide +kernel
theorem dX2_prepare_88 : decode cX2_prepare 88 = .ok (.bipush 7, 2) := by decide +kernel
theorem dX2_prepare_90 : decode cX2_prepare 90 = .ok (.imul, 1) := by decide +kernel
theorem dX2_prepare_91 : decode cX2_prepare 91 = .ok (.iconst 4, 1) := by decide +kernel
theorem dX2_prepare_92 : decode cX2_prepare 92 = .ok (.iadd, 1) := by decide +kernel
theorem dX2_prepare_93 : decode cX2_prepare 93 = .ok (.aload_n 0, 1) := by decide +kernel
theorem dX2_prepare_94 : decode cX2_prepare 94 = .ok (.aload_n 0, 1) := by decide +kernel
theorem dX2_prepare_95 : decode cX2_prepare 95 = .ok (.iload_n 1, 1) := by decide +kernel
theorem dX2_prepare_96 : decode cX2_prepare 96 = .ok (.iconst 2, 1) := by decide +kernel
theorem dX2_prepare_97 : decode cX2_prepare 97 = .ok (.invokevirtual 59, 3) := by decide +kernel
theorem dX2_prepare_100 : decode cX2_prepare 100 = .ok (.iconst 2, 1) := by decide +kernel
theorem dX2_prepare_101 : decode cX2_prepare 101 = .ok (.invokevirtual 59, 3) := by decide +kernel
theorem dX2_prepare_104 : decode cX2_prepare 104 = .ok (.iastore, 1) := by decide +kernel
theorem dX2_prepare_105 : decode cX2_prepare 105 = .ok (.iinc 1 1, 3) := by decide +kernel
theorem dX2_prepare_108 : decode cX2_prepare 108 = .ok (.goto (-32), 3) := by decide +kernel
theorem dX2_prepare_111 : decode cX2_prepare 111 = .ok (.iconst 0, 1) := by decide +kernel
theorem dX2_prepare_112 : decode cX2_prepare 112 = .ok (.istore_n 1, 1) := by decide +kernel
theorem dX2_prepare_113 : decode cX2_prepare 113 = .ok (.iload_n 1, 1) := by decide +kernel
theorem dX2_prepare_114 : decode cX2_prepare 114 = .ok (.sipush 192, 3) := by decide +kernel
theorem dX2_prepare_117 : decode cX2_prepare 117 = .ok (.if_icmp .ge 36, 3) := by decide +kernel
theorem dX2_prepare_120 : decode cX2_prepare 120 = .ok (.aload_n 0, 1) := by decide +kernel
theorem dX2_prepare_121 : decode cX2_prepare 121 = .ok (.getfield 15, 3) := by decide +kernel
theorem dX2_prepare_124 : decode cX2_prepare 124 = .ok (.iload_n 1, 1) := by decide +kernel
theorem dX2_prepare_125 : decode cX2_prepare 125 = .ok (.bipush 7, 2) := by decide +kernel
theorem dX2_prepare_127 : decode cX2_prepare 127 = .ok (.imul, 1) := by decide +kernel
theorem dX2_prepare_128 : decode cX2_prepare 128 = .ok (.iconst 3, 1) := by decide +kernel
theorem dX2_prepare_129 : decode cX2_prepare 129 = .ok (.iadd, 1) := by decide +kernel
theorem dX2_prepare_130 : decode cX2_prepare 130 = .ok (.aload_n 0, 1) := by decide +kernel
theorem dX2_prepare_131 : decode cX2_prepare 131 = .ok (.aload_n 0, 1) := by decide +kernel
theorem dX2_prepare_132 : decode cX2_prepare 132 = .ok (.aload_n 0, 1) := by decide +kernel
theorem dX2_prepare_133 : decode cX2_prepare 133 = .ok (.iload_n 1, 1) := by decide +kernel
theorem dX2_prepare_134 : decode cX2_prepare 134 = .ok (.iconst 0, 1) := by decide +kernel
theorem dX2_prepare_135 : decode cX2_prepare 135 = .ok (.invokevirtual 59, 3) := by decide +kernel
theorem dX2_prepare_138 : decode cX2_prepare 138 = .ok (.iconst 4, 1) := by decide +kernel
theorem dX2_prepare_139 : decode cX2_prepare 139 = .ok (.invokevirtual 59, 3) := by decide +kernel
theorem dX2_prepare_142 : decode cX2_prepare 142 = .ok (.iconst 0, 1) := by decide +kernel
theorem dX2_prepare_143 : decode cX2_prepare 143 = .ok (.invokevirtual 59, 3) := by decide +kernel
theorem dX2_prepare_146 : decode cX2_prepare 146 = .ok (.iastore, 1) := by decide +kernel
theorem dX2_prepare_147 : decode cX2_prepare 147 = .ok (.iinc 1 1, 3) := by decide +kernel
theorem dX2_prepare_150 : decode cX2_prepare 150 = .ok (.goto (-37), 3) := by decide +kernel
theorem dX2_prepare_153 : decode cX2_prepare 153 = .ok (.getstatic 63, 3) := by decide +kernel
theorem dX2_prepare_156 : decode cX2_prepare 156 = .ok (.astore_n 1, 1) := by decide +kernel
theorem dX2_prepare_157 : decode cX2_prepare 157 = .ok (.aload_n 1, 1) := by decide +kernel
theorem dX2_prepare_158 : decode cX2_prepare 158 = .ok (.arraylength, 1) := by decide +kernel
theorem dX2_prepare_159 : decode cX2_prepare 159 = .ok (.istore_n 2, 1) := by decide +kernel
theorem dX2_prepare_160 : decode cX2_prepare 160 = .ok (.iconst 0, 1) := by decide +kernel
theorem dX2_prepare_161 : decode cX2_prepare 161 = .ok (.istore_n 3, 1) := by decide +kernel
theorem dX2_prepare_162 : decode cX2_prepare 162 = .ok (.iload_n 3, 1) := by decide +kernel
theorem dX2_prepare_163 : decode cX2_prepare 163 = .ok (.iload_n 2, 1) := by decide +kernel
theorem dX2_prepare_164 : decode cX2_prepare 164 = .ok (.if_icmp .ge 20, 3) := by decide +kernel
theorem dX2_prepare_167 : decode cX2_prepare 167 = .ok (.aload_n 1, 1) := by decide +kernel
theorem dX2_prepare_168 : decode cX2_prepare 168 = .ok (.iload_n 3, 1) := by decide +kernel
theorem dX2_prepare_169 : decode cX2_prepare 169 = .ok (.iaload, 1) := by decide +kernel
theorem dX2_prepare_170 : decode cX2_prepare 170 = .ok (.istore 4, 2) := by decide +kernel
theorem dX2_prepare_172 : decode cX2_prepare 172 = .ok (.aload_n 0, 1) := by decide +kernel
theorem dX2_prepare_173 : decode cX2_prepare 173 = .ok (.iload 4, 2) := by decide +kernel
theorem dX2_prepare_175 : decode cX2_prepare 175 = .ok (.invokevirtual 66, 3) := by decide +kernel
theorem dX2_prepare_178 : decode cX2_prepare 178 = .ok (.iinc 3 1, 3) := by decide +kernel
theorem dX2_prepare_181 : decode cX2_prepare 181 = .ok (.goto (-19), 3) := by decide +kernel
theorem dX2_prepare_184 : decode cX2_prepare 184 = .ok (.return_, 1) := by decide +kernel
theorem dX2_find_0 : decode cX2_find 0 = .ok (.aload_n 0, 1) := by decide +kernel
theorem dX2_find_1 : decode cX2_find 1 = .ok (.aload_n 1, 1) := by decide +kernel
theorem dX2_find_2 : decode cX2_find 2 = .ok (.invokestatic 51, 3) := by decide +kernel
theorem dX2_find_5 : decode cX2_find 5 = .ok (.invokevirtual 70, 3) := by decide +kernel
theorem dX2_find_8 : decode cX2_find 8 = .ok (.ireturn, 1) := by decide +kernel
theorem dX2_load_0 : decode cX2_load 0 = .ok (.aload_n 0, 1) := by decide +kernel
theorem dX2_load_1 : decode cX2_load 1 = .ok (.getfield 9, 3) := by decide +kernel
theorem dX2_load_4 : decode cX2_load 4 = .ok (.iload_n 1, 1) := by decide +kernel
theorem dX2_load_5 : decode cX2_load 5 = .ok (.iaload, 1) := by decide +kernel
theorem dX2_load_6 : decode cX2_load 6 = .ok (.istore_n 3, 1) := by decide +kernel
theorem dX2_load_7 : decode cX2_load 7 = .ok (.bipush 15, 2) := by decide +kernel
theorem dX2_load_9 : decode cX2_load 9 = .ok (.istore 4, 2) := by decide +kernel
theorem dX2_load_11 : decode cX2_load 11 = .ok (.iload 4, 2) := by decide +kernel
theorem dX2_load_13 : decode cX2_load 13 = .ok (.ifCond .lt 26, 3) := by decide +kernel
theorem dX2_load_16 : decode cX2_load 16 = .ok (.aload_n 2, 1) := by decide +kernel
theorem dX2_load_17 : decode cX2_load 17 = .ok (.getfield 74, 3) := by decide +kernel
theorem dX2_load_20 : decode cX2_load 20 = .ok (.iload 4, 2) := by decide +kernel
theorem dX2_load_22 : decode cX2_load 22 = .ok (.iload_n 3, 1) := by decide +kernel
theorem dX2_load_23 : decode cX2_load 23 = .ok (.iconst 3, 1) := by decide +kernel
theorem dX2_load_24 : decode cX2_load 24 = .ok (.irem, 1) := by decide +kernel
theorem dX2_load_25 : decode cX2_load 25 = .ok (.iconst 1, 1) := by decide +kernel
theorem dX2_load_26 : decode cX2_load 26 = .ok (.isub, 1) := by decide +kernel
theorem dX2_load_27 : decode cX2_load 27 = .ok (.i2l, 1) := by decide +kernel
theorem dX2_load_28 : decode cX2_load 28 = .ok (.lastore, 1) := by decide +kernel
theorem dX2_load_29 : decode cX2_load 29 = .ok (.iload_n 3, 1) := by decide +kernel
theorem dX2_load_30 : decode cX2_load 30 = .ok (.iconst 3, 1) := by decide +kernel
theorem dX2_load_31 : decode cX2_load 31 = .ok (.idiv, 1) := by decide +kernel
theorem dX2_load_32 : decode cX2_load 32 = .ok (.istore_n 3, 1) := by decide +kernel
theorem dX2_load_33 : decode cX2_load 33 = .ok (.iinc 4 (-1), 3) := by decide +kernel
theorem dX2_load_36 : decode cX2_load 36 = .ok (.goto (-25), 3) := by decide +kernel
theorem dX2_load_39 : decode cX2_load 39 = .ok (.aload_n 2, 1) := by decide +kernel
theorem dX2_load_40 : decode cX2_load 40 = .ok (.iload_n 3, 1) := by decide +kernel
theorem dX2_load_41 : decode cX2_load 41 = .ok (.putfield 78, 3) := by decide +kernel
theorem dX2_load_44 : decode cX2_load 44 = .ok (.return_, 1) := by decide +kernel
theorem dX2_next_0 : decode cX2_next 0 = .ok (.aload_n 0, 1) := by decide +kernel
theorem dX2_next_1 : decode cX2_next 1 = .ok (.getfield 15, 3) := by decide +kernel
theorem dX2_next_4 : decode cX2_next 4 = .ok (.iload_n 1, 1) := by decide +kernel
theorem dX2_next_5 : decode cX2_next 5 = .ok (.bipush 7, 2) := by decide +kernel
theorem dX2_next_7 : decode cX2_next 7 = .ok (.imul, 1) := by decide +kernel
theorem dX2_next_8 : decode cX2_next 8 = .ok (.iload_n 2, 1) := by decide +kernel
theorem dX2_next_9 : decode cX2_next 9 = .ok (.iadd, 1) := by decide +kernel
theorem dX2_next_10 : decode cX2_next 10 = .ok (.iaload, 1) := by decide +kernel
theorem dX2_next_11 : decode cX2_next 11 = .ok (.ireturn, 1) := by decide +kernel
theorem dX2_keyOf_0 : decode cX2_keyOf 0 = .ok (.aload_n 0, 1) := by decide +kernel
theorem dX2_keyOf_1 : decode cX2_keyOf 1 = .ok (.getfield 78, 3) := by decide +kernel
theorem dX2_keyOf_4 : decode cX2_keyOf 4 = .ok (.iconst 1, 1) := by decide +kernel
theorem dX2_keyOf_5 : decode cX2_keyOf 5 = .ok (.if_icmp .le 6, 3) := by decide +kernel
theorem dX2_keyOf_8 : decode cX2_keyOf 8 = .ok (.bipush (-2), 2) := by decide +kernel
theorem dX2_keyOf_10 : decode cX2_keyOf 10 = .ok (.ireturn, 1) := by decide +kernel
theorem dX2_keyOf_11 : decode cX2_keyOf 11 = .ok (.aload_n 0, 1) := by decide +kernel
theorem dX2_keyOf_12 : decode cX2_keyOf 12 = .ok (.getfield 78, 3) := by decide +kernel
theorem dX2_keyOf_15 : decode cX2_keyOf 15 = .ok (.istore_n 1, 1) := by decide +kernel
theorem dX2_keyOf_16 : decode cX2_keyOf 16 = .ok (.iconst 0, 1) := by decide +kernel
theorem dX2_keyOf_17 : decode cX2_keyOf 17 = .ok (.istore_n 2, 1) := by decide +kernel
theorem dX2_keyOf_18 : decode cX2_keyOf 18 = .ok (.iload_n 2, 1) := by decide +kernel
theorem dX2_keyOf_19 : decode cX2_keyOf 19 = .ok (.bipush 16, 2) := by decide +kernel
theorem dX2_keyOf_21 : decode cX2_keyOf 21 = .ok (.if_icmp .ge 42, 3) := by decide +kernel
theorem dX2_keyOf_24 : decode cX2_keyOf 24 = .ok (.aload_n 0, 1) := by decide +kernel
theorem dX2_keyOf_25 : decode cX2_keyOf 25 = .ok (.getfield 74, 3) := by decide +kernel
theorem dX2_keyOf_28 : decode cX2_keyOf 28 = .ok (.iload_n 2, 1) := by decide +kernel
theorem dX2_keyOf_29 : decode cX2_keyOf 29 = .ok (.laload, 1) := by decide +kernel
theorem dX2_keyOf_30 : decode cX2_keyOf 30 = .ok (.lstore_n 3, 1) := by decide +kernel
theorem dX2_keyOf_31 : decode cX2_keyOf 31 = .ok (.lload_n 3, 1) := by decide +kernel
theorem dX2_keyOf_32 : decode cX2_keyOf 32 = .ok (.ldc2_w 81, 3) := by decide +kernel
theorem dX2_keyOf_35 : decode cX2_keyOf 35 = .ok (.lcmp, 1) := by decide +kernel
theorem dX2_keyOf_36 : decode cX2_keyOf 36 = .ok (.ifCond .lt 9, 3) := by decide +kernel
theorem dX2_keyOf_39 : decode cX2_keyOf 39 = .ok (.lload_n 3, 1) := by decide +kernel
theorem dX2_keyOf_40 : decode cX2_keyOf 40 = .ok (.lconst 1, 1) := by decide +kernel
theorem dX2_keyOf_41 : decode cX2_keyOf 41 = .ok (.lcmp, 1) := by decide +kernel
theorem dX2_keyOf_42 : decode cX2_keyOf 42 = .ok (.ifCond .le 6, 3) := by decide +kernel
theorem dX2_keyOf_45 : decode cX2_keyOf 45 = .ok (.bipush (-2), 2) := by decide +kernel
theorem dX2_keyOf_47 : decode cX2_keyOf 47 = .ok (.ireturn, 1) := by decide +kernel
theorem dX2_keyOf_48 : decode cX2_keyOf 48 = .ok (.iload_n 1, 1) := by decide +kernel
theorem dX2_keyOf_49 : decode cX2_keyOf 49 = .ok (.iconst 3, 1) := by decide +kernel
theorem dX2_keyOf_50 : decode cX2_keyOf 50 = .ok (.imul, 1) := by decide +kernel
theorem dX2_keyOf_51 : decode cX2_keyOf 51 = .ok (.lload_n 3, 1) := by decide +kernel
theorem dX2_keyOf_52 : decode cX2_keyOf 52 = .ok (.l2i, 1) := by decide +kernel
theorem dX2_keyOf_53 : decode cX2_keyOf 53 = .ok (.iadd, 1) := by decide +kernel
theorem dX2_keyOf_54 : decode cX2_keyOf 54 = .ok (.iconst 1, 1) := by decide +kernel
theorem dX2_keyOf_55 : decode cX2_keyOf 55 = .ok (.iadd, 1) := by decide +kernel
theorem dX2_keyOf_56 : decode cX2_keyOf 56 = .ok (.istore_n 1, 1) := by decide +kernel
theorem dX2_keyOf_57 : decode cX2_keyOf 57 = .ok (.iinc 2 1, 3) := by decide +kernel
theorem dX2_keyOf_60 : decode cX2_keyOf 60 = .ok (.goto (-42), 3) := by decide +kernel
theorem dX2_keyOf_63 : decode cX2_keyOf 63 = .ok (.iload_n 1, 1) := by decide +kernel
theorem dX2_keyOf_64 : decode cX2_keyOf 64 = .ok (.ireturn, 1) := by decide +kernel
theorem dX2_findKey_0 : decode cX2_findKey 0 = .ok (.iconst 0, 1) := by decide +kernel
theorem dX2_findKey_1 : decode cX2_findKey 1 = .ok (.istore_n 2, 1) := by decide +kernel
theorem dX2_findKey_2 : decode cX2_findKey 2 = .ok (.iload_n 2, 1) := by decide +kernel
theorem dX2_findKey_3 : decode cX2_findKey 3 = .ok (.aload_n 0, 1) := by decide +kernel
theorem dX2_findKey_4 : decode cX2_findKey 4 = .ok (.getfield 40, 3) := by decide +kernel
theorem dX2_findKey_7 : decode cX2_findKey 7 = .ok (.if_icmp .ge 21, 3) := by decide +kernel
theorem dX2_findKey_10 : decode cX2_findKey 10 = .ok (.aload_n 0, 1) := by decide +kernel
theorem dX2_findKey_11 : decode cX2_findKey 11 = .ok (.getfield 9, 3) := by decide +kernel
theorem dX2_findKey_14 : decode cX2_findKey 14 = .ok (.iload_n 2, 1) := by decide +kernel
theorem dX2_findKey_15 : decode cX2_findKey 15 = .ok (.iaload, 1) := by decide +kernel
theorem dX2_findKey_16 : decode cX2_findKey 16 = .ok (.iload_n 1, 1) := by decide +kernel
theorem dX2_findKey_17 : decode cX2_findKey 17 = .ok (.if_icmp .ne 5, 3) := by decide +kernel
theorem dX2_findKey_20 : decode cX2_findKey 20 = .ok (.iload_n 2, 1) := by decide +kernel
theorem dX2_findKey_21 : decode cX2_findKey 21 = .ok (.ireturn, 1) := by decide +kernel
theorem dX2_findKey_22 : decode cX2_findKey 22 = .ok (.iinc 2 1, 3) := by decide +kernel
theorem dX2_findKey_25 : decode cX2_findKey 25 = .ok (.goto (-23), 3) := by decide +kernel
theorem dX2_findKey_28 : decode cX2_findKey 28 = .ok (.bipush (-2), 2) := by decide +kernel
theorem dX2_findKey_30 : decode cX2_findKey 30 = .ok (.ireturn, 1) := by decide +kernel
theorem dX2_reach_0 : decode cX2_reach 0 = .ok (.aload_n 0, 1) := by decide +kernel
theorem dX2_reach_1 : decode cX2_reach 1 = .ok (.iload_n 1, 1) := by decide +kernel
theorem dX2_reach_2 : decode cX2_reach 2 = .ok (.aload_n 0, 1) := by decide +kernel
theorem dX2_reach_3 : decode cX2_reach 3 = .ok (.getfield 36, 3) := by decide +kernel
theorem dX2_reach_6 : decode cX2_reach 6 = .ok (.invokevirtual 83, 3) := by decide +kernel
theorem dX2_reach_9 : decode cX2_reach 9 = .ok (.aload_n 0, 1) := by decide +kernel
theorem dX2_reach_10 : decode cX2_reach 10 = .ok (.getfield 36, 3) := by decide +kernel
theorem dX2_reach_13 : decode cX2_reach 13 = .ok (.iload_n 2, 1) := by decide +kernel
theorem dX2_reach_14 : decode cX2_reach 14 = .ok (.invokevirtual 87, 3) := by decide +kernel
theorem dX2_reach_17 : decode cX2_reach 17 = .ok (.aload_n 0, 1) := by decide +kernel
theorem dX2_reach_18 : decode cX2_reach 18 = .ok (.getfield 36, 3) := by decide +kernel
theorem dX2_reach_21 : decode cX2_reach 21 = .ok (.invokestatic 51, 3) := by decide +kernel
theorem dX2_reach_24 : decode cX2_reach 24 = .ok (.istore_n 3, 1) := by decide +kernel
theorem dX2_reach_25 : decode cX2_reach 25 = .ok (.aload_n 0, 1) := by decide +kernel
theorem dX2_reach_26 : decode cX2_reach 26 = .ok (.iload_n 3, 1) := by decide +kernel
theorem dX2_reach_27 : decode cX2_reach 27 = .ok (.invokevirtual 70, 3) := by decide +kernel
theorem dX2_reach_30 : decode cX2_reach 30 = .ok (.istore 4, 2) := by decide +kernel
theorem dX2_reach_32 : decode cX2_reach 32 = .ok (.iload 4, 2) := by decide +kernel
theorem dX2_reach_34 : decode cX2_reach 34 = .ok (.ifCond .ge 53, 3) := by decide +kernel
theorem dX2_reach_37 : decode cX2_reach 37 = .ok (.aload_n 0, 1) := by decide +kernel
theorem dX2_reach_38 : decode cX2_reach 38 = .ok (.getfield 40, 3) := by decide +kernel
theorem dX2_reach_41 : decode cX2_reach 41 = .ok (.sipush 192, 3) := by decide +kernel
theorem dX2_reach_44 : decode cX2_reach 44 = .ok (.if_icmp .ge 43, 3) := by decide +kernel
theorem dX2_reach_47 : decode cX2_reach 47 = .ok (.aload_n 0, 1) := by decide +kernel
theorem dX2_reach_48 : decode cX2_reach 48 = .ok (.getfield 40, 3) := by decide +kernel
theorem dX2_reach_51 : decode cX2_reach 51 = .ok (.istore 4, 2) := by decide +kernel
theorem dX2_reach_53 : decode cX2_reach 53 = .ok (.aload_n 0, 1) := by decide +kernel
theorem dX2_reach_54 : decode cX2_reach 54 = .ok (.getfield 9, 3) := by decide +kernel
theorem dX2_reach_57 : decode cX2_reach 57 = .ok (.iload 4, 2) := by decide +kernel
theorem dX2_reach_59 : decode cX2_reach 59 = .ok (.iload_n 3, 1) := by decide +kernel
theorem dX2_reach_60 : decode cX2_reach 60 = .ok (.iastore, 1) := by decide +kernel
theorem dX2_reach_61 : decode cX2_reach 61 = .ok (.aload_n 0, 1) := by decide +kernel
theorem dX2_reach_62 : decode cX2_reach 62 = .ok (.getfield 21, 3) := by decide +kernel
theorem dX2_reach_65 : decode cX2_reach 65 = .ok (.iload 4, 2) := by decide +kernel
theorem dX2_reach_67 : decode cX2_reach 67 = .ok (.iload_n 1, 1) := by decide +kernel
theorem dX2_reach_68 : decode cX2_reach 68 = .ok (.iastore, 1) := by decide +kernel
theorem dX2_reach_69 : decode cX2_reach 69 = .ok (.aload_n 0, 1) := by decide +kernel
theorem dX2_reach_70 : decode cX2_reach 70 = .ok (.getfield 24, 3) := by decide +kernel
theorem dX2_reach_73 : decode cX2_reach 73 = .ok (.iload 4, 2) := by decide +kernel
theorem dX2_reach_75 : decode cX2_reach 75 = .ok (.iload_n 2, 1) := by decide +kernel
theorem dX2_reach_76 : decode cX2_reach 76 = .ok (.iastore, 1) := by decide +kernel
theorem dX2_reach_77 : decode cX2_reach 77 = .ok (.aload_n 0, 1) := by decide +kernel
theorem dX2_reach_78 : decode cX2_reach 78 = .ok (.dup, 1) := by decide +kernel
theorem dX2_reach_79 : decode cX2_reach 79 = .ok (.getfield 40, 3) := by decide +kernel
theorem dX2_reach_82 : decode cX2_reach 82 = .ok (.iconst 1, 1) := by decide +kernel
theorem dX2_reach_83 : decode cX2_reach 83 = .ok (.iadd, 1) := by decide +kernel
theorem dX2_reach_84 : decode cX2_reach 84 = .ok (.putfield 40, 3) := by decide +kernel
theorem dX2_reach_87 : decode cX2_reach 87 = .ok (.aload_n 0, 1) := by decide +kernel
theorem dX2_reach_88 : decode cX2_reach 88 = .ok (.getfield 15, 3) := by decide +kernel
theorem dX2_reach_91 : decode cX2_reach 91 = .ok (.iload_n 1, 1) := by decide +kernel
theorem dX2_reach_92 : decode cX2_reach 92 = .ok (.bipush 7, 2) := by decide +kernel
theorem dX2_reach_94 : decode cX2_reach 94 = .ok (.imul, 1) := by decide +kernel
theorem dX2_reach_95 : decode cX2_reach 95 = .ok (.iload_n 2, 1) := by decide +kernel
theorem dX2_reach_96 : decode cX2_reach 96 = .ok (.iadd, 1) := by decide +kernel
theorem dX2_reach_97 : decode cX2_reach 97 = .ok (.iload 4, 2) := by decide +kernel
theorem dX2_reach_99 : decode cX2_reach 99 = .ok (.iconst 0, 1) := by decide +kernel
theorem dX2_reach_100 : decode cX2_reach 100 = .ok (.invokestatic 90, 3) := by decide +kernel
theorem dX2_reach_103 : decode cX2_reach 103 = .ok (.iastore, 1) := by decide +kernel
theorem dX2_reach_104 : decode cX2_reach 104 = .ok (.return_, 1) := by decide +kernel
theorem dX2_fillWithout_0 : decode cX2_fillWithout 0 = .ok (.iconst 0, 1) := by decide +kernel
theorem dX2_fillWithout_1 : decode cX2_fillWithout 1 = .ok (.istore_n 2, 1) := by decide +kernel
theorem dX2_fillWithout_2 : decode cX2_fillWithout 2 = .ok (.iload_n 2, 1) := by decide +kernel
theorem dX2_fillWithout_3 : decode cX2_fillWithout 3 = .ok (.sipush 192, 3) := by decide +kernel
theorem dX2_fillWithout_6 : decode cX2_fillWithout 6 = .ok (.if_icmp .ge 30, 3) := by decide +kernel
theorem dX2_fillWithout_9 : decode cX2_fillWithout 9 = .ok (.aload_n 0, 1) := by decide +kernel
theorem dX2_fillWithout_10 : decode cX2_fillWithout 10 = .ok (.getfield 15, 3) := by decide +kernel
theorem dX2_fillWithout_13 : decode cX2_fillWithout 13 = .ok (.iload_n 2, 1) := by decide +kernel
theorem dX2_fillWithout_14 : decode cX2_fillWithout 14 = .ok (.bipush 7, 2) := by decide +kernel
theorem dX2_fillWithout_16 : decode cX2_fillWithout 16 = .ok (.imul, 1) := by decide +kernel
theorem dX2_fillWithout_17 : decode cX2_fillWithout 17 = .ok (.iload_n 1, 1) := by decide +kernel
theorem dX2_fillWithout_18 : decode cX2_fillWithout 18 = .ok (.iadd, 1) := by decide +kernel
theorem dX2_fillWithout_19 : decode cX2_fillWithout 19 = .ok (.iaload, 1) := by decide +kernel
theorem dX2_fillWithout_20 : decode cX2_fillWithout 20 = .ok (.ifCond .ne 10, 3) := by decide +kernel
theorem dX2_fillWithout_23 : decode cX2_fillWithout 23 = .ok (.aload_n 0, 1) := by decide +kernel
theorem dX2_fillWithout_24 : decode cX2_fillWithout 24 = .ok (.getfield 18, 3) := by decide +kernel
theorem dX2_fillWithout_27 : decode cX2_fillWithout 27 = .ok (.iload_n 1, 1) := by decide +kernel
theorem dX2_fillWithout_28 : decode cX2_fillWithout 28 = .ok (.iload_n 2, 1) := by decide +kernel
theorem dX2_fillWithout_29 : decode cX2_fillWithout 29 = .ok (.iastore, 1) := by decide +kernel
theorem dX2_fillWithout_30 : decode cX2_fillWithout 30 = .ok (.iinc 2 1, 3) := by decide +kernel
theorem dX2_fillWithout_33 : decode cX2_fillWithout 33 = .ok (.goto (-31), 3) := by decide +kernel
theorem dX2_fillWithout_36 : decode cX2_fillWithout 36 = .ok (.iconst 1, 1) := by decide +kernel
theorem dX2_fillWithout_37 : decode cX2_fillWithout 37 = .ok (.istore_n 2, 1) := by decide +kernel
theorem dX2_fillWithout_38 : decode cX2_fillWithout 38 = .ok (.iload_n 2, 1) := by decide +kernel
theorem dX2_fillWithout_39 : decode cX2_fillWithout 39 = .ok (.sipush 192, 3) := by decide +kernel
theorem dX2_fillWithout_42 : decode cX2_fillWithout 42 = .ok (.if_icmp .ge 46, 3) := by decide +kernel
theorem dX2_fillWithout_45 : decode cX2_fillWithout 45 = .ok (.aload_n 0, 1) := by decide +kernel
theorem dX2_fillWithout_46 : decode cX2_fillWithout 46 = .ok (.getfield 18, 3) := by decide +kernel
theorem dX2_fillWithout_49 : decode cX2_fillWithout 49 = .ok (.iload_n 2, 1) := by decide +kernel
theorem dX2_fillWithout_50 : decode cX2_fillWithout 50 = .ok (.bipush 7, 2) := by decide +kernel
theorem dX2_fillWithout_52 : decode cX2_fillWithout 52 = .ok (.imul, 1) := by decide +kernel
theorem dX2_fillWithout_53 : decode cX2_fillWithout 53 = .ok (.iload_n 1, 1) := by decide +kernel
theorem dX2_fillWithout_54 : decode cX2_fillWithout 54 = .ok (.iadd, 1) := by decide +kernel
theorem dX2_fillWithout_55 : decode cX2_fillWithout 55 = .ok (.aload_n 0, 1) := by decide +kernel
theorem dX2_fillWithout_56 : decode cX2_fillWithout 56 = .ok (.aload_n 0, 1) := by decide +kernel
theorem dX2_fillWithout_57 : decode cX2_fillWithout 57 = .ok (.getfield 18, 3) := by decide +kernel
theorem dX2_fillWithout_60 : decode cX2_fillWithout 60 = .ok (.aload_n 0, 1) := by decide +kernel
theorem dX2_fillWithout_61 : decode cX2_fillWithout 61 = .ok (.getfield 21, 3) := by decide +kernel
theorem dX2_fillWithout_64 : decode cX2_fillWithout 64 = .ok (.iload_n 2, 1) := by decide +kernel
theorem dX2_fillWithout_65 : decode cX2_fillWithout 65 = .ok (.iaload, 1) := by decide +kernel
theorem dX2_fillWithout_66 : decode cX2_fillWithout 66 = .ok (.bipush 7, 2) := by decide +kernel
theorem dX2_fillWithout_68 : decode cX2_fillWithout 68 = .ok (.imul, 1) := by decide +kernel
theorem dX2_fillWithout_69 : decode cX2_fillWithout 69 = .ok (.iload_n 1, 1) := by decide +kernel
theorem dX2_fillWithout_70 : decode cX2_fillWithout 70 = .ok (.iadd, 1) := by decide +kernel
theorem dX2_fillWithout_71 : decode cX2_fillWithout 71 = .ok (.iaload, 1) := by decide +kernel
theorem dX2_fillWithout_72 : decode cX2_fillWithout 72 = .ok (.aload_n 0, 1) := by decide +kernel
theorem dX2_fillWithout_73 : decode cX2_fillWithout 73 = .ok (.getfield 24, 3) := by decide +kernel
theorem dX2_fillWithout_76 : decode cX2_fillWithout 76 = .ok (.iload_n 2, 1) := by decide +kernel
theorem dX2_fillWithout_77 : decode cX2_fillWithout 77 = .ok (.iaload, 1) := by decide +kernel
theorem dX2_fillWithout_78 : decode cX2_fillWithout 78 = .ok (.invokevirtual 59, 3) := by decide +kernel
theorem dX2_fillWithout_81 : decode cX2_fillWithout 81 = .ok (.iastore, 1) := by decide +kernel
theorem dX2_fillWithout_82 : decode cX2_fillWithout 82 = .ok (.iinc 2 1, 3) := by decide +kernel
theorem dX2_fillWithout_85 : decode cX2_fillWithout 85 = .ok (.goto (-47), 3) := by decide +kernel
theorem dX2_fillWithout_88 : decode cX2_fillWithout 88 = .ok (.return_, 1) := by decide +kernel
theorem dX2_rankBy_0 : decode cX2_rankBy 0 = .ok (.aload_n 0, 1) := by decide +kernel
theorem dX2_rankBy_1 : decode cX2_rankBy 1 = .ok (.invokevirtual 95, 3) := by decide +kernel
theorem dX2_rankBy_4 : decode cX2_rankBy 4 = .ok (.aload_n 0, 1) := by decide +kernel
theorem dX2_rankBy_5 : decode cX2_rankBy 5 = .ok (.getfield 44, 3) := by decide +kernel
theorem dX2_rankBy_8 : decode cX2_rankBy 8 = .ok (.ifCond .eq 12, 3) := by decide +kernel
theorem dX2_rankBy_11 : decode cX2_rankBy 11 = .ok (.aload_n 0, 1) := by decide +kernel
theorem dX2_rankBy_12 : decode cX2_rankBy 12 = .ok (.aload_n 1, 1) := by decide +kernel
theorem dX2_rankBy_13 : decode cX2_rankBy 13 = .ok (.invokevirtual 98, 3) := by decide +kernel
theorem dX2_rankBy_16 : decode cX2_rankBy 16 = .ok (.ifCond .eq 4, 3) := by decide +kernel
theorem dX2_rankBy_19 : decode cX2_rankBy 19 = .ok (.return_, 1) := by decide +kernel
theorem dX2_rankBy_20 : decode cX2_rankBy 20 = .ok (.aload_n 1, 1) := by decide +kernel
theorem dX2_rankBy_21 : decode cX2_rankBy 21 = .ok (.iconst 0, 1) := by decide +kernel
theorem dX2_rankBy_22 : decode cX2_rankBy 22 = .ok (.aload_n 0, 1) := by decide +kernel
theorem dX2_rankBy_23 : decode cX2_rankBy 23 = .ok (.getfield 30, 3) := by decide +kernel
theorem dX2_rankBy_26 : decode cX2_rankBy 26 = .ok (.iconst 0, 1) := by decide +kernel
theorem dX2_rankBy_27 : decode cX2_rankBy 27 = .ok (.bipush 7, 2) := by decide +kernel
theorem dX2_rankBy_29 : decode cX2_rankBy 29 = .ok (.invokestatic 102, 3) := by decide +kernel
theorem dX2_rankBy_32 : decode cX2_rankBy 32 = .ok (.aload_n 0, 1) := by decide +kernel
theorem dX2_rankBy_33 : decode cX2_rankBy 33 = .ok (.iconst 1, 1) := by decide +kernel
theorem dX2_rankBy_34 : decode cX2_rankBy 34 = .ok (.putfield 44, 3) := by decide +kernel
theorem dX2_rankBy_37 : decode cX2_rankBy 37 = .ok (.iconst 0, 1) := by decide +kernel
theorem dX2_rankBy_38 : decode cX2_rankBy 38 = .ok (.istore_n 2, 1) := by decide +kernel
theorem dX2_rankBy_39 : decode cX2_rankBy 39 = .ok (.iload_n 2, 1) := by decide +kernel
theorem dX2_rankBy_40 : decode cX2_rankBy 40 = .ok (.sipush 192, 3) := by decide +kernel
theorem dX2_rankBy_43 : decode cX2_rankBy 43 = .ok (.if_icmp .ge 17, 3) := by decide +kernel
theorem dX2_rankBy_46 : decode cX2_rankBy 46 = .ok (.aload_n 0, 1) := by decide +kernel
theorem dX2_rankBy_47 : decode cX2_rankBy 47 = .ok (.getfield 27, 3) := by decide +kernel
theorem dX2_rankBy_50 : decode cX2_rankBy 50 = .ok (.iload_n 2, 1) := by decide +kernel
theorem dX2_rankBy_51 : decode cX2_rankBy 51 = .ok (.ldc 108, 2) := by decide +kernel
theorem dX2_rankBy_53 : decode cX2_rankBy 53 = .ok (.iastore, 1) := by decide +kernel
theorem dX2_rankBy_54 : decode cX2_rankBy 54 = .ok (.iinc 2 1, 3) := by decide +kernel
theorem dX2_rankBy_57 : decode cX2_rankBy 57 = .ok (.goto (-18), 3) := by decide +kernel
theorem dX2_rankBy_60 : decode cX2_rankBy 60 = .ok (.aload_n 0, 1) := by decide +kernel
theorem dX2_rankBy_61 : decode cX2_rankBy 61 = .ok (.getfield 27, 3) := by decide +kernel
theorem dX2_rankBy_64 : decode cX2_rankBy 64 = .ok (.iconst 0, 1) := by decide +kernel
theorem dX2_rankBy_65 : decode cX2_rankBy 65 = .ok (.iconst 0, 1) := by decide +kernel
theorem dX2_rankBy_66 : decode cX2_rankBy 66 = .ok (.iastore, 1) := by decide +kernel
theorem dX2_rankBy_67 : decode cX2_rankBy 67 = .ok (.iconst 1, 1) := by decide +kernel
theorem dX2_rankBy_68 : decode cX2_rankBy 68 = .ok (.istore_n 2, 1) := by decide +kernel
theorem dX2_rankBy_69 : decode cX2_rankBy 69 = .ok (.iconst 0, 1) := by decide +kernel
theorem dX2_rankBy_70 : decode cX2_rankBy 70 = .ok (.istore_n 3, 1) := by decide +kernel
theorem dX2_rankBy_71 : decode cX2_rankBy 71 = .ok (.iload_n 3, 1) := by decide +kernel
theorem dX2_rankBy_72 : decode cX2_rankBy 72 = .ok (.sipush 192, 3) := by decide +kernel
theorem dX2_rankBy_75 : decode cX2_rankBy 75 = .ok (.if_icmp .ge 18, 3) := by decide +kernel
theorem dX2_rankBy_78 : decode cX2_rankBy 78 = .ok (.iload_n 2, 1) := by decide +kernel
theorem dX2_rankBy_79 : decode cX2_rankBy 79 = .ok (.ifCond .eq 14, 3) := by decide +kernel
theorem dX2_rankBy_82 : decode cX2_rankBy 82 = .ok (.aload_n 0, 1) := by decide +kernel
theorem dX2_rankBy_83 : decode cX2_rankBy 83 = .ok (.invokevirtual 109, 3) := by decide +kernel
theorem dX2_rankBy_86 : decode cX2_rankBy 86 = .ok (.istore_n 2, 1) := by decide +kernel
theorem dX2_rankBy_87 : decode cX2_rankBy 87 = .ok (.iinc 3 1, 3) := by decide +kernel
theorem dX2_rankBy_90 : decode cX2_rankBy 90 = .ok (.goto (-19), 3) := by decide +kernel
theorem dX2_rankBy_93 : decode cX2_rankBy 93 = .ok (.return_, 1) := by decide +kernel
theorem dX2_isRankedBy_0 : decode cX2_isRankedBy 0 = .ok (.getstatic 63, 3) := by decide +kernel
theorem dX2_isRankedBy_3 : decode cX2_isRankedBy 3 = .ok (.astore_n 2, 1) := by decide +kernel
theorem dX2_isRankedBy_4 : decode cX2_isRankedBy 4 = .ok (.aload_n 2, 1) := by decide +kernel
theorem dX2_isRankedBy_5 : decode cX2_isRankedBy 5 = .ok (.arraylength, 1) := by decide +kernel
theorem dX2_isRankedBy_6 : decode cX2_isRankedBy 6 = .ok (.istore_n 3, 1) := by decide +kernel
theorem dX2_isRankedBy_7 : decode cX2_isRankedBy 7 = .ok (.iconst 0, 1) := by decide +kernel
theorem dX2_isRankedBy_8 : decode cX2_isRankedBy 8 = .ok (.istore 4, 2) := by decide +kernel
theorem dX2_isRankedBy_10 : decode cX2_isRankedBy 10 = .ok (.iload 4, 2) := by decide +kernel
theorem dX2_isRankedBy_12 : decode cX2_isRankedBy 12 = .ok (.iload_n 3, 1) := by decide +kernel
theorem dX2_isRankedBy_13 : decode cX2_isRankedBy 13 = .ok (.if_icmp .ge 31, 3) := by decide +kernel
theorem dX2_isRankedBy_16 : decode cX2_isRankedBy 16 = .ok (.aload_n 2, 1) := by decide +kernel
theorem dX2_isRankedBy_17 : decode cX2_isRankedBy 17 = .ok (.iload 4, 2) := by decide +kernel
theorem dX2_isRankedBy_19 : decode cX2_isRankedBy 19 = .ok (.iaload, 1) := by decide +kernel
theorem dX2_isRankedBy_20 : decode cX2_isRankedBy 20 = .ok (.istore 5, 2) := by decide +kernel
theorem dX2_isRankedBy_22 : decode cX2_isRankedBy 22 = .ok (.aload_n 0, 1) := by decide +kernel
theorem dX2_isRankedBy_23 : decode cX2_isRankedBy 23 = .ok (.getfield 30, 3) := by decide +kernel
theorem dX2_isRankedBy_26 : decode cX2_isRankedBy 26 = .ok (.iload 5, 2) := by decide +kernel
theorem dX2_isRankedBy_28 : decode cX2_isRankedBy 28 = .ok (.iaload, 1) := by decide +kernel
theorem dX2_isRankedBy_29 : decode cX2_isRankedBy 29 = .ok (.aload_n 1, 1) := by decide +kernel
theorem dX2_isRankedBy_30 : decode cX2_isRankedBy 30 = .ok (.iload 5, 2) := by decide +kernel
theorem dX2_isRankedBy_32 : decode cX2_isRankedBy 32 = .ok (.iaload, 1) := by decide +kernel
theorem dX2_isRankedBy_33 : decode cX2_isRankedBy 33 = .ok (.if_icmp .eq 5, 3) := by decide +kernel
theorem dX2_isRankedBy_36 : decode cX2_isRankedBy 36 = .ok (.iconst 0, 1) := by decide +kernel
theorem dX2_isRankedBy_37 : decode cX2_isRankedBy 37 = .ok (.ireturn, 1) := by decide +kernel
theorem dX2_isRankedBy_38 : decode cX2_isRankedBy 38 = .ok (.iinc 4 1, 3) := by decide +kernel
theorem dX2_isRankedBy_41 : decode cX2_isRankedBy 41 = .ok (.goto (-31), 3) := by decide +kernel
theorem dX2_isRankedBy_44 : decode cX2_isRankedBy 44 = .ok (.iconst 1, 1) := by decide +kernel
theorem dX2_isRankedBy_45 : decode cX2_isRankedBy 45 = .ok (.ireturn, 1) := by decide +kernel
theorem dX2_improveRanks_0 : decode cX2_improveRanks 0 = .ok (.iconst 0, 1) := by decide +kernel
theorem dX2_improveRanks_1 : decode cX2_improveRanks 1 = .ok (.istore_n 1, 1) := by decide +kernel
theorem dX2_improveRanks_2 : decode cX2_improveRanks 2 = .ok (.iconst 0, 1) := by decide +kernel
theorem dX2_improveRanks_3 : decode cX2_improveRanks 3 = .ok (.istore_n 2, 1) := by decide +kernel
theorem dX2_improveRanks_4 : decode cX2_improveRanks 4 = .ok (.iload_n 2, 1) := by decide +kernel
theorem dX2_improveRanks_5 : decode cX2_improveRanks 5 = .ok (.sipush 192, 3) := by decide +kernel
theorem dX2_improveRanks_8 : decode cX2_improveRanks 8 = .ok (.if_icmp .ge 91, 3) := by decide +kernel
theorem dX2_improveRanks_11 : decode cX2_improveRanks 11 = .ok (.getstatic 63, 3) := by decide +kernel
theorem dX2_improveRanks_14 : decode cX2_improveRanks 14 = .ok (.astore_n 3, 1) := by decide +kernel
theorem dX2_improveRanks_15 : decode cX2_improveRanks 15 = .ok (.aload_n 3, 1) := by decide +kernel
theorem dX2_improveRanks_16 : decode cX2_improveRanks 16 = .ok (.arraylength, 1) := by decide +kernel
theorem dX2_improveRanks_17 : decode cX2_improveRanks 17 = .ok (.istore 4, 2) := by decide +kernel
theorem dX2_improveRanks_19 : decode cX2_improveRanks 19 = .ok (.iconst 0, 1) := by decide +kernel
theorem dX2_improveRanks_20 : decode cX2_improveRanks 20 = .ok (.istore 5, 2) := by decide +kernel
theorem dX2_improveRanks_22 : decode cX2_improveRanks 22 = .ok (.iload 5, 2) := by decide +kernel
theorem dX2_improveRanks_24 : decode cX2_improveRanks 24 = .ok (.iload 4, 2) := by decide +kernel
theorem dX2_improveRanks_26 : decode cX2_improveRanks 26 = .ok (.if_icmp .ge 67, 3) := by decide +kernel
theorem dX2_improveRanks_29 : decode cX2_improveRanks 29 = .ok (.aload_n 3, 1) := by decide +kernel
theorem dX2_improveRanks_30 : decode cX2_improveRanks 30 = .ok (.iload 5, 2) := by decide +kernel
theorem dX2_improveRanks_32 : decode cX2_improveRanks 32 = .ok (.iaload, 1) := by decide +kernel
theorem dX2_improveRanks_33 : decode cX2_improveRanks 33 = .ok (.istore 6, 2) := by decide +kernel
theorem dX2_improveRanks_35 : decode cX2_improveRanks 35 = .ok (.aload_n 0, 1) := by decide +kernel
theorem dX2_improveRanks_36 : decode cX2_improveRanks 36 = .ok (.getfield 15, 3) := by decide +kernel
theorem dX2_improveRanks_39 : decode cX2_improveRanks 39 = .ok (.iload_n 2, 1) := by decide +kernel
theorem dX2_improveRanks_40 : decode cX2_improveRanks 40 = .ok (.bipush 7, 2) := by decide +kernel
theorem dX2_improveRanks_42 : decode cX2_improveRanks 42 = .ok (.imul, 1) := by decide +kernel
theorem dX2_improveRanks_43 : decode cX2_improveRanks 43 = .ok (.iload 6, 2) := by decide +kernel
theorem dX2_improveRanks_45 : decode cX2_improveRanks 45 = .ok (.iadd, 1) := by decide +kernel
theorem dX2_improveRanks_46 : decode cX2_improveRanks 46 = .ok (.iaload, 1) := by decide +kernel
theorem dX2_improveRanks_47 : decode cX2_improveRanks 47 = .ok (.istore 7, 2) := by decide +kernel
theorem dX2_improveRanks_49 : decode cX2_improveRanks 49 = .ok (.aload_n 0, 1) := by decide +kernel
theorem dX2_improveRanks_50 : decode cX2_improveRanks 50 = .ok (.getfield 27, 3) := by decide +kernel
theorem dX2_improveRanks_53 : decode cX2_improveRanks 53 = .ok (.iload_n 2, 1) := by decide +kernel
theorem dX2_improveRanks_54 : decode cX2_improveRanks 54 = .ok (.iaload, 1) := by decide +kernel
theorem dX2_improveRanks_55 : decode cX2_improveRanks 55 = .ok (.aload_n 0, 1) := by decide +kernel
theorem dX2_improveRanks_56 : decode cX2_improveRanks 56 = .ok (.iload 6, 2) := by decide +kernel
theorem dX2_improveRanks_58 : decode cX2_improveRanks 58 = .ok (.invokevirtual 113, 3) := by decide +kernel
theorem dX2_improveRanks_61 : decode cX2_improveRanks 61 = .ok (.iadd, 1) := by decide +kernel
theorem dX2_improveRanks_62 : decode cX2_improveRanks 62 = .ok (.istore 8, 2) := by decide +kernel
theorem dX2_improveRanks_64 : decode cX2_improveRanks 64 = .ok (.iload 8, 2) := by decide +kernel
theorem dX2_improveRanks_66 : decode cX2_improveRanks 66 = .ok (.aload_n 0, 1) := by decide +kernel
theorem dX2_improveRanks_67 : decode cX2_improveRanks 67 = .ok (.getfield 27, 3) := by decide +kernel
theorem dX2_improveRanks_70 : decode cX2_improveRanks 70 = .ok (.iload 7, 2) := by decide +kernel
theorem dX2_improveRanks_72 : decode cX2_improveRanks 72 = .ok (.iaload, 1) := by decide +kernel
theorem dX2_improveRanks_73 : decode cX2_improveRanks 73 = .ok (.if_icmp .ge 14, 3) := by decide +kernel
theorem dX2_improveRanks_76 : decode cX2_improveRanks 76 = .ok (.aload_n 0, 1) := by decide +kernel
theorem dX2_improveRanks_77 : decode cX2_improveRanks 77 = .ok (.getfield 27, 3) := by decide +kernel
theorem dX2_improveRanks_80 : decode cX2_improveRanks 80 = .ok (.iload 7, 2) := by decide +kernel
theorem dX2_improveRanks_82 : decode cX2_improveRanks 82 = .ok (.iload 8, 2) := by decide +kernel
theorem dX2_improveRanks_84 : decode cX2_improveRanks 84 = .ok (.iastore, 1) := by decide +kernel
theorem dX2_improveRanks_85 : decode cX2_improveRanks 85 = .ok (.iconst 1, 1) := by decide +kernel
theorem dX2_improveRanks_86 : decode cX2_improveRanks 86 = .ok (.istore_n 1, 1) := by decide +kernel
theorem dX2_improveRanks_87 : decode cX2_improveRanks 87 = .ok (.iinc 5 1, 3) := by decide +kernel
theorem dX2_improveRanks_90 : decode cX2_improveRanks 90 = .ok (.goto (-68), 3) := by decide +kernel
theorem dX2_improveRanks_93 : decode cX2_improveRanks 93 = .ok (.iinc 2 1, 3) := by decide +kernel
theorem dX2_improveRanks_96 : decode cX2_improveRanks 96 = .ok (.goto (-92), 3) := by decide +kernel
theorem dX2_improveRanks_99 : decode cX2_improveRanks 99 = .ok (.iload_n 1, 1) := by decide +kernel
theorem dX2_improveRanks_100 : decode cX2_improveRanks 100 = .ok (.ireturn, 1) := by decide +kernel
theorem dX2_weightOf_0 : decode cX2_weightOf 0 = .ok (.aload_n 0, 1) := by decide +kernel
theorem dX2_weightOf_1 : decode cX2_weightOf 1 = .ok (.getfield 30, 3) := by decide +kernel
theorem dX2_weightOf_4 : decode cX2_weightOf 4 = .ok (.iload_n 1, 1) := by decide +kernel
theorem dX2_weightOf_5 : decode cX2_weightOf 5 = .ok (.iaload, 1) := by decide +kernel
theorem dX2_weightOf_6 : decode cX2_weightOf 6 = .ok (.sipush 1024, 3) := by decide +kernel
theorem dX2_weightOf_9 : decode cX2_weightOf 9 = .ok (.imul, 1) := by decide +kernel
theorem dX2_weightOf_10 : decode cX2_weightOf 10 = .ok (.iconst 1, 1) := by decide +kernel
theorem dX2_weightOf_11 : decode cX2_weightOf 11 = .ok (.iadd, 1) := by decide +kernel
theorem dX2_weightOf_12 : decode cX2_weightOf 12 = .ok (.ireturn, 1) := by decide +kernel
theorem dX2_costOf_0 : decode cX2_costOf 0 = .ok (.aload_n 0, 1) := by decide +kernel
theorem dX2_costOf_1 : decode cX2_costOf 1 = .ok (.getfield 27, 3) := by decide +kernel
theorem dX2_costOf_4 : decode cX2_costOf 4 = .ok (.iload_n 1, 1) := by decide +kernel
theorem dX2_costOf_5 : decode cX2_costOf 5 = .ok (.iaload, 1) := by decide +kernel
theorem dX2_costOf_6 : decode cX2_costOf 6 = .ok (.sipush 1024, 3) := by decide +kernel
theorem dX2_costOf_9 : decode cX2_costOf 9 = .ok (.idiv, 1) := by decide +kernel
theorem dX2_costOf_10 : decode cX2_costOf 10 = .ok (.ireturn, 1) := by decide +kernel
theorem dX2_lengthOf_0 : decode cX2_lengthOf 0 = .ok (.aload_n 0, 1) := by decide +kernel
theorem dX2_lengthOf_1 : decode cX2_lengthOf 1 = .ok (.getfield 27, 3) := by decide +kernel
theorem dX2_lengthOf_4 : decode cX2_lengthOf 4 = .ok (.iload_n 1, 1) := by decide +kernel
theorem dX2_lengthOf_5 : decode cX2_lengthOf 5 = .ok (.iaload, 1) := by decide +kernel
theorem dX2_lengthOf_6 : decode cX2_lengthOf 6 = .ok (.sipush 1024, 3) := by decide +kernel
theorem dX2_lengthOf_9 : decode cX2_lengthOf 9 = .ok (.irem, 1) := by decide +kernel
theorem dX2_lengthOf_10 : decode cX2_lengthOf 10 = .ok (.ireturn, 1) := by decide +kernel
theorem dX2_gateOf_0 : decode cX2_gateOf 0 = .ok (.iload_n 2, 1) := by decide +kernel
theorem dX2_gateOf_1 : decode cX2_gateOf 1 = .ok (.aload_n 0, 1) := by decide +kernel
theorem dX2_gateOf_2 : decode cX2_gateOf 2 = .ok (.iload_n 1, 1) := by decide +kernel
theorem dX2_gateOf_3 : decode cX2_gateOf 3 = .ok (.invokevirtual 116, 3) := by decide +kernel
theorem dX2_gateOf_6 : decode cX2_gateOf 6 = .ok (.if_icmp .lt 6, 3) := by decide +kernel
theorem dX2_gateOf_9 : decode cX2_gateOf 9 = .ok (.bipush (-2), 2) := by decide +kernel
theorem dX2_gateOf_11 : decode cX2_gateOf 11 = .ok (.ireturn, 1) := by decide +kernel
theorem dX2_gateOf_12 : decode cX2_gateOf 12 = .ok (.iload_n 1, 1) := by decide +kernel
theorem dX2_gateOf_13 : decode cX2_gateOf 13 = .ok (.istore_n 3, 1) := by decide +kernel
theorem dX2_gateOf_14 : decode cX2_gateOf 14 = .ok (.iconst 0, 1) := by decide +kernel
theorem dX2_gateOf_15 : decode cX2_gateOf 15 = .ok (.istore 4, 2) := by decide +kernel
theorem dX2_gateOf_17 : decode cX2_gateOf 17 = .ok (.iload 4, 2) := by decide +kernel
theorem dX2_gateOf_19 : decode cX2_gateOf 19 = .ok (.iload_n 2, 1) := by decide +kernel
theorem dX2_gateOf_20 : decode cX2_gateOf 20 = .ok (.if_icmp .ge 15, 3) := by decide +kernel
theorem dX2_gateOf_23 : decode cX2_gateOf 23 = .ok (.aload_n 0, 1) := by decide +kernel
theorem dX2_gateOf_24 : decode cX2_gateOf 24 = .ok (.iload_n 3, 1) := by decide +kernel
theorem dX2_gateOf_25 : decode cX2_gateOf 25 = .ok (.invokevirtual 119, 3) := by decide +kernel
theorem dX2_gateOf_28 : decode cX2_gateOf 28 = .ok (.istore_n 3, 1) := by decide +kernel
theorem dX2_gateOf_29 : decode cX2_gateOf 29 = .ok (.iinc 4 1, 3) := by decide +kernel
theorem dX2_gateOf_32 : decode cX2_gateOf 32 = .ok (.goto (-15), 3) := by decide +kernel
theorem dX2_gateOf_35 : decode cX2_gateOf 35 = .ok (.aload_n 0, 1) := by decide +kernel
theorem dX2_gateOf_36 : decode cX2_gateOf 36 = .ok (.iload_n 3, 1) := by decide +kernel
theorem dX2_gateOf_37 : decode cX2_gateOf 37 = .ok (.invokevirtual 122, 3) := by decide +kernel
theorem dX2_gateOf_40 : decode cX2_gateOf 40 = .ok (.ireturn, 1) := by decide +kernel
theorem dX2_restOf_0 : decode cX2_restOf 0 = .ok (.aload_n 0, 1) := by decide +kernel
theorem dX2_restOf_1 : decode cX2_restOf 1 = .ok (.iload_n 1, 1) := by decide +kernel
theorem dX2_restOf_2 : decode cX2_restOf 2 = .ok (.invokevirtual 122, 3) := by decide +kernel
theorem dX2_restOf_5 : decode cX2_restOf 5 = .ok (.istore_n 2, 1) := by decide +kernel
theorem dX2_restOf_6 : decode cX2_restOf 6 = .ok (.iload_n 2, 1) := by decide +kernel
theorem dX2_restOf_7 : decode cX2_restOf 7 = .ok (.ifCond .ge 7, 3) := by decide +kernel
theorem dX2_restOf_10 : decode cX2_restOf 10 = .ok (.iload_n 1, 1) := by decide +kernel
theorem dX2_restOf_11 : decode cX2_restOf 11 = .ok (.goto 14, 3) := by decide +kernel
theorem dX2_restOf_14 : decode cX2_restOf 14 = .ok (.aload_n 0, 1) := by decide +kernel
theorem dX2_restOf_15 : decode cX2_restOf 15 = .ok (.getfield 18, 3) := by decide +kernel
theorem dX2_restOf_18 : decode cX2_restOf 18 = .ok (.iload_n 1, 1) := by decide +kernel
theorem dX2_restOf_19 : decode cX2_restOf 19 = .ok (.bipush 7, 2) := by decide +kernel
theorem dX2_restOf_21 : decode cX2_restOf 21 = .ok (.imul, 1) := by decide +kernel
theorem dX2_restOf_22 : decode cX2_restOf 22 = .ok (.iload_n 2, 1) := by decide +kernel
theorem dX2_restOf_23 : decode cX2_restOf 23 = .ok (.iadd, 1) := by decide +kernel
theorem dX2_restOf_24 : decode cX2_restOf 24 = .ok (.iaload, 1) := by decide +kernel
theorem dX2_restOf_25 : decode cX2_restOf 25 = .ok (.ireturn, 1) := by decide +kernel
theorem dX2_firstGateOf_0 : decode cX2_firstGateOf 0 = .ok (.getstatic 63, 3) := by decide +kernel
theorem dX2_firstGateOf_3 : decode cX2_firstGateOf 3 = .ok (.astore_n 2, 1) := by decide +kernel
theorem dX2_firstGateOf_4 : decode cX2_firstGateOf 4 = .ok (.aload_n 2, 1) := by decide +kernel
theorem dX2_firstGateOf_5 : decode cX2_firstGateOf 5 = .ok (.arraylength, 1) := by decide +kernel
theorem dX2_firstGateOf_6 : decode cX2_firstGateOf 6 = .ok (.istore_n 3, 1) := by decide +kernel
theorem dX2_firstGateOf_7 : decode cX2_firstGateOf 7 = .ok (.iconst 0, 1) := by decide +kernel
theorem dX2_firstGateOf_8 : decode cX2_firstGateOf 8 = .ok (.istore 4, 2) := by decide +kernel
theorem dX2_firstGateOf_10 : decode cX2_firstGateOf 10 = .ok (.iload 4, 2) := by decide +kernel
theorem dX2_firstGateOf_12 : decode cX2_firstGateOf 12 = .ok (.iload_n 3, 1) := by decide +kernel
theorem dX2_firstGateOf_13 : decode cX2_firstGateOf 13 = .ok (.if_icmp .ge 51, 3) := by decide +kernel
theorem dX2_firstGateOf_16 : decode cX2_firstGateOf 16 = .ok (.aload_n 2, 1) := by decide +kernel
theorem dX2_firstGateOf_17 : decode cX2_firstGateOf 17 = .ok (.iload 4, 2) := by decide +kernel
theorem dX2_firstGateOf_19 : decode cX2_firstGateOf 19 = .ok (.iaload, 1) := by decide +kernel
theorem dX2_firstGateOf_20 : decode cX2_firstGateOf 20 = .ok (.istore 5, 2) := by decide +kernel
theorem dX2_firstGateOf_22 : decode cX2_firstGateOf 22 = .ok (.aload_n 0, 1) := by decide +kernel
theorem dX2_firstGateOf_23 : decode cX2_firstGateOf 23 = .ok (.getfield 27, 3) := by decide +kernel
theorem dX2_firstGateOf_26 : decode cX2_firstGateOf 26 = .ok (.aload_n 0, 1) := by decide +kernel
theorem dX2_firstGateOf_27 : decode cX2_firstGateOf 27 = .ok (.getfield 18, 3) := by decide +kernel
theorem dX2_firstGateOf_30 : decode cX2_firstGateOf 30 = .ok (.iload_n 1, 1) := by decide +kernel
theorem dX2_firstGateOf_31 : decode cX2_firstGateOf 31 = .ok (.bipush 7, 2) := by decide +kernel
theorem dX2_firstGateOf_33 : decode cX2_firstGateOf 33 = .ok (.imul, 1) := by decide +kernel
theorem dX2_firstGateOf_34 : decode cX2_firstGateOf 34 = .ok (.iload 5, 2) := by decide +kernel
theorem dX2_firstGateOf_36 : decode cX2_firstGateOf 36 = .ok (.iadd, 1) := by decide +kernel
theorem dX2_firstGateOf_37 : decode cX2_firstGateOf 37 = .ok (.iaload, 1) := by decide +kernel
theorem dX2_firstGateOf_38 : decode cX2_firstGateOf 38 = .ok (.iaload, 1) := by decide +kernel
theorem dX2_firstGateOf_39 : decode cX2_firstGateOf 39 = .ok (.aload_n 0, 1) := by decide +kernel
theorem dX2_firstGateOf_40 : decode cX2_firstGateOf 40 = .ok (.iload 5, 2) := by decide +kernel
theorem dX2_firstGateOf_42 : decode cX2_firstGateOf 42 = .ok (.invokevirtual 113, 3) := by decide +kernel
theorem dX2_firstGateOf_45 : decode cX2_firstGateOf 45 = .ok (.iadd, 1) := by decide +kernel
theorem dX2_firstGateOf_46 : decode cX2_firstGateOf 46 = .ok (.aload_n 0, 1) := by decide +kernel
theorem dX2_firstGateOf_47 : decode cX2_firstGateOf 47 = .ok (.getfield 27, 3) := by decide +kernel
theorem dX2_firstGateOf_50 : decode cX2_firstGateOf 50 = .ok (.iload_n 1, 1) := by decide +kernel
theorem dX2_firstGateOf_51 : decode cX2_firstGateOf 51 = .ok (.iaload, 1) := by decide +kernel
theorem dX2_firstGateOf_52 : decode cX2_firstGateOf 52 = .ok (.if_icmp .ne 6, 3) := by decide +kernel
theorem dX2_firstGateOf_55 : decode cX2_firstGateOf 55 = .ok (.iload 5, 2) := by decide +kernel
theorem dX2_firstGateOf_57 : decode cX2_firstGateOf 57 = .ok (.ireturn, 1) := by decide +kernel
theorem dX2_firstGateOf_58 : decode cX2_firstGateOf 58 = .ok (.iinc 4 1, 3) := by decide +kernel
theorem dX2_firstGateOf_61 : decode cX2_firstGateOf 61 = .ok (.goto (-51), 3) := by decide +kernel
theorem dX2_firstGateOf_64 : decode cX2_firstGateOf 64 = .ok (.bipush (-2), 2) := by decide +kernel
theorem dX2_firstGateOf_66 : decode cX2_firstGateOf 66 = .ok (.ireturn, 1) := by decide +kernel
theorem dX3_init_0 : decode cX3_init 0 = .ok (.aload_n 0, 1) := by decide +kernel
theorem dX3_init_1 : decode cX3_init 1 = .ok (.invokespecial 3, 3) := by decide +kernel
theorem dX3_init_4 : decode cX3_init 4 = .ok (.aload_n 0, 1) := by decide +kernel
theorem dX3_init_5 : decode cX3_init 5 = .ok (.bipush 8, 2) := by decide +kernel
theorem dX3_init_7 : decode cX3_init 7 = .ok (.anewarray 9, 3) := by decide +kernel
theorem dX3_init_10 : decode cX3_init 10 = .ok (.putfield 11, 3) := by decide +kernel
theorem dX3_init_13 : decode cX3_init 13 = .ok (.aload_n 0, 1) := by decide +kernel
theorem dX3_init_14 : decode cX3_init 14 = .ok (.bipush 8, 2) := by decide +kernel
theorem dX3_init_16 : decode cX3_init 16 = .ok (.newarray .int, 2) := by decide +kernel
theorem dX3_init_18 : decode cX3_init 18 = .ok (.putfield 17, 3) := by decide +kernel
theorem dX3_init_21 : decode cX3_init 21 = .ok (.aload_n 0, 1) := by decide +kernel
theorem dX3_init_22 : decode cX3_init 22 = .ok (.iconst 0, 1) := by decide +kernel
theorem dX3_init_23 : decode cX3_init 23 = .ok (.putfield 21, 3) := by decide +kernel
theorem dX3_init_26 : decode cX3_init 26 = .ok (.aload_n 0, 1) := by decide +kernel
theorem dX3_init_27 : decode cX3_init 27 = .ok (.iconst 0, 1) := by decide +kernel
theorem dX3_init_28 : decode cX3_init 28 = .ok (.putfield 25, 3) := by decide +kernel
theorem dX3_init_31 : decode cX3_init 31 = .ok (.iconst 0, 1) := by decide +kernel
theorem dX3_init_32 : decode cX3_init 32 = .ok (.istore_n 1, 1) := by decide +kernel
theorem dX3_init_33 : decode cX3_init 33 = .ok (.iload_n 1, 1) := by decide +kernel
theorem dX3_init_34 : decode cX3_init 34 = .ok (.bipush 8, 2) := by decide +kernel
theorem dX3_init_36 : decode cX3_init 36 = .ok (.if_icmp .ge 22, 3) := by decide +kernel
theorem dX3_init_39 : decode cX3_init 39 = .ok (.aload_n 0, 1) := by decide +kernel
theorem dX3_init_40 : decode cX3_init 40 = .ok (.getfield 11, 3) := by decide +kernel
theorem dX3_init_43 : decode cX3_init 43 = .ok (.iload_n 1, 1) := by decide +kernel
theorem dX3_init_44 : decode cX3_init 44 = .ok (.new 9, 3) := by decide +kernel
theorem dX3_init_47 : decode cX3_init 47 = .ok (.dup, 1) := by decide +kernel
theorem dX3_init_48 : decode cX3_init 48 = .ok (.invokespecial 28, 3) := by decide +kernel
theorem dX3_init_51 : decode cX3_init 51 = .ok (.aastore, 1) := by decide +kernel
theorem dX3_init_52 : decode cX3_init 52 = .ok (.iinc 1 1, 3) := by decide +kernel
theorem dX3_init_55 : decode cX3_init 55 = .ok (.goto (-22), 3) := by decide +kernel
theorem dX3_init_58 : decode cX3_init 58 = .ok (.return_, 1) := by decide +kernel
theorem dX3_keep_0 : decode cX3_keep 0 = .ok (.aload_n 0, 1) := by decide +kernel
theorem dX3_keep_1 : decode cX3_keep 1 = .ok (.getfield 11, 3) := by decide +kernel
theorem dX3_keep_4 : decode cX3_keep 4 = .ok (.aload_n 0, 1) := by decide +kernel
theorem dX3_keep_5 : decode cX3_keep 5 = .ok (.getfield 21, 3) := by decide +kernel
theorem dX3_keep_8 : decode cX3_keep 8 = .ok (.aaload, 1) := by decide +kernel
theorem dX3_keep_9 : decode cX3_keep 9 = .ok (.aload_n 2, 1) := by decide +kernel
theorem dX3_keep_10 : decode cX3_keep 10 = .ok (.invokevirtual 29, 3) := by decide +kernel
theorem dX3_keep_13 : decode cX3_keep 13 = .ok (.aload_n 0, 1) := by decide +kernel
theorem dX3_keep_14 : decode cX3_keep 14 = .ok (.getfield 17, 3) := by decide +kernel
theorem dX3_keep_17 : decode cX3_keep 17 = .ok (.aload_n 0, 1) := by decide +kernel
theorem dX3_keep_18 : decode cX3_keep 18 = .ok (.getfield 21, 3) := by decide +kernel
theorem dX3_keep_21 : decode cX3_keep 21 = .ok (.iload_n 1, 1) := by decide +kernel
theorem dX3_keep_22 : decode cX3_keep 22 = .ok (.iastore, 1) := by decide +kernel
theorem dX3_keep_23 : decode cX3_keep 23 = .ok (.aload_n 0, 1) := by decide +kernel
theorem dX3_keep_24 : decode cX3_keep 24 = .ok (.aload_n 0, 1) := by decide +kernel
theorem dX3_keep_25 : decode cX3_keep 25 = .ok (.getfield 21, 3) := by decide +kernel
theorem dX3_keep_28 : decode cX3_keep 28 = .ok (.iconst 1, 1) := by decide +kernel
theorem dX3_keep_29 : decode cX3_keep 29 = .ok (.iadd, 1) := by decide +kernel
theorem dX3_keep_30 : decode cX3_keep 30 = .ok (.bipush 8, 2) := by decide +kernel
theorem dX3_keep_32 : decode cX3_keep 32 = .ok (.irem, 1) := by decide +kernel
theorem dX3_keep_33 : decode cX3_keep 33 = .ok (.putfield 21, 3) := by decide +kernel
theorem dX3_keep_36 : decode cX3_keep 36 = .ok (.aload_n 0, 1) := by decide +kernel
theorem dX3_keep_37 : decode cX3_keep 37 = .ok (.aload_n 0, 1) := by decide +kernel
theorem dX3_keep_38 : decode cX3_keep 38 = .ok (.getfield 25, 3) := by decide +kernel
theorem dX3_keep_41 : decode cX3_keep 41 = .ok (.iconst 1, 1) := by decide +kernel
theorem dX3_keep_42 : decode cX3_keep 42 = .ok (.iadd, 1) := by decide +kernel
theorem dX3_keep_43 : decode cX3_keep 43 = .ok (.bipush 8, 2) := by decide +kernel
theorem dX3_keep_45 : decode cX3_keep 45 = .ok (.invokestatic 33, 3) := by decide +kernel
theorem dX3_keep_48 : decode cX3_keep 48 = .ok (.putfield 25, 3) := by decide +kernel
theorem dX3_keep_51 : decode cX3_keep 51 = .ok (.return_, 1) := by decide +kernel
theorem dX3_giveBack_0 : decode cX3_giveBack 0 = .ok (.aload_n 0, 1) := by decide +kernel
theorem dX3_giveBack_1 : decode cX3_giveBack 1 = .ok (.getfield 25, 3) := by decide +kernel
theorem dX3_giveBack_4 : decode cX3_giveBack 4 = .ok (.ifCond .ne 4, 3) := by decide +kernel
theorem dX3_giveBack_7 : decode cX3_giveBack 7 = .ok (.return_, 1) := by decide +kernel
theorem dX3_giveBack_8 : decode cX3_giveBack 8 = .ok (.aload_n 0, 1) := by decide +kernel
theorem dX3_giveBack_9 : decode cX3_giveBack 9 = .ok (.aload_n 0, 1) := by decide +kernel
theorem dX3_giveBack_10 : decode cX3_giveBack 10 = .ok (.getfield 21, 3) := by decide +kernel
theorem dX3_giveBack_13 : decode cX3_giveBack 13 = .ok (.bipush 8, 2) := by decide +kernel
theorem dX3_giveBack_15 : decode cX3_giveBack 15 = .ok (.iadd, 1) := by decide +kernel
theorem dX3_giveBack_16 : decode cX3_giveBack 16 = .ok (.iconst 1, 1) := by decide +kernel
theorem dX3_giveBack_17 : decode cX3_giveBack 17 = .ok (.isub, 1) := by decide +kernel
theorem dX3_giveBack_18 : decode cX3_giveBack 18 = .ok (.bipush 8, 2) := by decide +kernel
theorem dX3_giveBack_20 : decode cX3_giveBack 20 = .ok (.irem, 1) := by decide +kernel
theorem dX3_giveBack_21 : decode cX3_giveBack 21 = .ok (.putfield 21, 3) := by decide +kernel
theorem dX3_giveBack_24 : decode cX3_giveBack 24 = .ok (.aload_n 0, 1) := by decide +kernel
theorem dX3_giveBack_25 : decode cX3_giveBack 25 = .ok (.dup, 1) := by decide +kernel
theorem dX3_giveBack_26 : decode cX3_giveBack 26 = .ok (.getfield 25, 3) := by decide +kernel
theorem dX3_giveBack_29 : decode cX3_giveBack 29 = .ok (.iconst 1, 1) := by decide +kernel
theorem dX3_giveBack_30 : decode cX3_giveBack 30 = .ok (.isub, 1) := by decide +kernel
theorem dX3_giveBack_31 : decode cX3_giveBack 31 = .ok (.putfield 25, 3) := by decide +kernel
theorem dX3_giveBack_34 : decode cX3_giveBack 34 = .ok (.aload_n 1, 1) := by decide +kernel
theorem dX3_giveBack_35 : decode cX3_giveBack 35 = .ok (.aload_n 0, 1) := by decide +kernel
theorem dX3_giveBack_36 : decode cX3_giveBack 36 = .ok (.getfield 17, 3) := by decide +kernel
theorem dX3_giveBack_39 : decode cX3_giveBack 39 = .ok (.aload_n 0, 1) := by decide +kernel
theorem dX3_giveBack_40 : decode cX3_giveBack 40 = .ok (.getfield 21, 3) := by decide +kernel
theorem dX3_giveBack_43 : decode cX3_giveBack 43 = .ok (.iaload, 1) := by decide +kernel
theorem dX3_giveBack_44 : decode cX3_giveBack 44 = .ok (.aaload, 1) := by decide +kernel
theorem dX3_giveBack_45 : decode cX3_giveBack 45 = .ok (.aload_n 0, 1) := by decide +kernel
theorem dX3_giveBack_46 : decode cX3_giveBack 46 = .ok (.getfield 11, 3) := by decide +kernel
theorem dX3_giveBack_49 : decode cX3_giveBack 49 = .ok (.aload_n 0, 1) := by decide +kernel
theorem dX3_giveBack_50 : decode cX3_giveBack 50 = .ok (.getfield 21, 3) := by decide +kernel
theorem dX3_giveBack_53 : decode cX3_giveBack 53 = .ok (.aaload, 1) := by decide +kernel
theorem dX3_giveBack_54 : decode cX3_giveBack 54 = .ok (.invokevirtual 29, 3) := by decide +kernel
theorem dX3_giveBack_57 : decode cX3_giveBack 57 = .ok (.return_, 1) := by decide +kernel
theorem dX4_init_0 : decode cX4_init 0 = .ok (.aload_n 0, 1) := by decide +kernel
theorem dX4_init_1 : decode cX4_init 1 = .ok (.invokespecial 3, 3) := by decide +kernel
theorem dX4_init_4 : decode cX4_init 4 = .ok (.aload_n 0, 1) := by decide +kernel
theorem dX4_init_5 : decode cX4_init 5 = .ok (.new 9, 3) := by decide +kernel
theorem dX4_init_8 : decode cX4_init 8 = .ok (.dup, 1) := by decide +kernel
theorem dX4_init_9 : decode cX4_init 9 = .ok (.invokespecial 11, 3) := by decide +kernel
theorem dX4_init_12 : decode cX4_init 12 = .ok (.putfield 12, 3) := by decide +kernel
theorem dX4_init_15 : decode cX4_init 15 = .ok (.aload_n 0, 1) := by decide +kernel
theorem dX4_init_16 : decode cX4_init 16 = .ok (.new 9, 3) := by decide +kernel
theorem dX4_init_19 : decode cX4_init 19 = .ok (.dup, 1) := by decide +kernel
theorem dX4_init_20 : decode cX4_init 20 = .ok (.invokespecial 11, 3) := by decide +kernel
theorem dX4_init_23 : decode cX4_init 23 = .ok (.putfield 18, 3) := by decide +kernel
theorem dX4_init_26 : decode cX4_init 26 = .ok (.aload_n 0, 1) := by decide +kernel
theorem dX4_init_27 : decode cX4_init 27 = .ok (.new 21, 3) := by decide +kernel
theorem dX4_init_30 : decode cX4_init 30 = .ok (.dup, 1) := by decide +kernel
theorem dX4_init_31 : decode cX4_init 31 = .ok (.invokespecial 23, 3) := by decide +kernel
theorem dX4_init_34 : decode cX4_init 34 = .ok (.putfield 24, 3) := by decide +kernel
theorem dX4_init_37 : decode cX4_init 37 = .ok (.return_, 1) := by decide +kernel
theorem dX4_form_0 : decode cX4_form 0 = .ok (.aload_n 3, 1) := by decide +kernel
theorem dX4_form_1 : decode cX4_form 1 = .ok (.iconst 0, 1) := by decide +kernel
theorem dX4_form_2 : decode cX4_form 2 = .ok (.putfield 28, 3) := by decide +kernel
theorem dX4_form_5 : decode cX4_form 5 = .ok (.aload_n 0, 1) := by decide +kernel
theorem dX4_form_6 : decode cX4_form 6 = .ok (.getfield 12, 3) := by decide +kernel
theorem dX4_form_9 : decode cX4_form 9 = .ok (.aload_n 1, 1) := by decide +kernel
theorem dX4_form_10 : decode cX4_form 10 = .ok (.invokevirtual 34, 3) := by decide +kernel
theorem dX4_form_13 : decode cX4_form 13 = .ok (.aload_n 0, 1) := by decide +kernel
theorem dX4_form_14 : decode cX4_form 14 = .ok (.getfield 24, 3) := by decide +kernel
theorem dX4_form_17 : decode cX4_form 17 = .ok (.aload_n 0, 1) := by decide +kernel
theorem dX4_form_18 : decode cX4_form 18 = .ok (.getfield 12, 3) := by decide +kernel
theorem dX4_form_21 : decode cX4_form 21 = .ok (.invokevirtual 38, 3) := by decide +kernel
theorem dX4_form_24 : decode cX4_form 24 = .ok (.aload_n 0, 1) := by decide +kernel
theorem dX4_form_25 : decode cX4_form 25 = .ok (.getfield 24, 3) := by decide +kernel
theorem dX4_form_28 : decode cX4_form 28 = .ok (.getfield 41, 3) := by decide +kernel
theorem dX4_form_31 : decode cX4_form 31 = .ok (.istore 4, 2) := by decide +kernel
theorem dX4_form_33 : decode cX4_form 33 = .ok (.iconst 0, 1) := by decide +kernel
theorem dX4_form_34 : decode cX4_form 34 = .ok (.istore 5, 2) := by decide +kernel
theorem dX4_form_36 : decode cX4_form 36 = .ok (.iload 5, 2) := by decide +kernel
theorem dX4_form_38 : decode cX4_form 38 = .ok (.bipush 60, 2) := by decide +kernel
theorem dX4_form_40 : decode cX4_form 40 = .ok (.if_icmp .ge 52, 3) := by decide +kernel
theorem dX4_form_43 : decode cX4_form 43 = .ok (.iload 4, 2) := by decide +kernel
theorem dX4_form_45 : decode cX4_form 45 = .ok (.ifCond .le 47, 3) := by decide +kernel
theorem dX4_form_48 : decode cX4_form 48 = .ok (.aload_n 0, 1) := by decide +kernel
theorem dX4_form_49 : decode cX4_form 49 = .ok (.iload 4, 2) := by decide +kernel
theorem dX4_form_51 : decode cX4_form 51 = .ok (.invokevirtual 44, 3) := by decide +kernel
theorem dX4_form_54 : decode cX4_form 54 = .ok (.istore 6, 2) := by decide +kernel
theorem dX4_form_56 : decode cX4_form 56 = .ok (.iload 6, 2) := by decide +kernel
theorem dX4_form_58 : decode cX4_form 58 = .ok (.ifCond .lt 12, 3) := by decide +kernel
theorem dX4_form_61 : decode cX4_form 61 = .ok (.aload_n 3, 1) := by decide +kernel
theorem dX4_form_62 : decode cX4_form 62 = .ok (.iload 6, 2) := by decide +kernel
theorem dX4_form_64 : decode cX4_form 64 = .ok (.invokestatic 48, 3) := by decide +kernel
theorem dX4_form_67 : decode cX4_form 67 = .ok (.ifCond .ne 5, 3) := by decide +kernel
theorem dX4_form_70 : decode cX4_form 70 = .ok (.iconst 0, 1) := by decide +kernel
theorem dX4_form_71 : decode cX4_form 71 = .ok (.ireturn, 1) := by decide +kernel
theorem dX4_form_72 : decode cX4_form 72 = .ok (.aload_n 0, 1) := by decide +kernel
theorem dX4_form_73 : decode cX4_form 73 = .ok (.getfield 12, 3) := by decide +kernel
theorem dX4_form_76 : decode cX4_form 76 = .ok (.aload_n 0, 1) := by decide +kernel
theorem dX4_form_77 : decode cX4_form 77 = .ok (.getfield 18, 3) := by decide +kernel
theorem dX4_form_80 : decode cX4_form 80 = .ok (.invokevirtual 34, 3) := by decide +kernel
theorem dX4_form_83 : decode cX4_form 83 = .ok (.iinc 4 (-1), 3) := by decide +kernel
theorem dX4_form_86 : decode cX4_form 86 = .ok (.iinc 5 1, 3) := by decide +kernel
theorem dX4_form_89 : decode cX4_form 89 = .ok (.goto (-53), 3) := by decide +kernel
theorem dX4_form_92 : decode cX4_form 92 = .ok (.iload 4, 2) := by decide +kernel
theorem dX4_form_94 : decode cX4_form 94 = .ok (.ifCond .ne 16, 3) := by decide +kernel
theorem dX4_form_97 : decode cX4_form 97 = .ok (.aload_n 0, 1) := by decide +kernel
theorem dX4_form_98 : decode cX4_form 98 = .ok (.aload_n 3, 1) := by decide +kernel
theorem dX4_form_99 : decode cX4_form 99 = .ok (.aload_n 2, 1) := by decide +kernel
theorem dX4_form_100 : decode cX4_form 100 = .ok (.invokevirtual 52, 3) := by decide +kernel
theorem dX4_form_103 : decode cX4_form 103 = .ok (.ifCond .eq 7, 3) := by decide +kernel
theorem dX4_form_106 : decode cX4_form 106 = .ok (.iconst 1, 1) := by decide +kernel
theorem dX4_form_107 : decode cX4_form 107 = .ok (.goto 4, 3) := by decide +kernel
theorem dX4_form_110 : decode cX4_form 110 = .ok (.iconst 0, 1) := by decide +kernel
theorem dX4_form_111 : decode cX4_form 111 = .ok (.ireturn, 1) := by decide +kernel
theorem dX4_findSyllable_0 : decode cX4_findSyllable 0 = .ok (.iconst 0, 1) := by decide +kernel
theorem dX4_findSyllable_1 : decode cX4_findSyllable 1 = .ok (.istore_n 2, 1) := by decide +kernel
theorem dX4_findSyllable_2 : decode cX4_findSyllable 2 = .ok (.iload_n 2, 1) := by decide +kernel
theorem dX4_findSyllable_3 : decode cX4_findSyllable 3 = .ok (.iconst 3, 1) := by decide +kernel
theorem dX4_findSyllable_4 : decode cX4_findSyllable 4 = .ok (.if_icmp .ge 51, 3) := by decide +kernel
theorem dX4_findSyllable_7 : decode cX4_findSyllable 7 = .ok (.aload_n 0, 1) := by decide +kernel
theorem dX4_findSyllable_8 : decode cX4_findSyllable 8 = .ok (.getfield 18, 3) := by decide +kernel
theorem dX4_findSyllable_11 : decode cX4_findSyllable 11 = .ok (.aload_n 0, 1) := by decide +kernel
theorem dX4_findSyllable_12 : decode cX4_findSyllable 12 = .ok (.getfield 12, 3) := by decide +kernel
theorem dX4_findSyllable_15 : decode cX4_findSyllable 15 = .ok (.invokevirtual 34, 3) := by decide +kernel
theorem dX4_findSyllable_18 : decode cX4_findSyllable 18 = .ok (.aload_n 0, 1) := by decide +kernel
theorem dX4_findSyllable_19 : decode cX4_findSyllable 19 = .ok (.iload_n 2, 1) := by decide +kernel
theorem dX4_findSyllable_20 : decode cX4_findSyllable 20 = .ok (.invokevirtual 56, 3) := by decide +kernel
theorem dX4_findSyllable_23 : decode cX4_findSyllable 23 = .ok (.aload_n 0, 1) := by decide +kernel
theorem dX4_findSyllable_24 : decode cX4_findSyllable 24 = .ok (.getfield 24, 3) := by decide +kernel
theorem dX4_findSyllable_27 : decode cX4_findSyllable 27 = .ok (.aload_n 0, 1) := by decide +kernel
theorem dX4_findSyllable_28 : decode cX4_findSyllable 28 = .ok (.getfield 18, 3) := by decide +kernel
theorem dX4_findSyllable_31 : decode cX4_findSyllable 31 = .ok (.invokevirtual 38, 3) := by decide +kernel
theorem dX4_findSyllable_34 : decode cX4_findSyllable 34 = .ok (.aload_n 0, 1) := by decide +kernel
theorem dX4_findSyllable_35 : decode cX4_findSyllable 35 = .ok (.getfield 24, 3) := by decide +kernel
theorem dX4_findSyllable_38 : decode cX4_findSyllable 38 = .ok (.getfield 41, 3) := by decide +kernel
theorem dX4_findSyllable_41 : decode cX4_findSyllable 41 = .ok (.iload_n 1, 1) := by decide +kernel
theorem dX4_findSyllable_42 : decode cX4_findSyllable 42 = .ok (.iconst 1, 1) := by decide +kernel
theorem dX4_findSyllable_43 : decode cX4_findSyllable 43 = .ok (.isub, 1) := by decide +kernel
theorem dX4_findSyllable_44 : decode cX4_findSyllable 44 = .ok (.if_icmp .ne 5, 3) := by decide +kernel
theorem dX4_findSyllable_47 : decode cX4_findSyllable 47 = .ok (.iload_n 2, 1) := by decide +kernel
theorem dX4_findSyllable_48 : decode cX4_findSyllable 48 = .ok (.ireturn, 1) := by decide +kernel
theorem dX4_findSyllable_49 : decode cX4_findSyllable 49 = .ok (.iinc 2 1, 3) := by decide +kernel
theorem dX4_findSyllable_52 : decode cX4_findSyllable 52 = .ok (.goto (-50), 3) := by decide +kernel
theorem dX4_findSyllable_55 : decode cX4_findSyllable 55 = .ok (.bipush (-2), 2) := by decide +kernel
theorem dX4_findSyllable_57 : decode cX4_findSyllable 57 = .ok (.ireturn, 1) := by decide +kernel
theorem dX4_takeAway_0 : decode cX4_takeAway 0 = .ok (.iload_n 1, 1) := by decide +kernel
theorem dX4_takeAway_1 : decode cX4_takeAway 1 = .ok (.iconst 2, 1) := by decide +kernel
theorem dX4_takeAway_2 : decode cX4_takeAway 2 = .ok (.if_icmp .ne 19, 3) := by decide +kernel
theorem dX4_takeAway_5 : decode cX4_takeAway 5 = .ok (.aload_n 0, 1) := by decide +kernel
theorem dX4_takeAway_6 : decode cX4_takeAway 6 = .ok (.getfield 18, 3) := by decide +kernel
theorem dX4_takeAway_9 : decode cX4_takeAway 9 = .ok (.iconst 2, 1) := by decide +kernel
theorem dX4_takeAway_10 : decode cX4_takeAway 10 = .ok (.invokevirtual 60, 3) := by decide +kernel
theorem dX4_takeAway_13 : decode cX4_takeAway 13 = .ok (.aload_n 0, 1) := by decide +kernel
theorem dX4_takeAway_14 : decode cX4_takeAway 14 = .ok (.getfield 18, 3) := by decide +kernel
theorem dX4_takeAway_17 : decode cX4_takeAway 17 = .ok (.iconst 4, 1) := by decide +kernel
theorem dX4_takeAway_18 : decode cX4_takeAway 18 = .ok (.invokevirtual 60, 3) := by decide +kernel
theorem dX4_takeAway_21 : decode cX4_takeAway 21 = .ok (.iload_n 1, 1) := by decide +kernel
theorem dX4_takeAway_22 : decode cX4_takeAway 22 = .ok (.iconst 1, 1) := by decide +kernel
theorem dX4_takeAway_23 : decode cX4_takeAway 23 = .ok (.if_icmp .lt 11, 3) := by decide +kernel
theorem dX4_takeAway_26 : decode cX4_takeAway 26 = .ok (.aload_n 0, 1) := by decide +kernel
theorem dX4_takeAway_27 : decode cX4_takeAway 27 = .ok (.getfield 18, 3) := by decide +kernel
theorem dX4_takeAway_30 : decode cX4_takeAway 30 = .ok (.iconst 0, 1) := by decide +kernel
theorem dX4_takeAway_31 : decode cX4_takeAway 31 = .ok (.invokevirtual 60, 3) := by decide +kernel
theorem dX4_takeAway_34 : decode cX4_takeAway 34 = .ok (.aload_n 0, 1) := by decide +kernel
theorem dX4_takeAway_35 : decode cX4_takeAway 35 = .ok (.getfield 18, 3) := by decide +kernel
theorem dX4_takeAway_38 : decode cX4_takeAway 38 = .ok (.bipush 6, 2) := by decide +kernel
theorem dX4_takeAway_40 : decode cX4_takeAway 40 = .ok (.invokevirtual 60, 3) := by decide +kernel
theorem dX4_takeAway_43 : decode cX4_takeAway 43 = .ok (.return_, 1) := by decide +kernel
theorem dX4_addSyllable_0 : decode cX4_addSyllable 0 = .ok (.iload_n 1, 1) := by decide +kernel
theorem dX4_addSyllable_1 : decode cX4_addSyllable 1 = .ok (.iconst 2, 1) := by decide +kernel
theorem dX4_addSyllable_2 : decode cX4_addSyllable 2 = .ok (.if_icmp .lt 11, 3) := by decide +kernel
theorem dX4_addSyllable_5 : decode cX4_addSyllable 5 = .ok (.aload_n 0, 1) := by decide +kernel
theorem dX4_addSyllable_6 : decode cX4_addSyllable 6 = .ok (.iconst 2, 1) := by decide +kernel
theorem dX4_addSyllable_7 : decode cX4_addSyllable 7 = .ok (.invokevirtual 63, 3) := by decide +kernel
theorem dX4_addSyllable_10 : decode cX4_addSyllable 10 = .ok (.ifCond .eq 7, 3) := by decide +kernel
theorem dX4_addSyllable_13 : decode cX4_addSyllable 13 = .ok (.iconst 1, 1) := by decide +kernel
theorem dX4_addSyllable_14 : decode cX4_addSyllable 14 = .ok (.goto 4, 3) := by decide +kernel
theorem dX4_addSyllable_17 : decode cX4_addSyllable 17 = .ok (.iconst 0, 1) := by decide +kernel
theorem dX4_addSyllable_18 : decode cX4_addSyllable 18 = .ok (.istore_n 2, 1) := by decide +kernel
theorem dX4_addSyllable_19 : decode cX4_addSyllable 19 = .ok (.iload_n 2, 1) := by decide +kernel
theorem dX4_addSyllable_20 : decode cX4_addSyllable 20 = .ok (.ifCond .eq 20, 3) := by decide +kernel
theorem dX4_addSyllable_23 : decode cX4_addSyllable 23 = .ok (.iload_n 1, 1) := by decide +kernel
theorem dX4_addSyllable_24 : decode cX4_addSyllable 24 = .ok (.iconst 1, 1) := by decide +kernel
theorem dX4_addSyllable_25 : decode cX4_addSyllable 25 = .ok (.if_icmp .lt 11, 3) := by decide +kernel
theorem dX4_addSyllable_28 : decode cX4_addSyllable 28 = .ok (.aload_n 0, 1) := by decide +kernel
theorem dX4_addSyllable_29 : decode cX4_addSyllable 29 = .ok (.iconst 0, 1) := by decide +kernel
theorem dX4_addSyllable_30 : decode cX4_addSyllable 30 = .ok (.invokevirtual 63, 3) := by decide +kernel
theorem dX4_addSyllable_33 : decode cX4_addSyllable 33 = .ok (.ifCond .eq 7, 3) := by decide +kernel
theorem dX4_addSyllable_36 : decode cX4_addSyllable 36 = .ok (.iconst 1, 1) := by decide +kernel
theorem dX4_addSyllable_37 : decode cX4_addSyllable 37 = .ok (.goto 4, 3) := by decide +kernel
theorem dX4_addSyllable_40 : decode cX4_addSyllable 40 = .ok (.iconst 0, 1) := by decide +kernel
theorem dX4_addSyllable_41 : decode cX4_addSyllable 41 = .ok (.istore_n 2, 1) := by decide +kernel
theorem dX4_addSyllable_42 : decode cX4_addSyllable 42 = .ok (.iload_n 2, 1) := by decide +kernel
theorem dX4_addSyllable_43 : decode cX4_addSyllable 43 = .ok (.ifCond .eq 15, 3) := by decide +kernel
theorem dX4_addSyllable_46 : decode cX4_addSyllable 46 = .ok (.aload_n 0, 1) := by decide +kernel
theorem dX4_addSyllable_47 : decode cX4_addSyllable 47 = .ok (.iconst 1, 1) := by decide +kernel
theorem dX4_addSyllable_48 : decode cX4_addSyllable 48 = .ok (.invokevirtual 63, 3) := by decide +kernel
theorem dX4_addSyllable_51 : decode cX4_addSyllable 51 = .ok (.ifCond .eq 7, 3) := by decide +kernel
theorem dX4_addSyllable_54 : decode cX4_addSyllable 54 = .ok (.iconst 1, 1) := by decide +kernel
theorem dX4_addSyllable_55 : decode cX4_addSyllable 55 = .ok (.goto 4, 3) := by decide +kernel
theorem dX4_addSyllable_58 : decode cX4_addSyllable 58 = .ok (.iconst 0, 1) := by decide +kernel
theorem dX4_addSyllable_59 : decode cX4_addSyllable 59 = .ok (.ireturn, 1) := by decide +kernel
theorem dX4_addCheapest_0 : decode cX4_addCheapest 0 = .ok (.aload_n 2, 1) := by decide +kernel
theorem dX4_addCheapest_1 : decode cX4_addCheapest 1 = .ok (.aload_n 0, 1) := by decide +kernel
theorem dX4_addCheapest_2 : decode cX4_addCheapest 2 = .ok (.getfield 12, 3) := by decide +kernel
theorem dX4_addCheapest_5 : decode cX4_addCheapest 5 = .ok (.invokevirtual 67, 3) := by decide +kernel
theorem dX4_addCheapest_8 : decode cX4_addCheapest 8 = .ok (.istore_n 3, 1) := by decide +kernel
theorem dX4_addCheapest_9 : decode cX4_addCheapest 9 = .ok (.iload_n 3, 1) := by decide +kernel
theorem dX4_addCheapest_10 : decode cX4_addCheapest 10 = .ok (.ifCond .ge 5, 3) := by decide +kernel
theorem dX4_addCheapest_13 : decode cX4_addCheapest 13 = .ok (.iconst 0, 1) := by decide +kernel
theorem dX4_addCheapest_14 : decode cX4_addCheapest 14 = .ok (.ireturn, 1) := by decide +kernel
theorem dX4_addCheapest_15 : decode cX4_addCheapest 15 = .ok (.aload_n 2, 1) := by decide +kernel
theorem dX4_addCheapest_16 : decode cX4_addCheapest 16 = .ok (.iload_n 3, 1) := by decide +kernel
theorem dX4_addCheapest_17 : decode cX4_addCheapest 17 = .ok (.invokevirtual 73, 3) := by decide +kernel
theorem dX4_addCheapest_20 : decode cX4_addCheapest 20 = .ok (.istore 4, 2) := by decide +kernel
theorem dX4_addCheapest_22 : decode cX4_addCheapest 22 = .ok (.iconst 0, 1) := by decide +kernel
theorem dX4_addCheapest_23 : decode cX4_addCheapest 23 = .ok (.istore 5, 2) := by decide +kernel
theorem dX4_addCheapest_25 : decode cX4_addCheapest 25 = .ok (.iload 5, 2) := by decide +kernel
theorem dX4_addCheapest_27 : decode cX4_addCheapest 27 = .ok (.iload 4, 2) := by decide +kernel
theorem dX4_addCheapest_29 : decode cX4_addCheapest 29 = .ok (.if_icmp .ge 29, 3) := by decide +kernel
theorem dX4_addCheapest_32 : decode cX4_addCheapest 32 = .ok (.aload_n 1, 1) := by decide +kernel
theorem dX4_addCheapest_33 : decode cX4_addCheapest 33 = .ok (.aload_n 2, 1) := by decide +kernel
theorem dX4_addCheapest_34 : decode cX4_addCheapest 34 = .ok (.iload_n 3, 1) := by decide +kernel
theorem dX4_addCheapest_35 : decode cX4_addCheapest 35 = .ok (.invokevirtual 76, 3) := by decide +kernel
theorem dX4_addCheapest_38 : decode cX4_addCheapest 38 = .ok (.invokevirtual 63, 3) := by decide +kernel
theorem dX4_addCheapest_41 : decode cX4_addCheapest 41 = .ok (.ifCond .ne 5, 3) := by decide +kernel
theorem dX4_addCheapest_44 : decode cX4_addCheapest 44 = .ok (.iconst 0, 1) := by decide +kernel
theorem dX4_addCheapest_45 : decode cX4_addCheapest 45 = .ok (.ireturn, 1) := by decide +kernel
theorem dX4_addCheapest_46 : decode cX4_addCheapest 46 = .ok (.aload_n 2, 1) := by decide +kernel
theorem dX4_addCheapest_47 : decode cX4_addCheapest 47 = .ok (.iload_n 3, 1) := by decide +kernel
theorem dX4_addCheapest_48 : decode cX4_addCheapest 48 = .ok (.invokevirtual 79, 3) := by decide +kernel
theorem dX4_addCheapest_51 : decode cX4_addCheapest 51 = .ok (.istore_n 3, 1) := by decide +kernel
theorem dX4_addCheapest_52 : decode cX4_addCheapest 52 = .ok (.iinc 5 1, 3) := by decide +kernel
theorem dX4_addCheapest_55 : decode cX4_addCheapest 55 = .ok (.goto (-30), 3) := by decide +kernel
theorem dX4_addCheapest_58 : decode cX4_addCheapest 58 = .ok (.iconst 1, 1) := by decide +kernel
theorem dX4_addCheapest_59 : decode cX4_addCheapest 59 = .ok (.ireturn, 1) := by decide +kernel
theorem dX5_init_0 : decode cX5_init 0 = .ok (.aload_n 0, 1) := by decide +kernel
theorem dX5_init_1 : decode cX5_init 1 = .ok (.invokespecial 3, 3) := by decide +kernel
theorem dX5_init_4 : decode cX5_init 4 = .ok (.aload_n 0, 1) := by decide +kernel
theorem dX5_init_5 : decode cX5_init 5 = .ok (.sipush 300, 3) := by decide +kernel
theorem dX5_init_8 : decode cX5_init 8 = .ok (.newarray .int, 2) := by decide +kernel
theorem dX5_init_10 : decode cX5_init 10 = .ok (.putfield 9, 3) := by decide +kernel
theorem dX5_init_13 : decode cX5_init 13 = .ok (.aload_n 0, 1) := by decide +kernel
theorem dX5_init_14 : decode cX5_init 14 = .ok (.bipush 60, 2) := by decide +kernel
theorem dX5_init_16 : decode cX5_init 16 = .ok (.newarray .int, 2) := by decide +kernel
theorem dX5_init_18 : decode cX5_init 18 = .ok (.putfield 15, 3) := by decide +kernel
theorem dX5_init_21 : decode cX5_init 21 = .ok (.aload_n 0, 1) := by decide +kernel
theorem dX5_init_22 : decode cX5_init 22 = .ok (.iconst 5, 1) := by decide +kernel
theorem dX5_init_23 : decode cX5_init 23 = .ok (.newarray .int, 2) := by decide +kernel
theorem dX5_init_25 : decode cX5_init 25 = .ok (.putfield 18, 3) := by decide +kernel
theorem dX5_init_28 : decode cX5_init 28 = .ok (.aload_n 0, 1) := by decide +kernel
theorem dX5_init_29 : decode cX5_init 29 = .ok (.iconst 5, 1) := by decide +kernel
theorem dX5_init_30 : decode cX5_init 30 = .ok (.newarray .int, 2) := by decide +kernel
theorem dX5_init_32 : decode cX5_init 32 = .ok (.putfield 21, 3) := by decide +kernel
theorem dX5_init_35 : decode cX5_init 35 = .ok (.aload_n 0, 1) := by decide +kernel
theorem dX5_init_36 : decode cX5_init 36 = .ok (.iconst 0, 1) := by decide +kernel
theorem dX5_init_37 : decode cX5_init 37 = .ok (.putfield 24, 3) := by decide +kernel
theorem dX5_init_40 : decode cX5_init 40 = .ok (.aload_n 0, 1) := by decide +kernel
theorem dX5_init_41 : decode cX5_init 41 = .ok (.iconst 0, 1) := by decide +kernel
theorem dX5_init_42 : decode cX5_init 42 = .ok (.putfield 28, 3) := by decide +kernel
theorem dX5_init_45 : decode cX5_init 45 = .ok (.aload_n 0, 1) := by decide +kernel
theorem dX5_init_46 : decode cX5_init 46 = .ok (.iconst 0, 1) := by decide +kernel
theorem dX5_init_47 : decode cX5_init 47 = .ok (.putfield 31, 3) := by decide +kernel
theorem dX5_init_50 : decode cX5_init 50 = .ok (.return_, 1) := by decide +kernel
theorem dX5_read_0 : decode cX5_read 0 = .ok (.aload_n 0, 1) := by decide +kernel
theorem dX5_read_1 : decode cX5_read 1 = .ok (.iconst 0, 1) := by decide +kernel
theorem dX5_read_2 : decode cX5_read 2 = .ok (.putfield 24, 3) := by decide +kernel
theorem dX5_read_5 : decode cX5_read 5 = .ok (.aload_n 0, 1) := by decide +kernel
theorem dX5_read_6 : decode cX5_read 6 = .ok (.iconst 0, 1) := by decide +kernel
theorem dX5_read_7 : decode cX5_read 7 = .ok (.putfield 28, 3) := by decide +kernel
theorem dX5_read_10 : decode cX5_read 10 = .ok (.aload_n 0, 1) := by decide +kernel
theorem dX5_read_11 : decode cX5_read 11 = .ok (.iconst 0, 1) := by decide +kernel
theorem dX5_read_12 : decode cX5_read 12 = .ok (.putfield 31, 3) := by decide +kernel
theorem dX5_read_15 : decode cX5_read 15 = .ok (.aload_n 0, 1) := by decide +kernel
theorem dX5_read_16 : decode cX5_read 16 = .ok (.getfield 18, 3) := by decide +kernel
theorem dX5_read_19 : decode cX5_read 19 = .ok (.iconst 0, 1) := by decide +kernel
theorem dX5_read_20 : decode cX5_read 20 = .ok (.iconst 0, 1) := by decide +kernel
theorem dX5_read_21 : decode cX5_read 21 = .ok (.iastore, 1) := by decide +kernel
theorem dX5_read_22 : decode cX5_read 22 = .ok (.iconst 0, 1) := by decide +kernel
theorem dX5_read_23 : decode cX5_read 23 = .ok (.istore_n 3, 1) := by decide +kernel
theorem dX5_read_24 : decode cX5_read 24 = .ok (.iload_n 3, 1) := by decide +kernel
theorem dX5_read_25 : decode cX5_read 25 = .ok (.aload_n 1, 1) := by decide +kernel
theorem dX5_read_26 : decode cX5_read 26 = .ok (.getfield 34, 3) := by decide +kernel
theorem dX5_read_29 : decode cX5_read 29 = .ok (.if_icmp .ge 20, 3) := by decide +kernel
theorem dX5_read_32 : decode cX5_read 32 = .ok (.aload_n 0, 1) := by decide +kernel
theorem dX5_read_33 : decode cX5_read 33 = .ok (.aload_n 1, 1) := by decide +kernel
theorem dX5_read_34 : decode cX5_read 34 = .ok (.iload_n 3, 1) := by decide +kernel
theorem dX5_read_35 : decode cX5_read 35 = .ok (.invokevirtual 37, 3) := by decide +kernel
theorem dX5_read_38 : decode cX5_read 38 = .ok (.ifCond .ne 5, 3) := by decide +kernel
theorem dX5_read_41 : decode cX5_read 41 = .ok (.iconst 0, 1) := by decide +kernel
theorem dX5_read_42 : decode cX5_read 42 = .ok (.ireturn, 1) := by decide +kernel
theorem dX5_read_43 : decode cX5_read 43 = .ok (.iinc 3 1, 3) := by decide +kernel
theorem dX5_read_46 : decode cX5_read 46 = .ok (.goto (-22), 3) := by decide +kernel
theorem dX5_read_49 : decode cX5_read 49 = .ok (.aload_n 2, 1) := by decide +kernel
theorem dX5_read_50 : decode cX5_read 50 = .ok (.iconst 0, 1) := by decide +kernel
theorem dX5_read_51 : decode cX5_read 51 = .ok (.putfield 41, 3) := by decide +kernel
theorem dX5_read_54 : decode cX5_read 54 = .ok (.iconst 0, 1) := by decide +kernel
theorem dX5_read_55 : decode cX5_read 55 = .ok (.istore_n 3, 1) := by decide +kernel
theorem dX5_read_56 : decode cX5_read 56 = .ok (.iload_n 3, 1) := by decide +kernel
theorem dX5_read_57 : decode cX5_read 57 = .ok (.aload_n 0, 1) := by decide +kernel
theorem dX5_read_58 : decode cX5_read 58 = .ok (.getfield 24, 3) := by decide +kernel
theorem dX5_read_61 : decode cX5_read 61 = .ok (.if_icmp .ge 24, 3) := by decide +kernel
theorem dX5_read_64 : decode cX5_read 64 = .ok (.aload_n 2, 1) := by decide +kernel
theorem dX5_read_65 : decode cX5_read 65 = .ok (.aload_n 0, 1) := by decide +kernel
theorem dX5_read_66 : decode cX5_read 66 = .ok (.getfield 9, 3) := by decide +kernel
theorem dX5_read_69 : decode cX5_read 69 = .ok (.iload_n 3, 1) := by decide +kernel
theorem dX5_read_70 : decode cX5_read 70 = .ok (.iaload, 1) := by decide +kernel
end
section
theorem dX5_read_71 : decode cX5_read 71 = .ok (.invokevirtual 44, 3) := by decide +kernel
theorem dX5_read_74 : decode cX5_read 74 = .ok (.ifCond .ne 5, 3) := by decide +kernel
theorem dX5_read_77 : decode cX5_read 77 = .ok (.iconst 0, 1) := by decide +kernel
theorem dX5_read_78 : decode cX5_read 78 = .ok (.ireturn, 1) := by decide +kernel
theorem dX5_read_79 : decode cX5_read 79 = .ok (.iinc 3 1, 3) := by decide +kernel
theorem dX5_read_82 : decode cX5_read 82 = .ok (.goto (-26), 3) := by decide +kernel
theorem dX5_read_85 : decode cX5_read 85 = .ok (.iconst 1, 1) := by decide +kernel
theorem dX5_read_86 : decode cX5_read 86 = .ok (.ireturn, 1) := by decide +kernel
theorem dX5_readByte_0 : decode cX5_readByte 0 = .ok (.aload_n 1, 1) := by decide +kernel
theorem dX5_readByte_1 : decode cX5_readByte 1 = .ok (.iload_n 2, 1) := by decide +kernel
theorem dX5_readByte_2 : decode cX5_readByte 2 = .ok (.invokevirtual 48, 3) := by decide +kernel
theorem dX5_readByte_5 : decode cX5_readByte 5 = .ok (.istore_n 3, 1) := by decide +kernel
theorem dX5_readByte_6 : decode cX5_readByte 6 = .ok (.iload_n 3, 1) := by decide +kernel
theorem dX5_readByte_7 : decode cX5_readByte 7 = .ok (.invokestatic 52, 3) := by decide +kernel
theorem dX5_readByte_10 : decode cX5_readByte 10 = .ok (.istore 4, 2) := by decide +kernel
theorem dX5_readByte_12 : decode cX5_readByte 12 = .ok (.iload 4, 2) := by decide +kernel
theorem dX5_readByte_14 : decode cX5_readByte 14 = .ok (.ifCond .lt 10, 3) := by decide +kernel
theorem dX5_readByte_17 : decode cX5_readByte 17 = .ok (.aload_n 0, 1) := by decide +kernel
theorem dX5_readByte_18 : decode cX5_readByte 18 = .ok (.iload 4, 2) := by decide +kernel
theorem dX5_readByte_20 : decode cX5_readByte 20 = .ok (.invokevirtual 55, 3) := by decide +kernel
theorem dX5_readByte_23 : decode cX5_readByte 23 = .ok (.ireturn, 1) := by decide +kernel
theorem dX5_readByte_24 : decode cX5_readByte 24 = .ok (.iload_n 3, 1) := by decide +kernel
theorem dX5_readByte_25 : decode cX5_readByte 25 = .ok (.bipush 126, 2) := by decide +kernel
theorem dX5_readByte_27 : decode cX5_readByte 27 = .ok (.if_icmp .ne 15, 3) := by decide +kernel
theorem dX5_readByte_30 : decode cX5_readByte 30 = .ok (.aload_n 0, 1) := by decide +kernel
theorem dX5_readByte_31 : decode cX5_readByte 31 = .ok (.dup, 1) := by decide +kernel
theorem dX5_readByte_32 : decode cX5_readByte 32 = .ok (.getfield 31, 3) := by decide +kernel
theorem dX5_readByte_35 : decode cX5_readByte 35 = .ok (.iconst 1, 1) := by decide +kernel
theorem dX5_readByte_36 : decode cX5_readByte 36 = .ok (.iadd, 1) := by decide +kernel
theorem dX5_readByte_37 : decode cX5_readByte 37 = .ok (.putfield 31, 3) := by decide +kernel
theorem dX5_readByte_40 : decode cX5_readByte 40 = .ok (.iconst 1, 1) := by decide +kernel
theorem dX5_readByte_41 : decode cX5_readByte 41 = .ok (.ireturn, 1) := by decide +kernel
theorem dX5_readByte_42 : decode cX5_readByte 42 = .ok (.iload_n 3, 1) := by decide +kernel
theorem dX5_readByte_43 : decode cX5_readByte 43 = .ok (.bipush 40, 2) := by decide +kernel
theorem dX5_readByte_45 : decode cX5_readByte 45 = .ok (.if_icmp .ne 8, 3) := by decide +kernel
theorem dX5_readByte_48 : decode cX5_readByte 48 = .ok (.aload_n 0, 1) := by decide +kernel
theorem dX5_readByte_49 : decode cX5_readByte 49 = .ok (.invokevirtual 58, 3) := by decide +kernel
theorem dX5_readByte_52 : decode cX5_readByte 52 = .ok (.ireturn, 1) := by decide +kernel
theorem dX5_readByte_53 : decode cX5_readByte 53 = .ok (.iload_n 3, 1) := by decide +kernel
theorem dX5_readByte_54 : decode cX5_readByte 54 = .ok (.bipush 41, 2) := by decide +kernel
theorem dX5_readByte_56 : decode cX5_readByte 56 = .ok (.if_icmp .ne 28, 3) := by decide +kernel
theorem dX5_readByte_59 : decode cX5_readByte 59 = .ok (.aload_n 1, 1) := by decide +kernel
theorem dX5_readByte_60 : decode cX5_readByte 60 = .ok (.iload_n 2, 1) := by decide +kernel
theorem dX5_readByte_61 : decode cX5_readByte 61 = .ok (.iconst 1, 1) := by decide +kernel
theorem dX5_readByte_62 : decode cX5_readByte 62 = .ok (.iadd, 1) := by decide +kernel
theorem dX5_readByte_63 : decode cX5_readByte 63 = .ok (.invokevirtual 62, 3) := by decide +kernel
theorem dX5_readByte_66 : decode cX5_readByte 66 = .ok (.istore 5, 2) := by decide +kernel
theorem dX5_readByte_68 : decode cX5_readByte 68 = .ok (.aload_n 0, 1) := by decide +kernel
theorem dX5_readByte_69 : decode cX5_readByte 69 = .ok (.iload 5, 2) := by decide +kernel
theorem dX5_readByte_71 : decode cX5_readByte 71 = .ok (.ifCond .ge 7, 3) := by decide +kernel
theorem dX5_readByte_74 : decode cX5_readByte 74 = .ok (.iconst 1, 1) := by decide +kernel
theorem dX5_readByte_75 : decode cX5_readByte 75 = .ok (.goto 5, 3) := by decide +kernel
theorem dX5_readByte_78 : decode cX5_readByte 78 = .ok (.iload 5, 2) := by decide +kernel
theorem dX5_readByte_80 : decode cX5_readByte 80 = .ok (.invokevirtual 65, 3) := by decide +kernel
theorem dX5_readByte_83 : decode cX5_readByte 83 = .ok (.ireturn, 1) := by decide +kernel
theorem dX5_readByte_84 : decode cX5_readByte 84 = .ok (.iconst 1, 1) := by decide +kernel
theorem dX5_readByte_85 : decode cX5_readByte 85 = .ok (.ireturn, 1) := by decide +kernel
theorem dX5_isHeld_0 : decode cX5_isHeld 0 = .ok (.iload_n 1, 1) := by decide +kernel
theorem dX5_isHeld_1 : decode cX5_isHeld 1 = .ok (.aload_n 0, 1) := by decide +kernel
theorem dX5_isHeld_2 : decode cX5_isHeld 2 = .ok (.getfield 18, 3) := by decide +kernel
theorem dX5_isHeld_5 : decode cX5_isHeld 5 = .ok (.aload_n 0, 1) := by decide +kernel
theorem dX5_isHeld_6 : decode cX5_isHeld 6 = .ok (.getfield 28, 3) := by decide +kernel
theorem dX5_isHeld_9 : decode cX5_isHeld 9 = .ok (.iaload, 1) := by decide +kernel
theorem dX5_isHeld_10 : decode cX5_isHeld 10 = .ok (.isub, 1) := by decide +kernel
theorem dX5_isHeld_11 : decode cX5_isHeld 11 = .ok (.iload_n 2, 1) := by decide +kernel
theorem dX5_isHeld_12 : decode cX5_isHeld 12 = .ok (.iadd, 1) := by decide +kernel
theorem dX5_isHeld_13 : decode cX5_isHeld 13 = .ok (.bipush 60, 2) := by decide +kernel
theorem dX5_isHeld_15 : decode cX5_isHeld 15 = .ok (.if_icmp .gt 7, 3) := by decide +kernel
theorem dX5_isHeld_18 : decode cX5_isHeld 18 = .ok (.iconst 1, 1) := by decide +kernel
theorem dX5_isHeld_19 : decode cX5_isHeld 19 = .ok (.goto 4, 3) := by decide +kernel
theorem dX5_isHeld_22 : decode cX5_isHeld 22 = .ok (.iconst 0, 1) := by decide +kernel
theorem dX5_isHeld_23 : decode cX5_isHeld 23 = .ok (.ireturn, 1) := by decide +kernel
theorem dX5_readGate_0 : decode cX5_readGate 0 = .ok (.aload_n 0, 1) := by decide +kernel
theorem dX5_readGate_1 : decode cX5_readGate 1 = .ok (.getfield 24, 3) := by decide +kernel
theorem dX5_readGate_4 : decode cX5_readGate 4 = .ok (.istore_n 2, 1) := by decide +kernel
theorem dX5_readGate_5 : decode cX5_readGate 5 = .ok (.aload_n 0, 1) := by decide +kernel
theorem dX5_readGate_6 : decode cX5_readGate 6 = .ok (.iload_n 2, 1) := by decide +kernel
theorem dX5_readGate_7 : decode cX5_readGate 7 = .ok (.iconst 1, 1) := by decide +kernel
theorem dX5_readGate_8 : decode cX5_readGate 8 = .ok (.invokevirtual 68, 3) := by decide +kernel
theorem dX5_readGate_11 : decode cX5_readGate 11 = .ok (.ifCond .ne 5, 3) := by decide +kernel
theorem dX5_readGate_14 : decode cX5_readGate 14 = .ok (.iconst 0, 1) := by decide +kernel
theorem dX5_readGate_15 : decode cX5_readGate 15 = .ok (.ireturn, 1) := by decide +kernel
theorem dX5_readGate_16 : decode cX5_readGate 16 = .ok (.aload_n 0, 1) := by decide +kernel
theorem dX5_readGate_17 : decode cX5_readGate 17 = .ok (.getfield 9, 3) := by decide +kernel
theorem dX5_readGate_20 : decode cX5_readGate 20 = .ok (.aload_n 0, 1) := by decide +kernel
theorem dX5_readGate_21 : decode cX5_readGate 21 = .ok (.getfield 24, 3) := by decide +kernel
theorem dX5_readGate_24 : decode cX5_readGate 24 = .ok (.iload_n 1, 1) := by decide +kernel
theorem dX5_readGate_25 : decode cX5_readGate 25 = .ok (.iastore, 1) := by decide +kernel
theorem dX5_readGate_26 : decode cX5_readGate 26 = .ok (.aload_n 0, 1) := by decide +kernel
theorem dX5_readGate_27 : decode cX5_readGate 27 = .ok (.dup, 1) := by decide +kernel
theorem dX5_readGate_28 : decode cX5_readGate 28 = .ok (.getfield 24, 3) := by decide +kernel
theorem dX5_readGate_31 : decode cX5_readGate 31 = .ok (.iconst 1, 1) := by decide +kernel
theorem dX5_readGate_32 : decode cX5_readGate 32 = .ok (.iadd, 1) := by decide +kernel
theorem dX5_readGate_33 : decode cX5_readGate 33 = .ok (.putfield 24, 3) := by decide +kernel
theorem dX5_readGate_36 : decode cX5_readGate 36 = .ok (.aload_n 0, 1) := by decide +kernel
theorem dX5_readGate_37 : decode cX5_readGate 37 = .ok (.iload_n 2, 1) := by decide +kernel
theorem dX5_readGate_38 : decode cX5_readGate 38 = .ok (.invokevirtual 72, 3) := by decide +kernel
theorem dX5_readGate_41 : decode cX5_readGate 41 = .ok (.ireturn, 1) := by decide +kernel
theorem dX5_openGroup_0 : decode cX5_openGroup 0 = .ok (.aload_n 0, 1) := by decide +kernel
theorem dX5_openGroup_1 : decode cX5_openGroup 1 = .ok (.getfield 28, 3) := by decide +kernel
theorem dX5_openGroup_4 : decode cX5_openGroup 4 = .ok (.iconst 4, 1) := by decide +kernel
theorem dX5_openGroup_5 : decode cX5_openGroup 5 = .ok (.if_icmp .lt 5, 3) := by decide +kernel
theorem dX5_openGroup_8 : decode cX5_openGroup 8 = .ok (.iconst 0, 1) := by decide +kernel
theorem dX5_openGroup_9 : decode cX5_openGroup 9 = .ok (.ireturn, 1) := by decide +kernel
theorem dX5_openGroup_10 : decode cX5_openGroup 10 = .ok (.aload_n 0, 1) := by decide +kernel
theorem dX5_openGroup_11 : decode cX5_openGroup 11 = .ok (.getfield 21, 3) := by decide +kernel
theorem dX5_openGroup_14 : decode cX5_openGroup 14 = .ok (.aload_n 0, 1) := by decide +kernel
theorem dX5_openGroup_15 : decode cX5_openGroup 15 = .ok (.getfield 28, 3) := by decide +kernel
theorem dX5_openGroup_18 : decode cX5_openGroup 18 = .ok (.aload_n 0, 1) := by decide +kernel
theorem dX5_openGroup_19 : decode cX5_openGroup 19 = .ok (.getfield 31, 3) := by decide +kernel
theorem dX5_openGroup_22 : decode cX5_openGroup 22 = .ok (.iastore, 1) := by decide +kernel
theorem dX5_openGroup_23 : decode cX5_openGroup 23 = .ok (.aload_n 0, 1) := by decide +kernel
theorem dX5_openGroup_24 : decode cX5_openGroup 24 = .ok (.iconst 0, 1) := by decide +kernel
theorem dX5_openGroup_25 : decode cX5_openGroup 25 = .ok (.putfield 31, 3) := by decide +kernel
theorem dX5_openGroup_28 : decode cX5_openGroup 28 = .ok (.aload_n 0, 1) := by decide +kernel
theorem dX5_openGroup_29 : decode cX5_openGroup 29 = .ok (.dup, 1) := by decide +kernel
theorem dX5_openGroup_30 : decode cX5_openGroup 30 = .ok (.getfield 28, 3) := by decide +kernel
theorem dX5_openGroup_33 : decode cX5_openGroup 33 = .ok (.iconst 1, 1) := by decide +kernel
theorem dX5_openGroup_34 : decode cX5_openGroup 34 = .ok (.iadd, 1) := by decide +kernel
theorem dX5_openGroup_35 : decode cX5_openGroup 35 = .ok (.putfield 28, 3) := by decide +kernel
theorem dX5_openGroup_38 : decode cX5_openGroup 38 = .ok (.aload_n 0, 1) := by decide +kernel
theorem dX5_openGroup_39 : decode cX5_openGroup 39 = .ok (.getfield 18, 3) := by decide +kernel
theorem dX5_openGroup_42 : decode cX5_openGroup 42 = .ok (.aload_n 0, 1) := by decide +kernel
theorem dX5_openGroup_43 : decode cX5_openGroup 43 = .ok (.getfield 28, 3) := by decide +kernel
theorem dX5_openGroup_46 : decode cX5_openGroup 46 = .ok (.aload_n 0, 1) := by decide +kernel
theorem dX5_openGroup_47 : decode cX5_openGroup 47 = .ok (.getfield 24, 3) := by decide +kernel
theorem dX5_openGroup_50 : decode cX5_openGroup 50 = .ok (.iastore, 1) := by decide +kernel
theorem dX5_openGroup_51 : decode cX5_openGroup 51 = .ok (.iconst 1, 1) := by decide +kernel
theorem dX5_openGroup_52 : decode cX5_openGroup 52 = .ok (.ireturn, 1) := by decide +kernel
theorem dX5_closeGroup_0 : decode cX5_closeGroup 0 = .ok (.aload_n 0, 1) := by decide +kernel
theorem dX5_closeGroup_1 : decode cX5_closeGroup 1 = .ok (.getfield 28, 3) := by decide +kernel
theorem dX5_closeGroup_4 : decode cX5_closeGroup 4 = .ok (.ifCond .gt 5, 3) := by decide +kernel
theorem dX5_closeGroup_7 : decode cX5_closeGroup 7 = .ok (.iconst 0, 1) := by decide +kernel
theorem dX5_closeGroup_8 : decode cX5_closeGroup 8 = .ok (.ireturn, 1) := by decide +kernel
theorem dX5_closeGroup_9 : decode cX5_closeGroup 9 = .ok (.aload_n 0, 1) := by decide +kernel
theorem dX5_closeGroup_10 : decode cX5_closeGroup 10 = .ok (.getfield 18, 3) := by decide +kernel
theorem dX5_closeGroup_13 : decode cX5_closeGroup 13 = .ok (.aload_n 0, 1) := by decide +kernel
theorem dX5_closeGroup_14 : decode cX5_closeGroup 14 = .ok (.getfield 28, 3) := by decide +kernel
theorem dX5_closeGroup_17 : decode cX5_closeGroup 17 = .ok (.iaload, 1) := by decide +kernel
theorem dX5_closeGroup_18 : decode cX5_closeGroup 18 = .ok (.istore_n 2, 1) := by decide +kernel
theorem dX5_closeGroup_19 : decode cX5_closeGroup 19 = .ok (.aload_n 0, 1) := by decide +kernel
theorem dX5_closeGroup_20 : decode cX5_closeGroup 20 = .ok (.getfield 24, 3) := by decide +kernel
theorem dX5_closeGroup_23 : decode cX5_closeGroup 23 = .ok (.iload_n 2, 1) := by decide +kernel
theorem dX5_closeGroup_24 : decode cX5_closeGroup 24 = .ok (.isub, 1) := by decide +kernel
theorem dX5_closeGroup_25 : decode cX5_closeGroup 25 = .ok (.istore_n 3, 1) := by decide +kernel
theorem dX5_closeGroup_26 : decode cX5_closeGroup 26 = .ok (.aload_n 0, 1) := by decide +kernel
theorem dX5_closeGroup_27 : decode cX5_closeGroup 27 = .ok (.dup, 1) := by decide +kernel
theorem dX5_closeGroup_28 : decode cX5_closeGroup 28 = .ok (.getfield 28, 3) := by decide +kernel
theorem dX5_closeGroup_31 : decode cX5_closeGroup 31 = .ok (.iconst 1, 1) := by decide +kernel
theorem dX5_closeGroup_32 : decode cX5_closeGroup 32 = .ok (.isub, 1) := by decide +kernel
theorem dX5_closeGroup_33 : decode cX5_closeGroup 33 = .ok (.putfield 28, 3) := by decide +kernel
theorem dX5_closeGroup_36 : decode cX5_closeGroup 36 = .ok (.aload_n 0, 1) := by decide +kernel
theorem dX5_closeGroup_37 : decode cX5_closeGroup 37 = .ok (.aload_n 0, 1) := by decide +kernel
theorem dX5_closeGroup_38 : decode cX5_closeGroup 38 = .ok (.getfield 21, 3) := by decide +kernel
theorem dX5_closeGroup_41 : decode cX5_closeGroup 41 = .ok (.aload_n 0, 1) := by decide +kernel
theorem dX5_closeGroup_42 : decode cX5_closeGroup 42 = .ok (.getfield 28, 3) := by decide +kernel
theorem dX5_closeGroup_45 : decode cX5_closeGroup 45 = .ok (.iaload, 1) := by decide +kernel
theorem dX5_closeGroup_46 : decode cX5_closeGroup 46 = .ok (.putfield 31, 3) := by decide +kernel
theorem dX5_closeGroup_49 : decode cX5_closeGroup 49 = .ok (.aload_n 0, 1) := by decide +kernel
theorem dX5_closeGroup_50 : decode cX5_closeGroup 50 = .ok (.iload_n 2, 1) := by decide +kernel
theorem dX5_closeGroup_51 : decode cX5_closeGroup 51 = .ok (.iload_n 3, 1) := by decide +kernel
theorem dX5_closeGroup_52 : decode cX5_closeGroup 52 = .ok (.iload_n 1, 1) := by decide +kernel
theorem dX5_closeGroup_53 : decode cX5_closeGroup 53 = .ok (.imul, 1) := by decide +kernel
theorem dX5_closeGroup_54 : decode cX5_closeGroup 54 = .ok (.invokevirtual 68, 3) := by decide +kernel
theorem dX5_closeGroup_57 : decode cX5_closeGroup 57 = .ok (.ifCond .ne 5, 3) := by decide +kernel
theorem dX5_closeGroup_60 : decode cX5_closeGroup 60 = .ok (.iconst 0, 1) := by decide +kernel
theorem dX5_closeGroup_61 : decode cX5_closeGroup 61 = .ok (.ireturn, 1) := by decide +kernel
theorem dX5_closeGroup_62 : decode cX5_closeGroup 62 = .ok (.aload_n 0, 1) := by decide +kernel
theorem dX5_closeGroup_63 : decode cX5_closeGroup 63 = .ok (.iload_n 2, 1) := by decide +kernel
theorem dX5_closeGroup_64 : decode cX5_closeGroup 64 = .ok (.iload_n 3, 1) := by decide +kernel
theorem dX5_closeGroup_65 : decode cX5_closeGroup 65 = .ok (.iload_n 1, 1) := by decide +kernel
theorem dX5_closeGroup_66 : decode cX5_closeGroup 66 = .ok (.imul, 1) := by decide +kernel
theorem dX5_closeGroup_67 : decode cX5_closeGroup 67 = .ok (.iadd, 1) := by decide +kernel
theorem dX5_closeGroup_68 : decode cX5_closeGroup 68 = .ok (.putfield 24, 3) := by decide +kernel
theorem dX5_closeGroup_71 : decode cX5_closeGroup 71 = .ok (.iload_n 2, 1) := by decide +kernel
theorem dX5_closeGroup_72 : decode cX5_closeGroup 72 = .ok (.iload_n 3, 1) := by decide +kernel
theorem dX5_closeGroup_73 : decode cX5_closeGroup 73 = .ok (.iadd, 1) := by decide +kernel
theorem dX5_closeGroup_74 : decode cX5_closeGroup 74 = .ok (.istore 4, 2) := by decide +kernel
theorem dX5_closeGroup_76 : decode cX5_closeGroup 76 = .ok (.iload 4, 2) := by decide +kernel
theorem dX5_closeGroup_78 : decode cX5_closeGroup 78 = .ok (.aload_n 0, 1) := by decide +kernel
theorem dX5_closeGroup_79 : decode cX5_closeGroup 79 = .ok (.getfield 24, 3) := by decide +kernel
theorem dX5_closeGroup_82 : decode cX5_closeGroup 82 = .ok (.if_icmp .ge 25, 3) := by decide +kernel
theorem dX5_closeGroup_85 : decode cX5_closeGroup 85 = .ok (.aload_n 0, 1) := by decide +kernel
theorem dX5_closeGroup_86 : decode cX5_closeGroup 86 = .ok (.getfield 9, 3) := by decide +kernel
theorem dX5_closeGroup_89 : decode cX5_closeGroup 89 = .ok (.iload 4, 2) := by decide +kernel
theorem dX5_closeGroup_91 : decode cX5_closeGroup 91 = .ok (.aload_n 0, 1) := by decide +kernel
theorem dX5_closeGroup_92 : decode cX5_closeGroup 92 = .ok (.getfield 9, 3) := by decide +kernel
theorem dX5_closeGroup_95 : decode cX5_closeGroup 95 = .ok (.iload 4, 2) := by decide +kernel
theorem dX5_closeGroup_97 : decode cX5_closeGroup 97 = .ok (.iload_n 3, 1) := by decide +kernel
theorem dX5_closeGroup_98 : decode cX5_closeGroup 98 = .ok (.isub, 1) := by decide +kernel
theorem dX5_closeGroup_99 : decode cX5_closeGroup 99 = .ok (.iaload, 1) := by decide +kernel
theorem dX5_closeGroup_100 : decode cX5_closeGroup 100 = .ok (.iastore, 1) := by decide +kernel
theorem dX5_closeGroup_101 : decode cX5_closeGroup 101 = .ok (.iinc 4 1, 3) := by decide +kernel
theorem dX5_closeGroup_104 : decode cX5_closeGroup 104 = .ok (.goto (-28), 3) := by decide +kernel
theorem dX5_closeGroup_107 : decode cX5_closeGroup 107 = .ok (.aload_n 0, 1) := by decide +kernel
theorem dX5_closeGroup_108 : decode cX5_closeGroup 108 = .ok (.iload_n 2, 1) := by decide +kernel
theorem dX5_closeGroup_109 : decode cX5_closeGroup 109 = .ok (.invokevirtual 72, 3) := by decide +kernel
theorem dX5_closeGroup_112 : decode cX5_closeGroup 112 = .ok (.ireturn, 1) := by decide +kernel
theorem dX5_turnItem_0 : decode cX5_turnItem 0 = .ok (.aload_n 0, 1) := by decide +kernel
theorem dX5_turnItem_1 : decode cX5_turnItem 1 = .ok (.getfield 31, 3) := by decide +kernel
theorem dX5_turnItem_4 : decode cX5_turnItem 4 = .ok (.istore_n 2, 1) := by decide +kernel
theorem dX5_turnItem_5 : decode cX5_turnItem 5 = .ok (.aload_n 0, 1) := by decide +kernel
theorem dX5_turnItem_6 : decode cX5_turnItem 6 = .ok (.iconst 0, 1) := by decide +kernel
theorem dX5_turnItem_7 : decode cX5_turnItem 7 = .ok (.putfield 31, 3) := by decide +kernel
theorem dX5_turnItem_10 : decode cX5_turnItem 10 = .ok (.iconst 0, 1) := by decide +kernel
theorem dX5_turnItem_11 : decode cX5_turnItem 11 = .ok (.istore_n 3, 1) := by decide +kernel
theorem dX5_turnItem_12 : decode cX5_turnItem 12 = .ok (.iload_n 3, 1) := by decide +kernel
theorem dX5_turnItem_13 : decode cX5_turnItem 13 = .ok (.iload_n 2, 1) := by decide +kernel
theorem dX5_turnItem_14 : decode cX5_turnItem 14 = .ok (.if_icmp .ge 19, 3) := by decide +kernel
theorem dX5_turnItem_17 : decode cX5_turnItem 17 = .ok (.aload_n 0, 1) := by decide +kernel
theorem dX5_turnItem_18 : decode cX5_turnItem 18 = .ok (.iload_n 1, 1) := by decide +kernel
theorem dX5_turnItem_19 : decode cX5_turnItem 19 = .ok (.invokevirtual 75, 3) := by decide +kernel
theorem dX5_turnItem_22 : decode cX5_turnItem 22 = .ok (.ifCond .ne 5, 3) := by decide +kernel
theorem dX5_turnItem_25 : decode cX5_turnItem 25 = .ok (.iconst 0, 1) := by decide +kernel
theorem dX5_turnItem_26 : decode cX5_turnItem 26 = .ok (.ireturn, 1) := by decide +kernel
theorem dX5_turnItem_27 : decode cX5_turnItem 27 = .ok (.iinc 3 1, 3) := by decide +kernel
theorem dX5_turnItem_30 : decode cX5_turnItem 30 = .ok (.goto (-18), 3) := by decide +kernel
theorem dX5_turnItem_33 : decode cX5_turnItem 33 = .ok (.iconst 1, 1) := by decide +kernel
theorem dX5_turnItem_34 : decode cX5_turnItem 34 = .ok (.ireturn, 1) := by decide +kernel
theorem dX5_turnOnce_0 : decode cX5_turnOnce 0 = .ok (.aload_n 0, 1) := by decide +kernel
theorem dX5_turnOnce_1 : decode cX5_turnOnce 1 = .ok (.getfield 24, 3) := by decide +kernel
theorem dX5_turnOnce_4 : decode cX5_turnOnce 4 = .ok (.iload_n 1, 1) := by decide +kernel
theorem dX5_turnOnce_5 : decode cX5_turnOnce 5 = .ok (.isub, 1) := by decide +kernel
theorem dX5_turnOnce_6 : decode cX5_turnOnce 6 = .ok (.istore_n 2, 1) := by decide +kernel
theorem dX5_turnOnce_7 : decode cX5_turnOnce 7 = .ok (.iload_n 2, 1) := by decide +kernel
theorem dX5_turnOnce_8 : decode cX5_turnOnce 8 = .ok (.bipush 60, 2) := by decide +kernel
theorem dX5_turnOnce_10 : decode cX5_turnOnce 10 = .ok (.if_icmp .le 5, 3) := by decide +kernel
theorem dX5_turnOnce_13 : decode cX5_turnOnce 13 = .ok (.iconst 0, 1) := by decide +kernel
theorem dX5_turnOnce_14 : decode cX5_turnOnce 14 = .ok (.ireturn, 1) := by decide +kernel
theorem dX5_turnOnce_15 : decode cX5_turnOnce 15 = .ok (.iconst 0, 1) := by decide +kernel
theorem dX5_turnOnce_16 : decode cX5_turnOnce 16 = .ok (.istore_n 3, 1) := by decide +kernel
theorem dX5_turnOnce_17 : decode cX5_turnOnce 17 = .ok (.iconst 0, 1) := by decide +kernel
theorem dX5_turnOnce_18 : decode cX5_turnOnce 18 = .ok (.istore 4, 2) := by decide +kernel
theorem dX5_turnOnce_20 : decode cX5_turnOnce 20 = .ok (.iload 4, 2) := by decide +kernel
theorem dX5_turnOnce_22 : decode cX5_turnOnce 22 = .ok (.iload_n 2, 1) := by decide +kernel
theorem dX5_turnOnce_23 : decode cX5_turnOnce 23 = .ok (.if_icmp .ge 38, 3) := by decide +kernel
theorem dX5_turnOnce_26 : decode cX5_turnOnce 26 = .ok (.aload_n 0, 1) := by decide +kernel
theorem dX5_turnOnce_27 : decode cX5_turnOnce 27 = .ok (.getfield 15, 3) := by decide +kernel
theorem dX5_turnOnce_30 : decode cX5_turnOnce 30 = .ok (.iload 4, 2) := by decide +kernel
theorem dX5_turnOnce_32 : decode cX5_turnOnce 32 = .ok (.aload_n 0, 1) := by decide +kernel
theorem dX5_turnOnce_33 : decode cX5_turnOnce 33 = .ok (.getfield 9, 3) := by decide +kernel
theorem dX5_turnOnce_36 : decode cX5_turnOnce 36 = .ok (.iload_n 1, 1) := by decide +kernel
theorem dX5_turnOnce_37 : decode cX5_turnOnce 37 = .ok (.iload 4, 2) := by decide +kernel
theorem dX5_turnOnce_39 : decode cX5_turnOnce 39 = .ok (.iadd, 1) := by decide +kernel
theorem dX5_turnOnce_40 : decode cX5_turnOnce 40 = .ok (.iaload, 1) := by decide +kernel
theorem dX5_turnOnce_41 : decode cX5_turnOnce 41 = .ok (.iastore, 1) := by decide +kernel
theorem dX5_turnOnce_42 : decode cX5_turnOnce 42 = .ok (.iload_n 3, 1) := by decide +kernel
theorem dX5_turnOnce_43 : decode cX5_turnOnce 43 = .ok (.aload_n 0, 1) := by decide +kernel
theorem dX5_turnOnce_44 : decode cX5_turnOnce 44 = .ok (.getfield 15, 3) := by decide +kernel
theorem dX5_turnOnce_47 : decode cX5_turnOnce 47 = .ok (.iload 4, 2) := by decide +kernel
theorem dX5_turnOnce_49 : decode cX5_turnOnce 49 = .ok (.iaload, 1) := by decide +kernel
theorem dX5_turnOnce_50 : decode cX5_turnOnce 50 = .ok (.invokestatic 78, 3) := by decide +kernel
theorem dX5_turnOnce_53 : decode cX5_turnOnce 53 = .ok (.iadd, 1) := by decide +kernel
theorem dX5_turnOnce_54 : decode cX5_turnOnce 54 = .ok (.istore_n 3, 1) := by decide +kernel
theorem dX5_turnOnce_55 : decode cX5_turnOnce 55 = .ok (.iinc 4 1, 3) := by decide +kernel
theorem dX5_turnOnce_58 : decode cX5_turnOnce 58 = .ok (.goto (-38), 3) := by decide +kernel
theorem dX5_turnOnce_61 : decode cX5_turnOnce 61 = .ok (.aload_n 0, 1) := by decide +kernel
theorem dX5_turnOnce_62 : decode cX5_turnOnce 62 = .ok (.iload_n 1, 1) := by decide +kernel
theorem dX5_turnOnce_63 : decode cX5_turnOnce 63 = .ok (.iload_n 3, 1) := by decide +kernel
theorem dX5_turnOnce_64 : decode cX5_turnOnce 64 = .ok (.invokevirtual 68, 3) := by decide +kernel
theorem dX5_turnOnce_67 : decode cX5_turnOnce 67 = .ok (.ifCond .ne 5, 3) := by decide +kernel
theorem dX5_turnOnce_70 : decode cX5_turnOnce 70 = .ok (.iconst 0, 1) := by decide +kernel
theorem dX5_turnOnce_71 : decode cX5_turnOnce 71 = .ok (.ireturn, 1) := by decide +kernel
theorem dX5_turnOnce_72 : decode cX5_turnOnce 72 = .ok (.aload_n 0, 1) := by decide +kernel
theorem dX5_turnOnce_73 : decode cX5_turnOnce 73 = .ok (.iload_n 1, 1) := by decide +kernel
theorem dX5_turnOnce_74 : decode cX5_turnOnce 74 = .ok (.putfield 24, 3) := by decide +kernel
theorem dX5_turnOnce_77 : decode cX5_turnOnce 77 = .ok (.iload_n 2, 1) := by decide +kernel
theorem dX5_turnOnce_78 : decode cX5_turnOnce 78 = .ok (.iconst 1, 1) := by decide +kernel
theorem dX5_turnOnce_79 : decode cX5_turnOnce 79 = .ok (.isub, 1) := by decide +kernel
theorem dX5_turnOnce_80 : decode cX5_turnOnce 80 = .ok (.istore 4, 2) := by decide +kernel
theorem dX5_turnOnce_82 : decode cX5_turnOnce 82 = .ok (.iload 4, 2) := by decide +kernel
theorem dX5_turnOnce_84 : decode cX5_turnOnce 84 = .ok (.ifCond .lt 80, 3) := by decide +kernel
theorem dX5_turnOnce_87 : decode cX5_turnOnce 87 = .ok (.aload_n 0, 1) := by decide +kernel
theorem dX5_turnOnce_88 : decode cX5_turnOnce 88 = .ok (.getfield 15, 3) := by decide +kernel
theorem dX5_turnOnce_91 : decode cX5_turnOnce 91 = .ok (.iload 4, 2) := by decide +kernel
theorem dX5_turnOnce_93 : decode cX5_turnOnce 93 = .ok (.iaload, 1) := by decide +kernel
theorem dX5_turnOnce_94 : decode cX5_turnOnce 94 = .ok (.invokestatic 78, 3) := by decide +kernel
theorem dX5_turnOnce_97 : decode cX5_turnOnce 97 = .ok (.istore 5, 2) := by decide +kernel
theorem dX5_turnOnce_99 : decode cX5_turnOnce 99 = .ok (.iconst 0, 1) := by decide +kernel
theorem dX5_turnOnce_100 : decode cX5_turnOnce 100 = .ok (.istore 6, 2) := by decide +kernel
theorem dX5_turnOnce_102 : decode cX5_turnOnce 102 = .ok (.iload 6, 2) := by decide +kernel
theorem dX5_turnOnce_104 : decode cX5_turnOnce 104 = .ok (.iload 5, 2) := by decide +kernel
theorem dX5_turnOnce_106 : decode cX5_turnOnce 106 = .ok (.if_icmp .ge 52, 3) := by decide +kernel
theorem dX5_turnOnce_109 : decode cX5_turnOnce 109 = .ok (.aload_n 0, 1) := by decide +kernel
theorem dX5_turnOnce_110 : decode cX5_turnOnce 110 = .ok (.getfield 24, 3) := by decide +kernel
theorem dX5_turnOnce_113 : decode cX5_turnOnce 113 = .ok (.aload_n 0, 1) := by decide +kernel
theorem dX5_turnOnce_114 : decode cX5_turnOnce 114 = .ok (.getfield 9, 3) := by decide +kernel
theorem dX5_turnOnce_117 : decode cX5_turnOnce 117 = .ok (.arraylength, 1) := by decide +kernel
theorem dX5_turnOnce_118 : decode cX5_turnOnce 118 = .ok (.if_icmp .ge 40, 3) := by decide +kernel
theorem dX5_turnOnce_121 : decode cX5_turnOnce 121 = .ok (.aload_n 0, 1) := by decide +kernel
theorem dX5_turnOnce_122 : decode cX5_turnOnce 122 = .ok (.getfield 9, 3) := by decide +kernel
theorem dX5_turnOnce_125 : decode cX5_turnOnce 125 = .ok (.aload_n 0, 1) := by decide +kernel
theorem dX5_turnOnce_126 : decode cX5_turnOnce 126 = .ok (.getfield 24, 3) := by decide +kernel
theorem dX5_turnOnce_129 : decode cX5_turnOnce 129 = .ok (.aload_n 0, 1) := by decide +kernel
theorem dX5_turnOnce_130 : decode cX5_turnOnce 130 = .ok (.getfield 15, 3) := by decide +kernel
theorem dX5_turnOnce_133 : decode cX5_turnOnce 133 = .ok (.iload 4, 2) := by decide +kernel
theorem dX5_turnOnce_135 : decode cX5_turnOnce 135 = .ok (.iaload, 1) := by decide +kernel
theorem dX5_turnOnce_136 : decode cX5_turnOnce 136 = .ok (.iload 6, 2) := by decide +kernel
theorem dX5_turnOnce_138 : decode cX5_turnOnce 138 = .ok (.invokestatic 81, 3) := by decide +kernel
theorem dX5_turnOnce_141 : decode cX5_turnOnce 141 = .ok (.iastore, 1) := by decide +kernel
theorem dX5_turnOnce_142 : decode cX5_turnOnce 142 = .ok (.aload_n 0, 1) := by decide +kernel
theorem dX5_turnOnce_143 : decode cX5_turnOnce 143 = .ok (.dup, 1) := by decide +kernel
theorem dX5_turnOnce_144 : decode cX5_turnOnce 144 = .ok (.getfield 24, 3) := by decide +kernel
theorem dX5_turnOnce_147 : decode cX5_turnOnce 147 = .ok (.iconst 1, 1) := by decide +kernel
theorem dX5_turnOnce_148 : decode cX5_turnOnce 148 = .ok (.iadd, 1) := by decide +kernel
theorem dX5_turnOnce_149 : decode cX5_turnOnce 149 = .ok (.putfield 24, 3) := by decide +kernel
theorem dX5_turnOnce_152 : decode cX5_turnOnce 152 = .ok (.iinc 6 1, 3) := by decide +kernel
theorem dX5_turnOnce_155 : decode cX5_turnOnce 155 = .ok (.goto (-53), 3) := by decide +kernel
theorem dX5_turnOnce_158 : decode cX5_turnOnce 158 = .ok (.iinc 4 (-1), 3) := by decide +kernel
theorem dX5_turnOnce_161 : decode cX5_turnOnce 161 = .ok (.goto (-79), 3) := by decide +kernel
theorem dX5_turnOnce_164 : decode cX5_turnOnce 164 = .ok (.iconst 1, 1) := by decide +kernel
theorem dX5_turnOnce_165 : decode cX5_turnOnce 165 = .ok (.ireturn, 1) := by decide +kernel
theorem dX5_widthOf_0 : decode cX5_widthOf 0 = .ok (.iload_n 0, 1) := by decide +kernel
theorem dX5_widthOf_1 : decode cX5_widthOf 1 = .ok (.iconst 2, 1) := by decide +kernel
theorem dX5_widthOf_2 : decode cX5_widthOf 2 = .ok (.if_icmp .ne 5, 3) := by decide +kernel
theorem dX5_widthOf_5 : decode cX5_widthOf 5 = .ok (.iconst 2, 1) := by decide +kernel
theorem dX5_widthOf_6 : decode cX5_widthOf 6 = .ok (.ireturn, 1) := by decide +kernel
theorem dX5_widthOf_7 : decode cX5_widthOf 7 = .ok (.iload_n 0, 1) := by decide +kernel
theorem dX5_widthOf_8 : decode cX5_widthOf 8 = .ok (.iconst 5, 1) := by decide +kernel
theorem dX5_widthOf_9 : decode cX5_widthOf 9 = .ok (.if_icmp .ne 8, 3) := by decide +kernel
theorem dX5_widthOf_12 : decode cX5_widthOf 12 = .ok (.bipush 7, 2) := by decide +kernel
theorem dX5_widthOf_14 : decode cX5_widthOf 14 = .ok (.goto 4, 3) := by decide +kernel
theorem dX5_widthOf_17 : decode cX5_widthOf 17 = .ok (.iconst 1, 1) := by decide +kernel
theorem dX5_widthOf_18 : decode cX5_widthOf 18 = .ok (.ireturn, 1) := by decide +kernel
theorem dX5_turnedGate_0 : decode cX5_turnedGate 0 = .ok (.iload_n 0, 1) := by decide +kernel
theorem dX5_turnedGate_1 : decode cX5_turnedGate 1 = .ok (.lookupswitch 50 #[(1, 35), (2, 40), (6, 38)], 35) := by decide +kernel
theorem dX5_turnedGate_36 : decode cX5_turnedGate 36 = .ok (.bipush 6, 2) := by decide +kernel
theorem dX5_turnedGate_38 : decode cX5_turnedGate 38 = .ok (.ireturn, 1) := by decide +kernel
theorem dX5_turnedGate_39 : decode cX5_turnedGate 39 = .ok (.iconst 1, 1) := by decide +kernel
theorem dX5_turnedGate_40 : decode cX5_turnedGate 40 = .ok (.ireturn, 1) := by decide +kernel
theorem dX5_turnedGate_41 : decode cX5_turnedGate 41 = .ok (.iload_n 1, 1) := by decide +kernel
theorem dX5_turnedGate_42 : decode cX5_turnedGate 42 = .ok (.ifCond .ne 7, 3) := by decide +kernel
theorem dX5_turnedGate_45 : decode cX5_turnedGate 45 = .ok (.iconst 2, 1) := by decide +kernel
theorem dX5_turnedGate_46 : decode cX5_turnedGate 46 = .ok (.goto 4, 3) := by decide +kernel
theorem dX5_turnedGate_49 : decode cX5_turnedGate 49 = .ok (.iconst 4, 1) := by decide +kernel
theorem dX5_turnedGate_50 : decode cX5_turnedGate 50 = .ok (.ireturn, 1) := by decide +kernel
theorem dX5_turnedGate_51 : decode cX5_turnedGate 51 = .ok (.iload_n 0, 1) := by decide +kernel
theorem dX5_turnedGate_52 : decode cX5_turnedGate 52 = .ok (.ireturn, 1) := by decide +kernel
theorem dX6_init_0 : decode cX6_init 0 = .ok (.aload_n 0, 1) := by decide +kernel
theorem dX6_init_1 : decode cX6_init 1 = .ok (.invokespecial 3, 3) := by decide +kernel
theorem dX6_init_4 : decode cX6_init 4 = .ok (.aload_n 0, 1) := by decide +kernel
theorem dX6_init_5 : decode cX6_init 5 = .ok (.bipush 60, 2) := by decide +kernel
theorem dX6_init_7 : decode cX6_init 7 = .ok (.newarray .int, 2) := by decide +kernel
theorem dX6_init_9 : decode cX6_init 9 = .ok (.putfield 9, 3) := by decide +kernel
theorem dX6_init_12 : decode cX6_init 12 = .ok (.aload_n 0, 1) := by decide +kernel
theorem dX6_init_13 : decode cX6_init 13 = .ok (.iconst 0, 1) := by decide +kernel
theorem dX6_init_14 : decode cX6_init 14 = .ok (.putfield 15, 3) := by decide +kernel
theorem dX6_init_17 : decode cX6_init 17 = .ok (.return_, 1) := by decide +kernel
theorem dX6_makeCopy_0 : decode cX6_makeCopy 0 = .ok (.aload_n 1, 1) := by decide +kernel
theorem dX6_makeCopy_1 : decode cX6_makeCopy 1 = .ok (.getfield 9, 3) := by decide +kernel
theorem dX6_makeCopy_4 : decode cX6_makeCopy 4 = .ok (.iconst 0, 1) := by decide +kernel
theorem dX6_makeCopy_5 : decode cX6_makeCopy 5 = .ok (.aload_n 0, 1) := by decide +kernel
theorem dX6_makeCopy_6 : decode cX6_makeCopy 6 = .ok (.getfield 9, 3) := by decide +kernel
theorem dX6_makeCopy_9 : decode cX6_makeCopy 9 = .ok (.iconst 0, 1) := by decide +kernel
theorem dX6_makeCopy_10 : decode cX6_makeCopy 10 = .ok (.aload_n 1, 1) := by decide +kernel
theorem dX6_makeCopy_11 : decode cX6_makeCopy 11 = .ok (.getfield 15, 3) := by decide +kernel
theorem dX6_makeCopy_14 : decode cX6_makeCopy 14 = .ok (.invokestatic 19, 3) := by decide +kernel
theorem dX6_makeCopy_17 : decode cX6_makeCopy 17 = .ok (.aload_n 0, 1) := by decide +kernel
theorem dX6_makeCopy_18 : decode cX6_makeCopy 18 = .ok (.aload_n 1, 1) := by decide +kernel
theorem dX6_makeCopy_19 : decode cX6_makeCopy 19 = .ok (.getfield 15, 3) := by decide +kernel
theorem dX6_makeCopy_22 : decode cX6_makeCopy 22 = .ok (.putfield 15, 3) := by decide +kernel
theorem dX6_makeCopy_25 : decode cX6_makeCopy 25 = .ok (.return_, 1) := by decide +kernel
theorem dX6_isSame_0 : decode cX6_isSame 0 = .ok (.aload_n 0, 1) := by decide +kernel
theorem dX6_isSame_1 : decode cX6_isSame 1 = .ok (.getfield 15, 3) := by decide +kernel
theorem dX6_isSame_4 : decode cX6_isSame 4 = .ok (.aload_n 1, 1) := by decide +kernel
theorem dX6_isSame_5 : decode cX6_isSame 5 = .ok (.getfield 15, 3) := by decide +kernel
theorem dX6_isSame_8 : decode cX6_isSame 8 = .ok (.if_icmp .eq 5, 3) := by decide +kernel
theorem dX6_isSame_11 : decode cX6_isSame 11 = .ok (.iconst 0, 1) := by decide +kernel
theorem dX6_isSame_12 : decode cX6_isSame 12 = .ok (.ireturn, 1) := by decide +kernel
theorem dX6_isSame_13 : decode cX6_isSame 13 = .ok (.iconst 0, 1) := by decide +kernel
theorem dX6_isSame_14 : decode cX6_isSame 14 = .ok (.istore_n 2, 1) := by decide +kernel
theorem dX6_isSame_15 : decode cX6_isSame 15 = .ok (.iload_n 2, 1) := by decide +kernel
theorem dX6_isSame_16 : decode cX6_isSame 16 = .ok (.aload_n 0, 1) := by decide +kernel
theorem dX6_isSame_17 : decode cX6_isSame 17 = .ok (.getfield 15, 3) := by decide +kernel
theorem dX6_isSame_20 : decode cX6_isSame 20 = .ok (.if_icmp .ge 26, 3) := by decide +kernel
theorem dX6_isSame_23 : decode cX6_isSame 23 = .ok (.aload_n 0, 1) := by decide +kernel
theorem dX6_isSame_24 : decode cX6_isSame 24 = .ok (.getfield 9, 3) := by decide +kernel
theorem dX6_isSame_27 : decode cX6_isSame 27 = .ok (.iload_n 2, 1) := by decide +kernel
theorem dX6_isSame_28 : decode cX6_isSame 28 = .ok (.iaload, 1) := by decide +kernel
theorem dX6_isSame_29 : decode cX6_isSame 29 = .ok (.aload_n 1, 1) := by decide +kernel
theorem dX6_isSame_30 : decode cX6_isSame 30 = .ok (.getfield 9, 3) := by decide +kernel
theorem dX6_isSame_33 : decode cX6_isSame 33 = .ok (.iload_n 2, 1) := by decide +kernel
theorem dX6_isSame_34 : decode cX6_isSame 34 = .ok (.iaload, 1) := by decide +kernel
theorem dX6_isSame_35 : decode cX6_isSame 35 = .ok (.if_icmp .eq 5, 3) := by decide +kernel
theorem dX6_isSame_38 : decode cX6_isSame 38 = .ok (.iconst 0, 1) := by decide +kernel
theorem dX6_isSame_39 : decode cX6_isSame 39 = .ok (.ireturn, 1) := by decide +kernel
theorem dX6_isSame_40 : decode cX6_isSame 40 = .ok (.iinc 2 1, 3) := by decide +kernel
theorem dX6_isSame_43 : decode cX6_isSame 43 = .ok (.goto (-28), 3) := by decide +kernel
theorem dX6_isSame_46 : decode cX6_isSame 46 = .ok (.iconst 1, 1) := by decide +kernel
theorem dX6_isSame_47 : decode cX6_isSame 47 = .ok (.ireturn, 1) := by decide +kernel
theorem dX6_at_0 : decode cX6_at 0 = .ok (.iload_n 1, 1) := by decide +kernel
theorem dX6_at_1 : decode cX6_at 1 = .ok (.aload_n 0, 1) := by decide +kernel
theorem dX6_at_2 : decode cX6_at 2 = .ok (.getfield 15, 3) := by decide +kernel
theorem dX6_at_5 : decode cX6_at 5 = .ok (.invokestatic 25, 3) := by decide +kernel
theorem dX6_at_8 : decode cX6_at 8 = .ok (.ifCond .eq 12, 3) := by decide +kernel
theorem dX6_at_11 : decode cX6_at 11 = .ok (.aload_n 0, 1) := by decide +kernel
theorem dX6_at_12 : decode cX6_at 12 = .ok (.getfield 9, 3) := by decide +kernel
theorem dX6_at_15 : decode cX6_at 15 = .ok (.iload_n 1, 1) := by decide +kernel
theorem dX6_at_16 : decode cX6_at 16 = .ok (.iaload, 1) := by decide +kernel
theorem dX6_at_17 : decode cX6_at 17 = .ok (.goto 5, 3) := by decide +kernel
theorem dX6_at_20 : decode cX6_at 20 = .ok (.bipush (-2), 2) := by decide +kernel
theorem dX6_at_22 : decode cX6_at 22 = .ok (.ireturn, 1) := by decide +kernel
theorem dX6_add_0 : decode cX6_add 0 = .ok (.aload_n 0, 1) := by decide +kernel
theorem dX6_add_1 : decode cX6_add 1 = .ok (.getfield 15, 3) := by decide +kernel
theorem dX6_add_4 : decode cX6_add 4 = .ok (.bipush 60, 2) := by decide +kernel
theorem dX6_add_6 : decode cX6_add 6 = .ok (.if_icmp .lt 5, 3) := by decide +kernel
theorem dX6_add_9 : decode cX6_add 9 = .ok (.iconst 0, 1) := by decide +kernel
theorem dX6_add_10 : decode cX6_add 10 = .ok (.ireturn, 1) := by decide +kernel
theorem dX6_add_11 : decode cX6_add 11 = .ok (.aload_n 0, 1) := by decide +kernel
theorem dX6_add_12 : decode cX6_add 12 = .ok (.getfield 9, 3) := by decide +kernel
theorem dX6_add_15 : decode cX6_add 15 = .ok (.aload_n 0, 1) := by decide +kernel
theorem dX6_add_16 : decode cX6_add 16 = .ok (.getfield 15, 3) := by decide +kernel
theorem dX6_add_19 : decode cX6_add 19 = .ok (.iload_n 1, 1) := by decide +kernel
theorem dX6_add_20 : decode cX6_add 20 = .ok (.iastore, 1) := by decide +kernel
theorem dX6_add_21 : decode cX6_add 21 = .ok (.aload_n 0, 1) := by decide +kernel
theorem dX6_add_22 : decode cX6_add 22 = .ok (.dup, 1) := by decide +kernel
theorem dX6_add_23 : decode cX6_add 23 = .ok (.getfield 15, 3) := by decide +kernel
theorem dX6_add_26 : decode cX6_add 26 = .ok (.iconst 1, 1) := by decide +kernel
theorem dX6_add_27 : decode cX6_add 27 = .ok (.iadd, 1) := by decide +kernel
theorem dX6_add_28 : decode cX6_add 28 = .ok (.putfield 15, 3) := by decide +kernel
theorem dX6_add_31 : decode cX6_add 31 = .ok (.iconst 1, 1) := by decide +kernel
theorem dX6_add_32 : decode cX6_add 32 = .ok (.ireturn, 1) := by decide +kernel
theorem dX6_cut_0 : decode cX6_cut 0 = .ok (.iload_n 1, 1) := by decide +kernel
theorem dX6_cut_1 : decode cX6_cut 1 = .ok (.ifCond .lt 17, 3) := by decide +kernel
theorem dX6_cut_4 : decode cX6_cut 4 = .ok (.iload_n 2, 1) := by decide +kernel
theorem dX6_cut_5 : decode cX6_cut 5 = .ok (.ifCond .lt 13, 3) := by decide +kernel
theorem dX6_cut_8 : decode cX6_cut 8 = .ok (.iload_n 1, 1) := by decide +kernel
theorem dX6_cut_9 : decode cX6_cut 9 = .ok (.iload_n 2, 1) := by decide +kernel
theorem dX6_cut_10 : decode cX6_cut 10 = .ok (.iadd, 1) := by decide +kernel
theorem dX6_cut_11 : decode cX6_cut 11 = .ok (.aload_n 0, 1) := by decide +kernel
theorem dX6_cut_12 : decode cX6_cut 12 = .ok (.getfield 15, 3) := by decide +kernel
theorem dX6_cut_15 : decode cX6_cut 15 = .ok (.if_icmp .le 4, 3) := by decide +kernel
theorem dX6_cut_18 : decode cX6_cut 18 = .ok (.return_, 1) := by decide +kernel
theorem dX6_cut_19 : decode cX6_cut 19 = .ok (.iload_n 1, 1) := by decide +kernel
theorem dX6_cut_20 : decode cX6_cut 20 = .ok (.iload_n 2, 1) := by decide +kernel
theorem dX6_cut_21 : decode cX6_cut 21 = .ok (.iadd, 1) := by decide +kernel
theorem dX6_cut_22 : decode cX6_cut 22 = .ok (.istore_n 3, 1) := by decide +kernel
theorem dX6_cut_23 : decode cX6_cut 23 = .ok (.iload_n 3, 1) := by decide +kernel
theorem dX6_cut_24 : decode cX6_cut 24 = .ok (.aload_n 0, 1) := by decide +kernel
theorem dX6_cut_25 : decode cX6_cut 25 = .ok (.getfield 15, 3) := by decide +kernel
theorem dX6_cut_28 : decode cX6_cut 28 = .ok (.if_icmp .ge 23, 3) := by decide +kernel
theorem dX6_cut_31 : decode cX6_cut 31 = .ok (.aload_n 0, 1) := by decide +kernel
theorem dX6_cut_32 : decode cX6_cut 32 = .ok (.getfield 9, 3) := by decide +kernel
theorem dX6_cut_35 : decode cX6_cut 35 = .ok (.iload_n 3, 1) := by decide +kernel
theorem dX6_cut_36 : decode cX6_cut 36 = .ok (.iload_n 2, 1) := by decide +kernel
theorem dX6_cut_37 : decode cX6_cut 37 = .ok (.isub, 1) := by decide +kernel
theorem dX6_cut_38 : decode cX6_cut 38 = .ok (.aload_n 0, 1) := by decide +kernel
theorem dX6_cut_39 : decode cX6_cut 39 = .ok (.getfield 9, 3) := by decide +kernel
theorem dX6_cut_42 : decode cX6_cut 42 = .ok (.iload_n 3, 1) := by decide +kernel
theorem dX6_cut_43 : decode cX6_cut 43 = .ok (.iaload, 1) := by decide +kernel
theorem dX6_cut_44 : decode cX6_cut 44 = .ok (.iastore, 1) := by decide +kernel
theorem dX6_cut_45 : decode cX6_cut 45 = .ok (.iinc 3 1, 3) := by decide +kernel
theorem dX6_cut_48 : decode cX6_cut 48 = .ok (.goto (-25), 3) := by decide +kernel
theorem dX6_cut_51 : decode cX6_cut 51 = .ok (.aload_n 0, 1) := by decide +kernel
theorem dX6_cut_52 : decode cX6_cut 52 = .ok (.dup, 1) := by decide +kernel
theorem dX6_cut_53 : decode cX6_cut 53 = .ok (.getfield 15, 3) := by decide +kernel
theorem dX6_cut_56 : decode cX6_cut 56 = .ok (.iload_n 2, 1) := by decide +kernel
theorem dX6_cut_57 : decode cX6_cut 57 = .ok (.isub, 1) := by decide +kernel
theorem dX6_cut_58 : decode cX6_cut 58 = .ok (.putfield 15, 3) := by decide +kernel
theorem dX6_cut_61 : decode cX6_cut 61 = .ok (.return_, 1) := by decide +kernel
theorem dX6_countOf_0 : decode cX6_countOf 0 = .ok (.iconst 0, 1) := by decide +kernel
theorem dX6_countOf_1 : decode cX6_countOf 1 = .ok (.istore_n 2, 1) := by decide +kernel
theorem dX6_countOf_2 : decode cX6_countOf 2 = .ok (.iconst 0, 1) := by decide +kernel
theorem dX6_countOf_3 : decode cX6_countOf 3 = .ok (.istore_n 3, 1) := by decide +kernel
theorem dX6_countOf_4 : decode cX6_countOf 4 = .ok (.iload_n 3, 1) := by decide +kernel
theorem dX6_countOf_5 : decode cX6_countOf 5 = .ok (.aload_n 0, 1) := by decide +kernel
theorem dX6_countOf_6 : decode cX6_countOf 6 = .ok (.getfield 15, 3) := by decide +kernel
theorem dX6_countOf_9 : decode cX6_countOf 9 = .ok (.if_icmp .ge 22, 3) := by decide +kernel
theorem dX6_countOf_12 : decode cX6_countOf 12 = .ok (.aload_n 0, 1) := by decide +kernel
theorem dX6_countOf_13 : decode cX6_countOf 13 = .ok (.getfield 9, 3) := by decide +kernel
theorem dX6_countOf_16 : decode cX6_countOf 16 = .ok (.iload_n 3, 1) := by decide +kernel
theorem dX6_countOf_17 : decode cX6_countOf 17 = .ok (.iaload, 1) := by decide +kernel
theorem dX6_countOf_18 : decode cX6_countOf 18 = .ok (.iload_n 1, 1) := by decide +kernel
theorem dX6_countOf_19 : decode cX6_countOf 19 = .ok (.if_icmp .ne 6, 3) := by decide +kernel
theorem dX6_countOf_22 : decode cX6_countOf 22 = .ok (.iinc 2 1, 3) := by decide +kernel
theorem dX6_countOf_25 : decode cX6_countOf 25 = .ok (.iinc 3 1, 3) := by decide +kernel
theorem dX6_countOf_28 : decode cX6_countOf 28 = .ok (.goto (-24), 3) := by decide +kernel
theorem dX6_countOf_31 : decode cX6_countOf 31 = .ok (.iload_n 2, 1) := by decide +kernel
theorem dX6_countOf_32 : decode cX6_countOf 32 = .ok (.ireturn, 1) := by decide +kernel
theorem dX6_costBy_0 : decode cX6_costBy 0 = .ok (.iconst 0, 1) := by decide +kernel
theorem dX6_costBy_1 : decode cX6_costBy 1 = .ok (.istore_n 2, 1) := by decide +kernel
theorem dX6_costBy_2 : decode cX6_costBy 2 = .ok (.iconst 0, 1) := by decide +kernel
theorem dX6_costBy_3 : decode cX6_costBy 3 = .ok (.istore_n 3, 1) := by decide +kernel
theorem dX6_costBy_4 : decode cX6_costBy 4 = .ok (.iload_n 3, 1) := by decide +kernel
theorem dX6_costBy_5 : decode cX6_costBy 5 = .ok (.aload_n 0, 1) := by decide +kernel
theorem dX6_costBy_6 : decode cX6_costBy 6 = .ok (.getfield 15, 3) := by decide +kernel
theorem dX6_costBy_9 : decode cX6_costBy 9 = .ok (.if_icmp .ge 20, 3) := by decide +kernel
theorem dX6_costBy_12 : decode cX6_costBy 12 = .ok (.iload_n 2, 1) := by decide +kernel
theorem dX6_costBy_13 : decode cX6_costBy 13 = .ok (.aload_n 1, 1) := by decide +kernel
theorem dX6_costBy_14 : decode cX6_costBy 14 = .ok (.aload_n 0, 1) := by decide +kernel
theorem dX6_costBy_15 : decode cX6_costBy 15 = .ok (.getfield 9, 3) := by decide +kernel
theorem dX6_costBy_18 : decode cX6_costBy 18 = .ok (.iload_n 3, 1) := by decide +kernel
theorem dX6_costBy_19 : decode cX6_costBy 19 = .ok (.iaload, 1) := by decide +kernel
theorem dX6_costBy_20 : decode cX6_costBy 20 = .ok (.iaload, 1) := by decide +kernel
theorem dX6_costBy_21 : decode cX6_costBy 21 = .ok (.iadd, 1) := by decide +kernel
theorem dX6_costBy_22 : decode cX6_costBy 22 = .ok (.istore_n 2, 1) := by decide +kernel
theorem dX6_costBy_23 : decode cX6_costBy 23 = .ok (.iinc 3 1, 3) := by decide +kernel
theorem dX6_costBy_26 : decode cX6_costBy 26 = .ok (.goto (-22), 3) := by decide +kernel
theorem dX6_costBy_29 : decode cX6_costBy 29 = .ok (.iload_n 2, 1) := by decide +kernel
theorem dX6_costBy_30 : decode cX6_costBy 30 = .ok (.ireturn, 1) := by decide +kernel
theorem dX6_shorten_0 : decode cX6_shorten 0 = .ok (.iconst 1, 1) := by decide +kernel
theorem dX6_shorten_1 : decode cX6_shorten 1 = .ok (.istore_n 1, 1) := by decide +kernel
theorem dX6_shorten_2 : decode cX6_shorten 2 = .ok (.iconst 0, 1) := by decide +kernel
theorem dX6_shorten_3 : decode cX6_shorten 3 = .ok (.istore_n 2, 1) := by decide +kernel
theorem dX6_shorten_4 : decode cX6_shorten 4 = .ok (.iload_n 2, 1) := by decide +kernel
theorem dX6_shorten_5 : decode cX6_shorten 5 = .ok (.bipush 120, 2) := by decide +kernel
theorem dX6_shorten_7 : decode cX6_shorten 7 = .ok (.if_icmp .ge 18, 3) := by decide +kernel
theorem dX6_shorten_10 : decode cX6_shorten 10 = .ok (.iload_n 1, 1) := by decide +kernel
theorem dX6_shorten_11 : decode cX6_shorten 11 = .ok (.ifCond .eq 14, 3) := by decide +kernel
theorem dX6_shorten_14 : decode cX6_shorten 14 = .ok (.aload_n 0, 1) := by decide +kernel
theorem dX6_shorten_15 : decode cX6_shorten 15 = .ok (.invokevirtual 29, 3) := by decide +kernel
theorem dX6_shorten_18 : decode cX6_shorten 18 = .ok (.istore_n 1, 1) := by decide +kernel
theorem dX6_shorten_19 : decode cX6_shorten 19 = .ok (.iinc 2 1, 3) := by decide +kernel
theorem dX6_shorten_22 : decode cX6_shorten 22 = .ok (.goto (-18), 3) := by decide +kernel
theorem dX6_shorten_25 : decode cX6_shorten 25 = .ok (.return_, 1) := by decide +kernel
theorem dX6_shortenOnce_0 : decode cX6_shortenOnce 0 = .ok (.iconst 0, 1) := by decide +kernel
theorem dX6_shortenOnce_1 : decode cX6_shortenOnce 1 = .ok (.istore_n 1, 1) := by decide +kernel
theorem dX6_shortenOnce_2 : decode cX6_shortenOnce 2 = .ok (.iload_n 1, 1) := by decide +kernel
theorem dX6_shortenOnce_3 : decode cX6_shortenOnce 3 = .ok (.aload_n 0, 1) := by decide +kernel
theorem dX6_shortenOnce_4 : decode cX6_shortenOnce 4 = .ok (.getfield 15, 3) := by decide +kernel
theorem dX6_shortenOnce_7 : decode cX6_shortenOnce 7 = .ok (.if_icmp .ge 19, 3) := by decide +kernel
theorem dX6_shortenOnce_10 : decode cX6_shortenOnce 10 = .ok (.aload_n 0, 1) := by decide +kernel
theorem dX6_shortenOnce_11 : decode cX6_shortenOnce 11 = .ok (.iload_n 1, 1) := by decide +kernel
theorem dX6_shortenOnce_12 : decode cX6_shortenOnce 12 = .ok (.invokevirtual 33, 3) := by decide +kernel
theorem dX6_shortenOnce_15 : decode cX6_shortenOnce 15 = .ok (.ifCond .eq 5, 3) := by decide +kernel
theorem dX6_shortenOnce_18 : decode cX6_shortenOnce 18 = .ok (.iconst 1, 1) := by decide +kernel
theorem dX6_shortenOnce_19 : decode cX6_shortenOnce 19 = .ok (.ireturn, 1) := by decide +kernel
theorem dX6_shortenOnce_20 : decode cX6_shortenOnce 20 = .ok (.iinc 1 1, 3) := by decide +kernel
theorem dX6_shortenOnce_23 : decode cX6_shortenOnce 23 = .ok (.goto (-21), 3) := by decide +kernel
theorem dX6_shortenOnce_26 : decode cX6_shortenOnce 26 = .ok (.iconst 0, 1) := by decide +kernel
theorem dX6_shortenOnce_27 : decode cX6_shortenOnce 27 = .ok (.ireturn, 1) := by decide +kernel
theorem dX6_shortenAt_0 : decode cX6_shortenAt 0 = .ok (.aload_n 0, 1) := by decide +kernel
theorem dX6_shortenAt_1 : decode cX6_shortenAt 1 = .ok (.getfield 9, 3) := by decide +kernel
theorem dX6_shortenAt_4 : decode cX6_shortenAt 4 = .ok (.iload_n 1, 1) := by decide +kernel
theorem dX6_shortenAt_5 : decode cX6_shortenAt 5 = .ok (.iaload, 1) := by decide +kernel
theorem dX6_shortenAt_6 : decode cX6_shortenAt 6 = .ok (.istore_n 2, 1) := by decide +kernel
theorem dX6_shortenAt_7 : decode cX6_shortenAt 7 = .ok (.aload_n 0, 1) := by decide +kernel
theorem dX6_shortenAt_8 : decode cX6_shortenAt 8 = .ok (.iload_n 1, 1) := by decide +kernel
theorem dX6_shortenAt_9 : decode cX6_shortenAt 9 = .ok (.iconst 1, 1) := by decide +kernel
theorem dX6_shortenAt_10 : decode cX6_shortenAt 10 = .ok (.iadd, 1) := by decide +kernel
theorem dX6_shortenAt_11 : decode cX6_shortenAt 11 = .ok (.invokevirtual 37, 3) := by decide +kernel
theorem dX6_shortenAt_14 : decode cX6_shortenAt 14 = .ok (.istore_n 3, 1) := by decide +kernel
theorem dX6_shortenAt_15 : decode cX6_shortenAt 15 = .ok (.iload_n 2, 1) := by decide +kernel
theorem dX6_shortenAt_16 : decode cX6_shortenAt 16 = .ok (.iload_n 3, 1) := by decide +kernel
theorem dX6_shortenAt_17 : decode cX6_shortenAt 17 = .ok (.invokestatic 41, 3) := by decide +kernel
theorem dX6_shortenAt_20 : decode cX6_shortenAt 20 = .ok (.ifCond .eq 11, 3) := by decide +kernel
theorem dX6_shortenAt_23 : decode cX6_shortenAt 23 = .ok (.aload_n 0, 1) := by decide +kernel
theorem dX6_shortenAt_24 : decode cX6_shortenAt 24 = .ok (.iload_n 1, 1) := by decide +kernel
theorem dX6_shortenAt_25 : decode cX6_shortenAt 25 = .ok (.iconst 2, 1) := by decide +kernel
theorem dX6_shortenAt_26 : decode cX6_shortenAt 26 = .ok (.invokevirtual 44, 3) := by decide +kernel
theorem dX6_shortenAt_29 : decode cX6_shortenAt 29 = .ok (.iconst 1, 1) := by decide +kernel
theorem dX6_shortenAt_30 : decode cX6_shortenAt 30 = .ok (.ireturn, 1) := by decide +kernel
theorem dX6_shortenAt_31 : decode cX6_shortenAt 31 = .ok (.aload_n 0, 1) := by decide +kernel
theorem dX6_shortenAt_32 : decode cX6_shortenAt 32 = .ok (.iconst 5, 1) := by decide +kernel
theorem dX6_shortenAt_33 : decode cX6_shortenAt 33 = .ok (.iload_n 1, 1) := by decide +kernel
theorem dX6_shortenAt_34 : decode cX6_shortenAt 34 = .ok (.invokevirtual 48, 3) := by decide +kernel
theorem dX6_shortenAt_37 : decode cX6_shortenAt 37 = .ok (.ifCond .eq 12, 3) := by decide +kernel
theorem dX6_shortenAt_40 : decode cX6_shortenAt 40 = .ok (.aload_n 0, 1) := by decide +kernel
theorem dX6_shortenAt_41 : decode cX6_shortenAt 41 = .ok (.iload_n 1, 1) := by decide +kernel
theorem dX6_shortenAt_42 : decode cX6_shortenAt 42 = .ok (.bipush 8, 2) := by decide +kernel
theorem dX6_shortenAt_44 : decode cX6_shortenAt 44 = .ok (.invokevirtual 44, 3) := by decide +kernel
theorem dX6_shortenAt_47 : decode cX6_shortenAt 47 = .ok (.iconst 1, 1) := by decide +kernel
theorem dX6_shortenAt_48 : decode cX6_shortenAt 48 = .ok (.ireturn, 1) := by decide +kernel
theorem dX6_shortenAt_49 : decode cX6_shortenAt 49 = .ok (.iload_n 2, 1) := by decide +kernel
theorem dX6_shortenAt_50 : decode cX6_shortenAt 50 = .ok (.bipush 6, 2) := by decide +kernel
theorem dX6_shortenAt_52 : decode cX6_shortenAt 52 = .ok (.if_icmp .ne 27, 3) := by decide +kernel
theorem dX6_shortenAt_55 : decode cX6_shortenAt 55 = .ok (.iload_n 3, 1) := by decide +kernel
theorem dX6_shortenAt_56 : decode cX6_shortenAt 56 = .ok (.bipush 6, 2) := by decide +kernel
theorem dX6_shortenAt_58 : decode cX6_shortenAt 58 = .ok (.if_icmp .ne 21, 3) := by decide +kernel
theorem dX6_shortenAt_61 : decode cX6_shortenAt 61 = .ok (.aload_n 0, 1) := by decide +kernel
theorem dX6_shortenAt_62 : decode cX6_shortenAt 62 = .ok (.getfield 9, 3) := by decide +kernel
theorem dX6_shortenAt_65 : decode cX6_shortenAt 65 = .ok (.iload_n 1, 1) := by decide +kernel
theorem dX6_shortenAt_66 : decode cX6_shortenAt 66 = .ok (.iconst 2, 1) := by decide +kernel
theorem dX6_shortenAt_67 : decode cX6_shortenAt 67 = .ok (.iastore, 1) := by decide +kernel
theorem dX6_shortenAt_68 : decode cX6_shortenAt 68 = .ok (.aload_n 0, 1) := by decide +kernel
theorem dX6_shortenAt_69 : decode cX6_shortenAt 69 = .ok (.getfield 9, 3) := by decide +kernel
theorem dX6_shortenAt_72 : decode cX6_shortenAt 72 = .ok (.iload_n 1, 1) := by decide +kernel
theorem dX6_shortenAt_73 : decode cX6_shortenAt 73 = .ok (.iconst 1, 1) := by decide +kernel
theorem dX6_shortenAt_74 : decode cX6_shortenAt 74 = .ok (.iadd, 1) := by decide +kernel
theorem dX6_shortenAt_75 : decode cX6_shortenAt 75 = .ok (.iconst 4, 1) := by decide +kernel
theorem dX6_shortenAt_76 : decode cX6_shortenAt 76 = .ok (.iastore, 1) := by decide +kernel
theorem dX6_shortenAt_77 : decode cX6_shortenAt 77 = .ok (.iconst 1, 1) := by decide +kernel
theorem dX6_shortenAt_78 : decode cX6_shortenAt 78 = .ok (.ireturn, 1) := by decide +kernel
theorem dX6_shortenAt_79 : decode cX6_shortenAt 79 = .ok (.iload_n 2, 1) := by decide +kernel
theorem dX6_shortenAt_80 : decode cX6_shortenAt 80 = .ok (.iload_n 3, 1) := by decide +kernel
theorem dX6_shortenAt_81 : decode cX6_shortenAt 81 = .ok (.invokestatic 51, 3) := by decide +kernel
theorem dX6_shortenAt_84 : decode cX6_shortenAt 84 = .ok (.istore 4, 2) := by decide +kernel
theorem dX6_shortenAt_86 : decode cX6_shortenAt 86 = .ok (.iload 4, 2) := by decide +kernel
theorem dX6_shortenAt_88 : decode cX6_shortenAt 88 = .ok (.ifCond .ge 5, 3) := by decide +kernel
theorem dX6_shortenAt_91 : decode cX6_shortenAt 91 = .ok (.iconst 0, 1) := by decide +kernel
theorem dX6_shortenAt_92 : decode cX6_shortenAt 92 = .ok (.ireturn, 1) := by decide +kernel
theorem dX6_shortenAt_93 : decode cX6_shortenAt 93 = .ok (.aload_n 0, 1) := by decide +kernel
theorem dX6_shortenAt_94 : decode cX6_shortenAt 94 = .ok (.getfield 9, 3) := by decide +kernel
theorem dX6_shortenAt_97 : decode cX6_shortenAt 97 = .ok (.iload_n 1, 1) := by decide +kernel
theorem dX6_shortenAt_98 : decode cX6_shortenAt 98 = .ok (.iload 4, 2) := by decide +kernel
theorem dX6_shortenAt_100 : decode cX6_shortenAt 100 = .ok (.iastore, 1) := by decide +kernel
theorem dX6_shortenAt_101 : decode cX6_shortenAt 101 = .ok (.aload_n 0, 1) := by decide +kernel
theorem dX6_shortenAt_102 : decode cX6_shortenAt 102 = .ok (.iload_n 1, 1) := by decide +kernel
theorem dX6_shortenAt_103 : decode cX6_shortenAt 103 = .ok (.iconst 1, 1) := by decide +kernel
theorem dX6_shortenAt_104 : decode cX6_shortenAt 104 = .ok (.iadd, 1) := by decide +kernel
theorem dX6_shortenAt_105 : decode cX6_shortenAt 105 = .ok (.iconst 1, 1) := by decide +kernel
theorem dX6_shortenAt_106 : decode cX6_shortenAt 106 = .ok (.invokevirtual 44, 3) := by decide +kernel
theorem dX6_shortenAt_109 : decode cX6_shortenAt 109 = .ok (.iconst 1, 1) := by decide +kernel
theorem dX6_shortenAt_110 : decode cX6_shortenAt 110 = .ok (.ireturn, 1) := by decide +kernel
theorem dX6_goesOut_0 : decode cX6_goesOut 0 = .ok (.iload_n 0, 1) := by decide +kernel
theorem dX6_goesOut_1 : decode cX6_goesOut 1 = .ok (.iload_n 1, 1) := by decide +kernel
theorem dX6_goesOut_2 : decode cX6_goesOut 2 = .ok (.if_icmp .ne 21, 3) := by decide +kernel
theorem dX6_goesOut_5 : decode cX6_goesOut 5 = .ok (.iload_n 0, 1) := by decide +kernel
theorem dX6_goesOut_6 : decode cX6_goesOut 6 = .ok (.ifCond .eq 13, 3) := by decide +kernel
theorem dX6_goesOut_9 : decode cX6_goesOut 9 = .ok (.iload_n 0, 1) := by decide +kernel
theorem dX6_goesOut_10 : decode cX6_goesOut 10 = .ok (.iconst 3, 1) := by decide +kernel
theorem dX6_goesOut_11 : decode cX6_goesOut 11 = .ok (.if_icmp .eq 8, 3) := by decide +kernel
theorem dX6_goesOut_14 : decode cX6_goesOut 14 = .ok (.iload_n 0, 1) := by decide +kernel
theorem dX6_goesOut_15 : decode cX6_goesOut 15 = .ok (.iconst 4, 1) := by decide +kernel
theorem dX6_goesOut_16 : decode cX6_goesOut 16 = .ok (.if_icmp .ne 7, 3) := by decide +kernel
theorem dX6_goesOut_19 : decode cX6_goesOut 19 = .ok (.iconst 1, 1) := by decide +kernel
theorem dX6_goesOut_20 : decode cX6_goesOut 20 = .ok (.goto 4, 3) := by decide +kernel
theorem dX6_goesOut_23 : decode cX6_goesOut 23 = .ok (.iconst 0, 1) := by decide +kernel
theorem dX6_goesOut_24 : decode cX6_goesOut 24 = .ok (.istore_n 2, 1) := by decide +kernel
theorem dX6_goesOut_25 : decode cX6_goesOut 25 = .ok (.iload_n 2, 1) := by decide +kernel
theorem dX6_goesOut_26 : decode cX6_goesOut 26 = .ok (.ifCond .ne 25, 3) := by decide +kernel
theorem dX6_goesOut_29 : decode cX6_goesOut 29 = .ok (.iload_n 0, 1) := by decide +kernel
theorem dX6_goesOut_30 : decode cX6_goesOut 30 = .ok (.iconst 1, 1) := by decide +kernel
theorem dX6_goesOut_31 : decode cX6_goesOut 31 = .ok (.if_icmp .ne 9, 3) := by decide +kernel
theorem dX6_goesOut_34 : decode cX6_goesOut 34 = .ok (.iload_n 1, 1) := by decide +kernel
theorem dX6_goesOut_35 : decode cX6_goesOut 35 = .ok (.bipush 6, 2) := by decide +kernel
theorem dX6_goesOut_37 : decode cX6_goesOut 37 = .ok (.if_icmp .eq 14, 3) := by decide +kernel
theorem dX6_goesOut_40 : decode cX6_goesOut 40 = .ok (.iload_n 0, 1) := by decide +kernel
theorem dX6_goesOut_41 : decode cX6_goesOut 41 = .ok (.bipush 6, 2) := by decide +kernel
theorem dX6_goesOut_43 : decode cX6_goesOut 43 = .ok (.if_icmp .ne 12, 3) := by decide +kernel
theorem dX6_goesOut_46 : decode cX6_goesOut 46 = .ok (.iload_n 1, 1) := by decide +kernel
theorem dX6_goesOut_47 : decode cX6_goesOut 47 = .ok (.iconst 1, 1) := by decide +kernel
theorem dX6_goesOut_48 : decode cX6_goesOut 48 = .ok (.if_icmp .ne 7, 3) := by decide +kernel
theorem dX6_goesOut_51 : decode cX6_goesOut 51 = .ok (.iconst 1, 1) := by decide +kernel
theorem dX6_goesOut_52 : decode cX6_goesOut 52 = .ok (.goto 4, 3) := by decide +kernel
theorem dX6_goesOut_55 : decode cX6_goesOut 55 = .ok (.iconst 0, 1) := by decide +kernel
theorem dX6_goesOut_56 : decode cX6_goesOut 56 = .ok (.ireturn, 1) := by decide +kernel
theorem dX6_joinOf_0 : decode cX6_joinOf 0 = .ok (.iload_n 0, 1) := by decide +kernel
theorem dX6_joinOf_1 : decode cX6_joinOf 1 = .ok (.iconst 1, 1) := by decide +kernel
theorem dX6_joinOf_2 : decode cX6_joinOf 2 = .ok (.if_icmp .ne 10, 3) := by decide +kernel
theorem dX6_joinOf_5 : decode cX6_joinOf 5 = .ok (.iload_n 1, 1) := by decide +kernel
theorem dX6_joinOf_6 : decode cX6_joinOf 6 = .ok (.iconst 1, 1) := by decide +kernel
theorem dX6_joinOf_7 : decode cX6_joinOf 7 = .ok (.if_icmp .ne 5, 3) := by decide +kernel
theorem dX6_joinOf_10 : decode cX6_joinOf 10 = .ok (.iconst 2, 1) := by decide +kernel
theorem dX6_joinOf_11 : decode cX6_joinOf 11 = .ok (.ireturn, 1) := by decide +kernel
theorem dX6_joinOf_12 : decode cX6_joinOf 12 = .ok (.iload_n 0, 1) := by decide +kernel
theorem dX6_joinOf_13 : decode cX6_joinOf 13 = .ok (.iconst 2, 1) := by decide +kernel
theorem dX6_joinOf_14 : decode cX6_joinOf 14 = .ok (.if_icmp .ne 10, 3) := by decide +kernel
theorem dX6_joinOf_17 : decode cX6_joinOf 17 = .ok (.iload_n 1, 1) := by decide +kernel
theorem dX6_joinOf_18 : decode cX6_joinOf 18 = .ok (.iconst 2, 1) := by decide +kernel
theorem dX6_joinOf_19 : decode cX6_joinOf 19 = .ok (.if_icmp .ne 5, 3) := by decide +kernel
theorem dX6_joinOf_22 : decode cX6_joinOf 22 = .ok (.iconst 4, 1) := by decide +kernel
theorem dX6_joinOf_23 : decode cX6_joinOf 23 = .ok (.ireturn, 1) := by decide +kernel
theorem dX6_joinOf_24 : decode cX6_joinOf 24 = .ok (.iload_n 0, 1) := by decide +kernel
theorem dX6_joinOf_25 : decode cX6_joinOf 25 = .ok (.iconst 2, 1) := by decide +kernel
theorem dX6_joinOf_26 : decode cX6_joinOf 26 = .ok (.if_icmp .ne 9, 3) := by decide +kernel
theorem dX6_joinOf_29 : decode cX6_joinOf 29 = .ok (.iload_n 1, 1) := by decide +kernel
theorem dX6_joinOf_30 : decode cX6_joinOf 30 = .ok (.bipush 6, 2) := by decide +kernel
theorem dX6_joinOf_32 : decode cX6_joinOf 32 = .ok (.if_icmp .eq 14, 3) := by decide +kernel
theorem dX6_joinOf_35 : decode cX6_joinOf 35 = .ok (.iload_n 0, 1) := by decide +kernel
theorem dX6_joinOf_36 : decode cX6_joinOf 36 = .ok (.bipush 6, 2) := by decide +kernel
theorem dX6_joinOf_38 : decode cX6_joinOf 38 = .ok (.if_icmp .ne 12, 3) := by decide +kernel
theorem dX6_joinOf_41 : decode cX6_joinOf 41 = .ok (.iload_n 1, 1) := by decide +kernel
theorem dX6_joinOf_42 : decode cX6_joinOf 42 = .ok (.iconst 2, 1) := by decide +kernel
theorem dX6_joinOf_43 : decode cX6_joinOf 43 = .ok (.if_icmp .ne 7, 3) := by decide +kernel
theorem dX6_joinOf_46 : decode cX6_joinOf 46 = .ok (.iconst 1, 1) := by decide +kernel
theorem dX6_joinOf_47 : decode cX6_joinOf 47 = .ok (.goto 5, 3) := by decide +kernel
theorem dX6_joinOf_50 : decode cX6_joinOf 50 = .ok (.bipush (-2), 2) := by decide +kernel
theorem dX6_joinOf_52 : decode cX6_joinOf 52 = .ok (.ireturn, 1) := by decide +kernel
theorem dX6_standsEightTimes_0 : decode cX6_standsEightTimes 0 = .ok (.iconst 0, 1) := by decide +kernel
theorem dX6_standsEightTimes_1 : decode cX6_standsEightTimes 1 = .ok (.istore_n 3, 1) := by decide +kernel
theorem dX6_standsEightTimes_2 : decode cX6_standsEightTimes 2 = .ok (.iload_n 3, 1) := by decide +kernel
theorem dX6_standsEightTimes_3 : decode cX6_standsEightTimes 3 = .ok (.bipush 8, 2) := by decide +kernel
theorem dX6_standsEightTimes_5 : decode cX6_standsEightTimes 5 = .ok (.if_icmp .ge 22, 3) := by decide +kernel
theorem dX6_standsEightTimes_8 : decode cX6_standsEightTimes 8 = .ok (.aload_n 0, 1) := by decide +kernel
theorem dX6_standsEightTimes_9 : decode cX6_standsEightTimes 9 = .ok (.iload_n 2, 1) := by decide +kernel
theorem dX6_standsEightTimes_10 : decode cX6_standsEightTimes 10 = .ok (.iload_n 3, 1) := by decide +kernel
theorem dX6_standsEightTimes_11 : decode cX6_standsEightTimes 11 = .ok (.iadd, 1) := by decide +kernel
theorem dX6_standsEightTimes_12 : decode cX6_standsEightTimes 12 = .ok (.invokevirtual 37, 3) := by decide +kernel
theorem dX6_standsEightTimes_15 : decode cX6_standsEightTimes 15 = .ok (.iload_n 1, 1) := by decide +kernel
theorem dX6_standsEightTimes_16 : decode cX6_standsEightTimes 16 = .ok (.if_icmp .eq 5, 3) := by decide +kernel
theorem dX6_standsEightTimes_19 : decode cX6_standsEightTimes 19 = .ok (.iconst 0, 1) := by decide +kernel
theorem dX6_standsEightTimes_20 : decode cX6_standsEightTimes 20 = .ok (.ireturn, 1) := by decide +kernel
theorem dX6_standsEightTimes_21 : decode cX6_standsEightTimes 21 = .ok (.iinc 3 1, 3) := by decide +kernel
theorem dX6_standsEightTimes_24 : decode cX6_standsEightTimes 24 = .ok (.goto (-22), 3) := by decide +kernel
theorem dX6_standsEightTimes_27 : decode cX6_standsEightTimes 27 = .ok (.iconst 1, 1) := by decide +kernel
theorem dX6_standsEightTimes_28 : decode cX6_standsEightTimes 28 = .ok (.ireturn, 1) := by decide +kernel
theorem dX7_init_0 : decode cX7_init 0 = .ok (.aload_n 0, 1) := by decide +kernel
theorem dX7_init_1 : decode cX7_init 1 = .ok (.invokespecial 3, 3) := by decide +kernel
theorem dX7_init_4 : decode cX7_init 4 = .ok (.aload_n 0, 1) := by decide +kernel
theorem dX7_init_5 : decode cX7_init 5 = .ok (.bipush 16, 2) := by decide +kernel
theorem dX7_init_7 : decode cX7_init 7 = .ok (.newarray .long, 2) := by decide +kernel
theorem dX7_init_9 : decode cX7_init 9 = .ok (.putfield 11, 3) := by decide +kernel
theorem dX7_init_12 : decode cX7_init 12 = .ok (.aload_n 0, 1) := by decide +kernel
theorem dX7_init_13 : decode cX7_init 13 = .ok (.iconst 0, 1) := by decide +kernel
theorem dX7_init_14 : decode cX7_init 14 = .ok (.putfield 15, 3) := by decide +kernel
theorem dX7_init_17 : decode cX7_init 17 = .ok (.aload_n 0, 1) := by decide +kernel
theorem dX7_init_18 : decode cX7_init 18 = .ok (.invokevirtual 19, 3) := by decide +kernel
theorem dX7_init_21 : decode cX7_init 21 = .ok (.return_, 1) := by decide +kernel
theorem dX7_placeOf_0 : decode cX7_placeOf 0 = .ok (.iload_n 0, 1) := by decide +kernel
theorem dX7_placeOf_1 : decode cX7_placeOf 1 = .ok (.iconst 2, 1) := by decide +kernel
theorem dX7_placeOf_2 : decode cX7_placeOf 2 = .ok (.imul, 1) := by decide +kernel
theorem dX7_placeOf_3 : decode cX7_placeOf 3 = .ok (.iload_n 1, 1) := by decide +kernel
theorem dX7_placeOf_4 : decode cX7_placeOf 4 = .ok (.iadd, 1) := by decide +kernel
theorem dX7_placeOf_5 : decode cX7_placeOf 5 = .ok (.iconst 4, 1) := by decide +kernel
theorem dX7_placeOf_6 : decode cX7_placeOf 6 = .ok (.imul, 1) := by decide +kernel
theorem dX7_placeOf_7 : decode cX7_placeOf 7 = .ok (.ireturn, 1) := by decide +kernel
theorem dX7_makeUnit_0 : decode cX7_makeUnit 0 = .ok (.aload_n 0, 1) := by decide +kernel
theorem dX7_makeUnit_1 : decode cX7_makeUnit 1 = .ok (.invokevirtual 22, 3) := by decide +kernel
theorem dX7_makeUnit_4 : decode cX7_makeUnit 4 = .ok (.aload_n 0, 1) := by decide +kernel
theorem dX7_makeUnit_5 : decode cX7_makeUnit 5 = .ok (.getfield 11, 3) := by decide +kernel
theorem dX7_makeUnit_8 : decode cX7_makeUnit 8 = .ok (.iconst 0, 1) := by decide +kernel
theorem dX7_makeUnit_9 : decode cX7_makeUnit 9 = .ok (.iconst 0, 1) := by decide +kernel
theorem dX7_makeUnit_10 : decode cX7_makeUnit 10 = .ok (.invokestatic 25, 3) := by decide +kernel
theorem dX7_makeUnit_13 : decode cX7_makeUnit 13 = .ok (.lconst 1, 1) := by decide +kernel
theorem dX7_makeUnit_14 : decode cX7_makeUnit 14 = .ok (.lastore, 1) := by decide +kernel
theorem dX7_makeUnit_15 : decode cX7_makeUnit 15 = .ok (.aload_n 0, 1) := by decide +kernel
theorem dX7_makeUnit_16 : decode cX7_makeUnit 16 = .ok (.getfield 11, 3) := by decide +kernel
theorem dX7_makeUnit_19 : decode cX7_makeUnit 19 = .ok (.iconst 1, 1) := by decide +kernel
theorem dX7_makeUnit_20 : decode cX7_makeUnit 20 = .ok (.iconst 1, 1) := by decide +kernel
theorem dX7_makeUnit_21 : decode cX7_makeUnit 21 = .ok (.invokestatic 25, 3) := by decide +kernel
theorem dX7_makeUnit_24 : decode cX7_makeUnit 24 = .ok (.lconst 1, 1) := by decide +kernel
theorem dX7_makeUnit_25 : decode cX7_makeUnit 25 = .ok (.lastore, 1) := by decide +kernel
theorem dX7_makeUnit_26 : decode cX7_makeUnit 26 = .ok (.aload_n 0, 1) := by decide +kernel
theorem dX7_makeUnit_27 : decode cX7_makeUnit 27 = .ok (.iconst 0, 1) := by decide +kernel
theorem dX7_makeUnit_28 : decode cX7_makeUnit 28 = .ok (.putfield 15, 3) := by decide +kernel
theorem dX7_makeUnit_31 : decode cX7_makeUnit 31 = .ok (.return_, 1) := by decide +kernel
theorem dX7_makeCopy_0 : decode cX7_makeCopy 0 = .ok (.aload_n 1, 1) := by decide +kernel
theorem dX7_makeCopy_1 : decode cX7_makeCopy 1 = .ok (.getfield 11, 3) := by decide +kernel
theorem dX7_makeCopy_4 : decode cX7_makeCopy 4 = .ok (.iconst 0, 1) := by decide +kernel
theorem dX7_makeCopy_5 : decode cX7_makeCopy 5 = .ok (.aload_n 0, 1) := by decide +kernel
theorem dX7_makeCopy_6 : decode cX7_makeCopy 6 = .ok (.getfield 11, 3) := by decide +kernel
theorem dX7_makeCopy_9 : decode cX7_makeCopy 9 = .ok (.iconst 0, 1) := by decide +kernel
theorem dX7_makeCopy_10 : decode cX7_makeCopy 10 = .ok (.bipush 16, 2) := by decide +kernel
theorem dX7_makeCopy_12 : decode cX7_makeCopy 12 = .ok (.invokestatic 29, 3) := by decide +kernel
theorem dX7_makeCopy_15 : decode cX7_makeCopy 15 = .ok (.aload_n 0, 1) := by decide +kernel
theorem dX7_makeCopy_16 : decode cX7_makeCopy 16 = .ok (.aload_n 1, 1) := by decide +kernel
theorem dX7_makeCopy_17 : decode cX7_makeCopy 17 = .ok (.getfield 15, 3) := by decide +kernel
theorem dX7_makeCopy_20 : decode cX7_makeCopy 20 = .ok (.putfield 15, 3) := by decide +kernel
theorem dX7_makeCopy_23 : decode cX7_makeCopy 23 = .ok (.return_, 1) := by decide +kernel
theorem dX7_isSame_0 : decode cX7_isSame 0 = .ok (.aload_n 0, 1) := by decide +kernel
theorem dX7_isSame_1 : decode cX7_isSame 1 = .ok (.getfield 15, 3) := by decide +kernel
theorem dX7_isSame_4 : decode cX7_isSame 4 = .ok (.aload_n 1, 1) := by decide +kernel
theorem dX7_isSame_5 : decode cX7_isSame 5 = .ok (.getfield 15, 3) := by decide +kernel
theorem dX7_isSame_8 : decode cX7_isSame 8 = .ok (.if_icmp .eq 5, 3) := by decide +kernel
theorem dX7_isSame_11 : decode cX7_isSame 11 = .ok (.iconst 0, 1) := by decide +kernel
theorem dX7_isSame_12 : decode cX7_isSame 12 = .ok (.ireturn, 1) := by decide +kernel
theorem dX7_isSame_13 : decode cX7_isSame 13 = .ok (.iconst 0, 1) := by decide +kernel
theorem dX7_isSame_14 : decode cX7_isSame 14 = .ok (.istore_n 2, 1) := by decide +kernel
theorem dX7_isSame_15 : decode cX7_isSame 15 = .ok (.iload_n 2, 1) := by decide +kernel
theorem dX7_isSame_16 : decode cX7_isSame 16 = .ok (.bipush 16, 2) := by decide +kernel
theorem dX7_isSame_18 : decode cX7_isSame 18 = .ok (.if_icmp .ge 27, 3) := by decide +kernel
theorem dX7_isSame_21 : decode cX7_isSame 21 = .ok (.aload_n 0, 1) := by decide +kernel
theorem dX7_isSame_22 : decode cX7_isSame 22 = .ok (.getfield 11, 3) := by decide +kernel
theorem dX7_isSame_25 : decode cX7_isSame 25 = .ok (.iload_n 2, 1) := by decide +kernel
theorem dX7_isSame_26 : decode cX7_isSame 26 = .ok (.laload, 1) := by decide +kernel
theorem dX7_isSame_27 : decode cX7_isSame 27 = .ok (.aload_n 1, 1) := by decide +kernel
theorem dX7_isSame_28 : decode cX7_isSame 28 = .ok (.getfield 11, 3) := by decide +kernel
theorem dX7_isSame_31 : decode cX7_isSame 31 = .ok (.iload_n 2, 1) := by decide +kernel
theorem dX7_isSame_32 : decode cX7_isSame 32 = .ok (.laload, 1) := by decide +kernel
theorem dX7_isSame_33 : decode cX7_isSame 33 = .ok (.lcmp, 1) := by decide +kernel
theorem dX7_isSame_34 : decode cX7_isSame 34 = .ok (.ifCond .eq 5, 3) := by decide +kernel
theorem dX7_isSame_37 : decode cX7_isSame 37 = .ok (.iconst 0, 1) := by decide +kernel
theorem dX7_isSame_38 : decode cX7_isSame 38 = .ok (.ireturn, 1) := by decide +kernel
theorem dX7_isSame_39 : decode cX7_isSame 39 = .ok (.iinc 2 1, 3) := by decide +kernel
theorem dX7_isSame_42 : decode cX7_isSame 42 = .ok (.goto (-27), 3) := by decide +kernel
theorem dX7_isSame_45 : decode cX7_isSame 45 = .ok (.iconst 1, 1) := by decide +kernel
theorem dX7_isSame_46 : decode cX7_isSame 46 = .ok (.ireturn, 1) := by decide +kernel
theorem dX7_makeTurned_0 : decode cX7_makeTurned 0 = .ok (.iconst 0, 1) := by decide +kernel
theorem dX7_makeTurned_1 : decode cX7_makeTurned 1 = .ok (.istore_n 2, 1) := by decide +kernel
theorem dX7_makeTurned_2 : decode cX7_makeTurned 2 = .ok (.iload_n 2, 1) := by decide +kernel
theorem dX7_makeTurned_3 : decode cX7_makeTurned 3 = .ok (.iconst 2, 1) := by decide +kernel
theorem dX7_makeTurned_4 : decode cX7_makeTurned 4 = .ok (.if_icmp .ge 107, 3) := by decide +kernel
theorem dX7_makeTurned_7 : decode cX7_makeTurned 7 = .ok (.iconst 0, 1) := by decide +kernel
theorem dX7_makeTurned_8 : decode cX7_makeTurned 8 = .ok (.istore_n 3, 1) := by decide +kernel
theorem dX7_makeTurned_9 : decode cX7_makeTurned 9 = .ok (.iload_n 3, 1) := by decide +kernel
theorem dX7_makeTurned_10 : decode cX7_makeTurned 10 = .ok (.iconst 2, 1) := by decide +kernel
theorem dX7_makeTurned_11 : decode cX7_makeTurned 11 = .ok (.if_icmp .ge 94, 3) := by decide +kernel
theorem dX7_makeTurned_14 : decode cX7_makeTurned 14 = .ok (.iload_n 2, 1) := by decide +kernel
theorem dX7_makeTurned_15 : decode cX7_makeTurned 15 = .ok (.iload_n 3, 1) := by decide +kernel
theorem dX7_makeTurned_16 : decode cX7_makeTurned 16 = .ok (.invokestatic 25, 3) := by decide +kernel
theorem dX7_makeTurned_19 : decode cX7_makeTurned 19 = .ok (.istore 4, 2) := by decide +kernel
theorem dX7_makeTurned_21 : decode cX7_makeTurned 21 = .ok (.iload_n 3, 1) := by decide +kernel
theorem dX7_makeTurned_22 : decode cX7_makeTurned 22 = .ok (.iload_n 2, 1) := by decide +kernel
theorem dX7_makeTurned_23 : decode cX7_makeTurned 23 = .ok (.invokestatic 25, 3) := by decide +kernel
theorem dX7_makeTurned_26 : decode cX7_makeTurned 26 = .ok (.istore 5, 2) := by decide +kernel
theorem dX7_makeTurned_28 : decode cX7_makeTurned 28 = .ok (.aload_n 0, 1) := by decide +kernel
theorem dX7_makeTurned_29 : decode cX7_makeTurned 29 = .ok (.getfield 11, 3) := by decide +kernel
theorem dX7_makeTurned_32 : decode cX7_makeTurned 32 = .ok (.iload 4, 2) := by decide +kernel
theorem dX7_makeTurned_34 : decode cX7_makeTurned 34 = .ok (.aload_n 1, 1) := by decide +kernel
theorem dX7_makeTurned_35 : decode cX7_makeTurned 35 = .ok (.getfield 11, 3) := by decide +kernel
theorem dX7_makeTurned_38 : decode cX7_makeTurned 38 = .ok (.iload 5, 2) := by decide +kernel
theorem dX7_makeTurned_40 : decode cX7_makeTurned 40 = .ok (.laload, 1) := by decide +kernel
theorem dX7_makeTurned_41 : decode cX7_makeTurned 41 = .ok (.lastore, 1) := by decide +kernel
theorem dX7_makeTurned_42 : decode cX7_makeTurned 42 = .ok (.aload_n 0, 1) := by decide +kernel
theorem dX7_makeTurned_43 : decode cX7_makeTurned 43 = .ok (.getfield 11, 3) := by decide +kernel
theorem dX7_makeTurned_46 : decode cX7_makeTurned 46 = .ok (.iload 4, 2) := by decide +kernel
theorem dX7_makeTurned_48 : decode cX7_makeTurned 48 = .ok (.iconst 1, 1) := by decide +kernel
theorem dX7_makeTurned_49 : decode cX7_makeTurned 49 = .ok (.iadd, 1) := by decide +kernel
theorem dX7_makeTurned_50 : decode cX7_makeTurned 50 = .ok (.aload_n 1, 1) := by decide +kernel
theorem dX7_makeTurned_51 : decode cX7_makeTurned 51 = .ok (.getfield 11, 3) := by decide +kernel
theorem dX7_makeTurned_54 : decode cX7_makeTurned 54 = .ok (.iload 5, 2) := by decide +kernel
theorem dX7_makeTurned_56 : decode cX7_makeTurned 56 = .ok (.iconst 3, 1) := by decide +kernel
theorem dX7_makeTurned_57 : decode cX7_makeTurned 57 = .ok (.iadd, 1) := by decide +kernel
theorem dX7_makeTurned_58 : decode cX7_makeTurned 58 = .ok (.laload, 1) := by decide +kernel
theorem dX7_makeTurned_59 : decode cX7_makeTurned 59 = .ok (.lneg, 1) := by decide +kernel
theorem dX7_makeTurned_60 : decode cX7_makeTurned 60 = .ok (.lastore, 1) := by decide +kernel
theorem dX7_makeTurned_61 : decode cX7_makeTurned 61 = .ok (.aload_n 0, 1) := by decide +kernel
theorem dX7_makeTurned_62 : decode cX7_makeTurned 62 = .ok (.getfield 11, 3) := by decide +kernel
theorem dX7_makeTurned_65 : decode cX7_makeTurned 65 = .ok (.iload 4, 2) := by decide +kernel
theorem dX7_makeTurned_67 : decode cX7_makeTurned 67 = .ok (.iconst 2, 1) := by decide +kernel
theorem dX7_makeTurned_68 : decode cX7_makeTurned 68 = .ok (.iadd, 1) := by decide +kernel
theorem dX7_makeTurned_69 : decode cX7_makeTurned 69 = .ok (.aload_n 1, 1) := by decide +kernel
theorem dX7_makeTurned_70 : decode cX7_makeTurned 70 = .ok (.getfield 11, 3) := by decide +kernel
theorem dX7_makeTurned_73 : decode cX7_makeTurned 73 = .ok (.iload 5, 2) := by decide +kernel
theorem dX7_makeTurned_75 : decode cX7_makeTurned 75 = .ok (.iconst 2, 1) := by decide +kernel
theorem dX7_makeTurned_76 : decode cX7_makeTurned 76 = .ok (.iadd, 1) := by decide +kernel
theorem dX7_makeTurned_77 : decode cX7_makeTurned 77 = .ok (.laload, 1) := by decide +kernel
theorem dX7_makeTurned_78 : decode cX7_makeTurned 78 = .ok (.lneg, 1) := by decide +kernel
theorem dX7_makeTurned_79 : decode cX7_makeTurned 79 = .ok (.lastore, 1) := by decide +kernel
theorem dX7_makeTurned_80 : decode cX7_makeTurned 80 = .ok (.aload_n 0, 1) := by decide +kernel
theorem dX7_makeTurned_81 : decode cX7_makeTurned 81 = .ok (.getfield 11, 3) := by decide +kernel
theorem dX7_makeTurned_84 : decode cX7_makeTurned 84 = .ok (.iload 4, 2) := by decide +kernel
theorem dX7_makeTurned_86 : decode cX7_makeTurned 86 = .ok (.iconst 3, 1) := by decide +kernel
theorem dX7_makeTurned_87 : decode cX7_makeTurned 87 = .ok (.iadd, 1) := by decide +kernel
theorem dX7_makeTurned_88 : decode cX7_makeTurned 88 = .ok (.aload_n 1, 1) := by decide +kernel
theorem dX7_makeTurned_89 : decode cX7_makeTurned 89 = .ok (.getfield 11, 3) := by decide +kernel
theorem dX7_makeTurned_92 : decode cX7_makeTurned 92 = .ok (.iload 5, 2) := by decide +kernel
theorem dX7_makeTurned_94 : decode cX7_makeTurned 94 = .ok (.iconst 1, 1) := by decide +kernel
theorem dX7_makeTurned_95 : decode cX7_makeTurned 95 = .ok (.iadd, 1) := by decide +kernel
theorem dX7_makeTurned_96 : decode cX7_makeTurned 96 = .ok (.laload, 1) := by decide +kernel
theorem dX7_makeTurned_97 : decode cX7_makeTurned 97 = .ok (.lneg, 1) := by decide +kernel
theorem dX7_makeTurned_98 : decode cX7_makeTurned 98 = .ok (.lastore, 1) := by decide +kernel
theorem dX7_makeTurned_99 : decode cX7_makeTurned 99 = .ok (.iinc 3 1, 3) := by decide +kernel
theorem dX7_makeTurned_102 : decode cX7_makeTurned 102 = .ok (.goto (-93), 3) := by decide +kernel
theorem dX7_makeTurned_105 : decode cX7_makeTurned 105 = .ok (.iinc 2 1, 3) := by decide +kernel
theorem dX7_makeTurned_108 : decode cX7_makeTurned 108 = .ok (.goto (-106), 3) := by decide +kernel
theorem dX7_makeTurned_111 : decode cX7_makeTurned 111 = .ok (.aload_n 0, 1) := by decide +kernel
theorem dX7_makeTurned_112 : decode cX7_makeTurned 112 = .ok (.aload_n 1, 1) := by decide +kernel
theorem dX7_makeTurned_113 : decode cX7_makeTurned 113 = .ok (.getfield 15, 3) := by decide +kernel
theorem dX7_makeTurned_116 : decode cX7_makeTurned 116 = .ok (.putfield 15, 3) := by decide +kernel
theorem dX7_makeTurned_119 : decode cX7_makeTurned 119 = .ok (.return_, 1) := by decide +kernel
theorem dX7_makeProduct_0 : decode cX7_makeProduct 0 = .ok (.aload_n 0, 1) := by decide +kernel
theorem dX7_makeProduct_1 : decode cX7_makeProduct 1 = .ok (.invokevirtual 22, 3) := by decide +kernel
theorem dX7_makeProduct_4 : decode cX7_makeProduct 4 = .ok (.iconst 0, 1) := by decide +kernel
theorem dX7_makeProduct_5 : decode cX7_makeProduct 5 = .ok (.istore_n 3, 1) := by decide +kernel
theorem dX7_makeProduct_6 : decode cX7_makeProduct 6 = .ok (.iload_n 3, 1) := by decide +kernel
theorem dX7_makeProduct_7 : decode cX7_makeProduct 7 = .ok (.iconst 2, 1) := by decide +kernel
theorem dX7_makeProduct_8 : decode cX7_makeProduct 8 = .ok (.if_icmp .ge 82, 3) := by decide +kernel
theorem dX7_makeProduct_11 : decode cX7_makeProduct 11 = .ok (.iconst 0, 1) := by decide +kernel
theorem dX7_makeProduct_12 : decode cX7_makeProduct 12 = .ok (.istore 4, 2) := by decide +kernel
theorem dX7_makeProduct_14 : decode cX7_makeProduct 14 = .ok (.iload 4, 2) := by decide +kernel
theorem dX7_makeProduct_16 : decode cX7_makeProduct 16 = .ok (.iconst 2, 1) := by decide +kernel
theorem dX7_makeProduct_17 : decode cX7_makeProduct 17 = .ok (.if_icmp .ge 67, 3) := by decide +kernel
theorem dX7_makeProduct_20 : decode cX7_makeProduct 20 = .ok (.iload_n 3, 1) := by decide +kernel
theorem dX7_makeProduct_21 : decode cX7_makeProduct 21 = .ok (.iload 4, 2) := by decide +kernel
theorem dX7_makeProduct_23 : decode cX7_makeProduct 23 = .ok (.invokestatic 25, 3) := by decide +kernel
theorem dX7_makeProduct_26 : decode cX7_makeProduct 26 = .ok (.istore 5, 2) := by decide +kernel
theorem dX7_makeProduct_28 : decode cX7_makeProduct 28 = .ok (.aload_n 0, 1) := by decide +kernel
theorem dX7_makeProduct_29 : decode cX7_makeProduct 29 = .ok (.iload 5, 2) := by decide +kernel
theorem dX7_makeProduct_31 : decode cX7_makeProduct 31 = .ok (.aload_n 1, 1) := by decide +kernel
theorem dX7_makeProduct_32 : decode cX7_makeProduct 32 = .ok (.getfield 11, 3) := by decide +kernel
theorem dX7_makeProduct_35 : decode cX7_makeProduct 35 = .ok (.iload_n 3, 1) := by decide +kernel
theorem dX7_makeProduct_36 : decode cX7_makeProduct 36 = .ok (.iconst 0, 1) := by decide +kernel
theorem dX7_makeProduct_37 : decode cX7_makeProduct 37 = .ok (.invokestatic 25, 3) := by decide +kernel
theorem dX7_makeProduct_40 : decode cX7_makeProduct 40 = .ok (.aload_n 2, 1) := by decide +kernel
theorem dX7_makeProduct_41 : decode cX7_makeProduct 41 = .ok (.getfield 11, 3) := by decide +kernel
theorem dX7_makeProduct_44 : decode cX7_makeProduct 44 = .ok (.iconst 0, 1) := by decide +kernel
theorem dX7_makeProduct_45 : decode cX7_makeProduct 45 = .ok (.iload 4, 2) := by decide +kernel
theorem dX7_makeProduct_47 : decode cX7_makeProduct 47 = .ok (.invokestatic 25, 3) := by decide +kernel
theorem dX7_makeProduct_50 : decode cX7_makeProduct 50 = .ok (.invokevirtual 35, 3) := by decide +kernel
theorem dX7_makeProduct_53 : decode cX7_makeProduct 53 = .ok (.aload_n 0, 1) := by decide +kernel
theorem dX7_makeProduct_54 : decode cX7_makeProduct 54 = .ok (.iload 5, 2) := by decide +kernel
theorem dX7_makeProduct_56 : decode cX7_makeProduct 56 = .ok (.aload_n 1, 1) := by decide +kernel
theorem dX7_makeProduct_57 : decode cX7_makeProduct 57 = .ok (.getfield 11, 3) := by decide +kernel
theorem dX7_makeProduct_60 : decode cX7_makeProduct 60 = .ok (.iload_n 3, 1) := by decide +kernel
theorem dX7_makeProduct_61 : decode cX7_makeProduct 61 = .ok (.iconst 1, 1) := by decide +kernel
theorem dX7_makeProduct_62 : decode cX7_makeProduct 62 = .ok (.invokestatic 25, 3) := by decide +kernel
theorem dX7_makeProduct_65 : decode cX7_makeProduct 65 = .ok (.aload_n 2, 1) := by decide +kernel
theorem dX7_makeProduct_66 : decode cX7_makeProduct 66 = .ok (.getfield 11, 3) := by decide +kernel
theorem dX7_makeProduct_69 : decode cX7_makeProduct 69 = .ok (.iconst 1, 1) := by decide +kernel
theorem dX7_makeProduct_70 : decode cX7_makeProduct 70 = .ok (.iload 4, 2) := by decide +kernel
theorem dX7_makeProduct_72 : decode cX7_makeProduct 72 = .ok (.invokestatic 25, 3) := by decide +kernel
theorem dX7_makeProduct_75 : decode cX7_makeProduct 75 = .ok (.invokevirtual 35, 3) := by decide +kernel
theorem dX7_makeProduct_78 : decode cX7_makeProduct 78 = .ok (.iinc 4 1, 3) := by decide +kernel
theorem dX7_makeProduct_81 : decode cX7_makeProduct 81 = .ok (.goto (-67), 3) := by decide +kernel
theorem dX7_makeProduct_84 : decode cX7_makeProduct 84 = .ok (.iinc 3 1, 3) := by decide +kernel
theorem dX7_makeProduct_87 : decode cX7_makeProduct 87 = .ok (.goto (-81), 3) := by decide +kernel
theorem dX7_makeProduct_90 : decode cX7_makeProduct 90 = .ok (.aload_n 0, 1) := by decide +kernel
theorem dX7_makeProduct_91 : decode cX7_makeProduct 91 = .ok (.aload_n 1, 1) := by decide +kernel
theorem dX7_makeProduct_92 : decode cX7_makeProduct 92 = .ok (.getfield 15, 3) := by decide +kernel
theorem dX7_makeProduct_95 : decode cX7_makeProduct 95 = .ok (.aload_n 2, 1) := by decide +kernel
theorem dX7_makeProduct_96 : decode cX7_makeProduct 96 = .ok (.getfield 15, 3) := by decide +kernel
theorem dX7_makeProduct_99 : decode cX7_makeProduct 99 = .ok (.iadd, 1) := by decide +kernel
theorem dX7_makeProduct_100 : decode cX7_makeProduct 100 = .ok (.putfield 15, 3) := by decide +kernel
theorem dX7_makeProduct_103 : decode cX7_makeProduct 103 = .ok (.return_, 1) := by decide +kernel
theorem dX7_clearParts_0 : decode cX7_clearParts 0 = .ok (.iconst 0, 1) := by decide +kernel
theorem dX7_clearParts_1 : decode cX7_clearParts 1 = .ok (.istore_n 1, 1) := by decide +kernel
theorem dX7_clearParts_2 : decode cX7_clearParts 2 = .ok (.iload_n 1, 1) := by decide +kernel
theorem dX7_clearParts_3 : decode cX7_clearParts 3 = .ok (.bipush 16, 2) := by decide +kernel
theorem dX7_clearParts_5 : decode cX7_clearParts 5 = .ok (.if_icmp .ge 16, 3) := by decide +kernel
theorem dX7_clearParts_8 : decode cX7_clearParts 8 = .ok (.aload_n 0, 1) := by decide +kernel
theorem dX7_clearParts_9 : decode cX7_clearParts 9 = .ok (.getfield 11, 3) := by decide +kernel
theorem dX7_clearParts_12 : decode cX7_clearParts 12 = .ok (.iload_n 1, 1) := by decide +kernel
theorem dX7_clearParts_13 : decode cX7_clearParts 13 = .ok (.lconst 0, 1) := by decide +kernel
theorem dX7_clearParts_14 : decode cX7_clearParts 14 = .ok (.lastore, 1) := by decide +kernel
theorem dX7_clearParts_15 : decode cX7_clearParts 15 = .ok (.iinc 1 1, 3) := by decide +kernel
theorem dX7_clearParts_18 : decode cX7_clearParts 18 = .ok (.goto (-16), 3) := by decide +kernel
theorem dX7_clearParts_21 : decode cX7_clearParts 21 = .ok (.return_, 1) := by decide +kernel
theorem dX7_addProduct_0 : decode cX7_addProduct 0 = .ok (.aload_n 2, 1) := by decide +kernel
theorem dX7_addProduct_1 : decode cX7_addProduct 1 = .ok (.iload_n 3, 1) := by decide +kernel
theorem dX7_addProduct_2 : decode cX7_addProduct 2 = .ok (.laload, 1) := by decide +kernel
theorem dX7_addProduct_3 : decode cX7_addProduct 3 = .ok (.lstore 6, 2) := by decide +kernel
theorem dX7_addProduct_5 : decode cX7_addProduct 5 = .ok (.aload_n 2, 1) := by decide +kernel
theorem dX7_addProduct_6 : decode cX7_addProduct 6 = .ok (.iload_n 3, 1) := by decide +kernel
theorem dX7_addProduct_7 : decode cX7_addProduct 7 = .ok (.iconst 1, 1) := by decide +kernel
theorem dX7_addProduct_8 : decode cX7_addProduct 8 = .ok (.iadd, 1) := by decide +kernel
theorem dX7_addProduct_9 : decode cX7_addProduct 9 = .ok (.laload, 1) := by decide +kernel
theorem dX7_addProduct_10 : decode cX7_addProduct 10 = .ok (.lstore 8, 2) := by decide +kernel
theorem dX7_addProduct_12 : decode cX7_addProduct 12 = .ok (.aload_n 2, 1) := by decide +kernel
theorem dX7_addProduct_13 : decode cX7_addProduct 13 = .ok (.iload_n 3, 1) := by decide +kernel
theorem dX7_addProduct_14 : decode cX7_addProduct 14 = .ok (.iconst 2, 1) := by decide +kernel
theorem dX7_addProduct_15 : decode cX7_addProduct 15 = .ok (.iadd, 1) := by decide +kernel
theorem dX7_addProduct_16 : decode cX7_addProduct 16 = .ok (.laload, 1) := by decide +kernel
theorem dX7_addProduct_17 : decode cX7_addProduct 17 = .ok (.lstore 10, 2) := by decide +kernel
theorem dX7_addProduct_19 : decode cX7_addProduct 19 = .ok (.aload_n 2, 1) := by decide +kernel
theorem dX7_addProduct_20 : decode cX7_addProduct 20 = .ok (.iload_n 3, 1) := by decide +kernel
theorem dX7_addProduct_21 : decode cX7_addProduct 21 = .ok (.iconst 3, 1) := by decide +kernel
theorem dX7_addProduct_22 : decode cX7_addProduct 22 = .ok (.iadd, 1) := by decide +kernel
theorem dX7_addProduct_23 : decode cX7_addProduct 23 = .ok (.laload, 1) := by decide +kernel
theorem dX7_addProduct_24 : decode cX7_addProduct 24 = .ok (.lstore 12, 2) := by decide +kernel
theorem dX7_addProduct_26 : decode cX7_addProduct 26 = .ok (.aload 4, 2) := by decide +kernel
theorem dX7_addProduct_28 : decode cX7_addProduct 28 = .ok (.iload 5, 2) := by decide +kernel
theorem dX7_addProduct_30 : decode cX7_addProduct 30 = .ok (.laload, 1) := by decide +kernel
theorem dX7_addProduct_31 : decode cX7_addProduct 31 = .ok (.lstore 14, 2) := by decide +kernel
theorem dX7_addProduct_33 : decode cX7_addProduct 33 = .ok (.aload 4, 2) := by decide +kernel
theorem dX7_addProduct_35 : decode cX7_addProduct 35 = .ok (.iload 5, 2) := by decide +kernel
theorem dX7_addProduct_37 : decode cX7_addProduct 37 = .ok (.iconst 1, 1) := by decide +kernel
theorem dX7_addProduct_38 : decode cX7_addProduct 38 = .ok (.iadd, 1) := by decide +kernel
theorem dX7_addProduct_39 : decode cX7_addProduct 39 = .ok (.laload, 1) := by decide +kernel
theorem dX7_addProduct_40 : decode cX7_addProduct 40 = .ok (.lstore 16, 2) := by decide +kernel
theorem dX7_addProduct_42 : decode cX7_addProduct 42 = .ok (.aload 4, 2) := by decide +kernel
theorem dX7_addProduct_44 : decode cX7_addProduct 44 = .ok (.iload 5, 2) := by decide +kernel
theorem dX7_addProduct_46 : decode cX7_addProduct 46 = .ok (.iconst 2, 1) := by decide +kernel
theorem dX7_addProduct_47 : decode cX7_addProduct 47 = .ok (.iadd, 1) := by decide +kernel
theorem dX7_addProduct_48 : decode cX7_addProduct 48 = .ok (.laload, 1) := by decide +kernel
theorem dX7_addProduct_49 : decode cX7_addProduct 49 = .ok (.lstore 18, 2) := by decide +kernel
theorem dX7_addProduct_51 : decode cX7_addProduct 51 = .ok (.aload 4, 2) := by decide +kernel
theorem dX7_addProduct_53 : decode cX7_addProduct 53 = .ok (.iload 5, 2) := by decide +kernel
theorem dX7_addProduct_55 : decode cX7_addProduct 55 = .ok (.iconst 3, 1) := by decide +kernel
theorem dX7_addProduct_56 : decode cX7_addProduct 56 = .ok (.iadd, 1) := by decide +kernel
theorem dX7_addProduct_57 : decode cX7_addProduct 57 = .ok (.laload, 1) := by decide +kernel
theorem dX7_addProduct_58 : decode cX7_addProduct 58 = .ok (.lstore 20, 2) := by decide +kernel
theorem dX7_addProduct_60 : decode cX7_addProduct 60 = .ok (.aload_n 0, 1) := by decide +kernel
theorem dX7_addProduct_61 : decode cX7_addProduct 61 = .ok (.getfield 11, 3) := by decide +kernel
theorem dX7_addProduct_64 : decode cX7_addProduct 64 = .ok (.iload_n 1, 1) := by decide +kernel
theorem dX7_addProduct_65 : decode cX7_addProduct 65 = .ok (.dup2, 1) := by decide +kernel
theorem dX7_addProduct_66 : decode cX7_addProduct 66 = .ok (.laload, 1) := by decide +kernel
theorem dX7_addProduct_67 : decode cX7_addProduct 67 = .ok (.lload 6, 2) := by decide +kernel
theorem dX7_addProduct_69 : decode cX7_addProduct 69 = .ok (.lload 14, 2) := by decide +kernel
theorem dX7_addProduct_71 : decode cX7_addProduct 71 = .ok (.lmul, 1) := by decide +kernel
theorem dX7_addProduct_72 : decode cX7_addProduct 72 = .ok (.lload 8, 2) := by decide +kernel
theorem dX7_addProduct_74 : decode cX7_addProduct 74 = .ok (.lload 20, 2) := by decide +kernel
theorem dX7_addProduct_76 : decode cX7_addProduct 76 = .ok (.lmul, 1) := by decide +kernel
theorem dX7_addProduct_77 : decode cX7_addProduct 77 = .ok (.lsub, 1) := by decide +kernel
theorem dX7_addProduct_78 : decode cX7_addProduct 78 = .ok (.lload 10, 2) := by decide +kernel
theorem dX7_addProduct_80 : decode cX7_addProduct 80 = .ok (.lload 18, 2) := by decide +kernel
theorem dX7_addProduct_82 : decode cX7_addProduct 82 = .ok (.lmul, 1) := by decide +kernel
theorem dX7_addProduct_83 : decode cX7_addProduct 83 = .ok (.lsub, 1) := by decide +kernel
theorem dX7_addProduct_84 : decode cX7_addProduct 84 = .ok (.lload 12, 2) := by decide +kernel
theorem dX7_addProduct_86 : decode cX7_addProduct 86 = .ok (.lload 16, 2) := by decide +kernel
theorem dX7_addProduct_88 : decode cX7_addProduct 88 = .ok (.lmul, 1) := by decide +kernel
theorem dX7_addProduct_89 : decode cX7_addProduct 89 = .ok (.lsub, 1) := by decide +kernel
theorem dX7_addProduct_90 : decode cX7_addProduct 90 = .ok (.ladd, 1) := by decide +kernel
theorem dX7_addProduct_91 : decode cX7_addProduct 91 = .ok (.lastore, 1) := by decide +kernel
theorem dX7_addProduct_92 : decode cX7_addProduct 92 = .ok (.aload_n 0, 1) := by decide +kernel
theorem dX7_addProduct_93 : decode cX7_addProduct 93 = .ok (.getfield 11, 3) := by decide +kernel
theorem dX7_addProduct_96 : decode cX7_addProduct 96 = .ok (.iload_n 1, 1) := by decide +kernel
theorem dX7_addProduct_97 : decode cX7_addProduct 97 = .ok (.iconst 1, 1) := by decide +kernel
theorem dX7_addProduct_98 : decode cX7_addProduct 98 = .ok (.iadd, 1) := by decide +kernel
theorem dX7_addProduct_99 : decode cX7_addProduct 99 = .ok (.dup2, 1) := by decide +kernel
theorem dX7_addProduct_100 : decode cX7_addProduct 100 = .ok (.laload, 1) := by decide +kernel
theorem dX7_addProduct_101 : decode cX7_addProduct 101 = .ok (.lload 6, 2) := by decide +kernel
theorem dX7_addProduct_103 : decode cX7_addProduct 103 = .ok (.lload 16, 2) := by decide +kernel
theorem dX7_addProduct_105 : decode cX7_addProduct 105 = .ok (.lmul, 1) := by decide +kernel
theorem dX7_addProduct_106 : decode cX7_addProduct 106 = .ok (.lload 8, 2) := by decide +kernel
theorem dX7_addProduct_108 : decode cX7_addProduct 108 = .ok (.lload 14, 2) := by decide +kernel
theorem dX7_addProduct_110 : decode cX7_addProduct 110 = .ok (.lmul, 1) := by decide +kernel
theorem dX7_addProduct_111 : decode cX7_addProduct 111 = .ok (.ladd, 1) := by decide +kernel
theorem dX7_addProduct_112 : decode cX7_addProduct 112 = .ok (.lload 10, 2) := by decide +kernel
theorem dX7_addProduct_114 : decode cX7_addProduct 114 = .ok (.lload 20, 2) := by decide +kernel
theorem dX7_addProduct_116 : decode cX7_addProduct 116 = .ok (.lmul, 1) := by decide +kernel
theorem dX7_addProduct_117 : decode cX7_addProduct 117 = .ok (.lsub, 1) := by decide +kernel
theorem dX7_addProduct_118 : decode cX7_addProduct 118 = .ok (.lload 12, 2) := by decide +kernel
theorem dX7_addProduct_120 : decode cX7_addProduct 120 = .ok (.lload 18, 2) := by decide +kernel
theorem dX7_addProduct_122 : decode cX7_addProduct 122 = .ok (.lmul, 1) := by decide +kernel
theorem dX7_addProduct_123 : decode cX7_addProduct 123 = .ok (.lsub, 1) := by decide +kernel
theorem dX7_addProduct_124 : decode cX7_addProduct 124 = .ok (.ladd, 1) := by decide +kernel
theorem dX7_addProduct_125 : decode cX7_addProduct 125 = .ok (.lastore, 1) := by decide +kernel
theorem dX7_addProduct_126 : decode cX7_addProduct 126 = .ok (.aload_n 0, 1) := by decide +kernel
theorem dX7_addProduct_127 : decode cX7_addProduct 127 = .ok (.getfield 11, 3) := by decide +kernel
theorem dX7_addProduct_130 : decode cX7_addProduct 130 = .ok (.iload_n 1, 1) := by decide +kernel
theorem dX7_addProduct_131 : decode cX7_addProduct 131 = .ok (.iconst 2, 1) := by decide +kernel
theorem dX7_addProduct_132 : decode cX7_addProduct 132 = .ok (.iadd, 1) := by decide +kernel
theorem dX7_addProduct_133 : decode cX7_addProduct 133 = .ok (.dup2, 1) := by decide +kernel
theorem dX7_addProduct_134 : decode cX7_addProduct 134 = .ok (.laload, 1) := by decide +kernel
theorem dX7_addProduct_135 : decode cX7_addProduct 135 = .ok (.lload 6, 2) := by decide +kernel
theorem dX7_addProduct_137 : decode cX7_addProduct 137 = .ok (.lload 18, 2) := by decide +kernel
theorem dX7_addProduct_139 : decode cX7_addProduct 139 = .ok (.lmul, 1) := by decide +kernel
theorem dX7_addProduct_140 : decode cX7_addProduct 140 = .ok (.lload 8, 2) := by decide +kernel
theorem dX7_addProduct_142 : decode cX7_addProduct 142 = .ok (.lload 16, 2) := by decide +kernel
theorem dX7_addProduct_144 : decode cX7_addProduct 144 = .ok (.lmul, 1) := by decide +kernel
theorem dX7_addProduct_145 : decode cX7_addProduct 145 = .ok (.ladd, 1) := by decide +kernel
theorem dX7_addProduct_146 : decode cX7_addProduct 146 = .ok (.lload 10, 2) := by decide +kernel
theorem dX7_addProduct_148 : decode cX7_addProduct 148 = .ok (.lload 14, 2) := by decide +kernel
theorem dX7_addProduct_150 : decode cX7_addProduct 150 = .ok (.lmul, 1) := by decide +kernel
theorem dX7_addProduct_151 : decode cX7_addProduct 151 = .ok (.ladd, 1) := by decide +kernel
theorem dX7_addProduct_152 : decode cX7_addProduct 152 = .ok (.lload 12, 2) := by decide +kernel
theorem dX7_addProduct_154 : decode cX7_addProduct 154 = .ok (.lload 20, 2) := by decide +kernel
theorem dX7_addProduct_156 : decode cX7_addProduct 156 = .ok (.lmul, 1) := by decide +kernel
theorem dX7_addProduct_157 : decode cX7_addProduct 157 = .ok (.lsub, 1) := by decide +kernel
theorem dX7_addProduct_158 : decode cX7_addProduct 158 = .ok (.ladd, 1) := by decide +kernel
theorem dX7_addProduct_159 : decode cX7_addProduct 159 = .ok (.lastore, 1) := by decide +kernel
theorem dX7_addProduct_160 : decode cX7_addProduct 160 = .ok (.aload_n 0, 1) := by decide +kernel
theorem dX7_addProduct_161 : decode cX7_addProduct 161 = .ok (.getfield 11, 3) := by decide +kernel
theorem dX7_addProduct_164 : decode cX7_addProduct 164 = .ok (.iload_n 1, 1) := by decide +kernel
theorem dX7_addProduct_165 : decode cX7_addProduct 165 = .ok (.iconst 3, 1) := by decide +kernel
theorem dX7_addProduct_166 : decode cX7_addProduct 166 = .ok (.iadd, 1) := by decide +kernel
theorem dX7_addProduct_167 : decode cX7_addProduct 167 = .ok (.dup2, 1) := by decide +kernel
theorem dX7_addProduct_168 : decode cX7_addProduct 168 = .ok (.laload, 1) := by decide +kernel
theorem dX7_addProduct_169 : decode cX7_addProduct 169 = .ok (.lload 6, 2) := by decide +kernel
theorem dX7_addProduct_171 : decode cX7_addProduct 171 = .ok (.lload 20, 2) := by decide +kernel
theorem dX7_addProduct_173 : decode cX7_addProduct 173 = .ok (.lmul, 1) := by decide +kernel
theorem dX7_addProduct_174 : decode cX7_addProduct 174 = .ok (.lload 8, 2) := by decide +kernel
theorem dX7_addProduct_176 : decode cX7_addProduct 176 = .ok (.lload 18, 2) := by decide +kernel
theorem dX7_addProduct_178 : decode cX7_addProduct 178 = .ok (.lmul, 1) := by decide +kernel
theorem dX7_addProduct_179 : decode cX7_addProduct 179 = .ok (.ladd, 1) := by decide +kernel
theorem dX7_addProduct_180 : decode cX7_addProduct 180 = .ok (.lload 10, 2) := by decide +kernel
theorem dX7_addProduct_182 : decode cX7_addProduct 182 = .ok (.lload 16, 2) := by decide +kernel
theorem dX7_addProduct_184 : decode cX7_addProduct 184 = .ok (.lmul, 1) := by decide +kernel
theorem dX7_addProduct_185 : decode cX7_addProduct 185 = .ok (.ladd, 1) := by decide +kernel
theorem dX7_addProduct_186 : decode cX7_addProduct 186 = .ok (.lload 12, 2) := by decide +kernel
theorem dX7_addProduct_188 : decode cX7_addProduct 188 = .ok (.lload 14, 2) := by decide +kernel
theorem dX7_addProduct_190 : decode cX7_addProduct 190 = .ok (.lmul, 1) := by decide +kernel
theorem dX7_addProduct_191 : decode cX7_addProduct 191 = .ok (.ladd, 1) := by decide +kernel
theorem dX7_addProduct_192 : decode cX7_addProduct 192 = .ok (.ladd, 1) := by decide +kernel
theorem dX7_addProduct_193 : decode cX7_addProduct 193 = .ok (.lastore, 1) := by decide +kernel
theorem dX7_addProduct_194 : decode cX7_addProduct 194 = .ok (.return_, 1) := by decide +kernel
theorem dX7_applyRow_0 : decode cX7_applyRow 0 = .ok (.iload_n 3, 1) := by decide +kernel
theorem dX7_applyRow_1 : decode cX7_applyRow 1 = .ok (.aload_n 1, 1) := by decide +kernel
theorem dX7_applyRow_2 : decode cX7_applyRow 2 = .ok (.getfield 39, 3) := by decide +kernel
theorem dX7_applyRow_5 : decode cX7_applyRow 5 = .ok (.invokestatic 44, 3) := by decide +kernel
theorem dX7_applyRow_8 : decode cX7_applyRow 8 = .ok (.istore 4, 2) := by decide +kernel
theorem dX7_applyRow_10 : decode cX7_applyRow 10 = .ok (.iload_n 2, 1) := by decide +kernel
theorem dX7_applyRow_11 : decode cX7_applyRow 11 = .ok (.iconst 0, 1) := by decide +kernel
theorem dX7_applyRow_12 : decode cX7_applyRow 12 = .ok (.invokestatic 49, 3) := by decide +kernel
theorem dX7_applyRow_15 : decode cX7_applyRow 15 = .ok (.istore 5, 2) := by decide +kernel
theorem dX7_applyRow_17 : decode cX7_applyRow 17 = .ok (.iload 5, 2) := by decide +kernel
theorem dX7_applyRow_19 : decode cX7_applyRow 19 = .ok (.iload 4, 2) := by decide +kernel
theorem dX7_applyRow_21 : decode cX7_applyRow 21 = .ok (.if_icmp .ge 19, 3) := by decide +kernel
theorem dX7_applyRow_24 : decode cX7_applyRow 24 = .ok (.aload_n 0, 1) := by decide +kernel
theorem dX7_applyRow_25 : decode cX7_applyRow 25 = .ok (.aload_n 1, 1) := by decide +kernel
theorem dX7_applyRow_26 : decode cX7_applyRow 26 = .ok (.iload 5, 2) := by decide +kernel
theorem dX7_applyRow_28 : decode cX7_applyRow 28 = .ok (.invokevirtual 52, 3) := by decide +kernel
theorem dX7_applyRow_31 : decode cX7_applyRow 31 = .ok (.invokevirtual 56, 3) := by decide +kernel
theorem dX7_applyRow_34 : decode cX7_applyRow 34 = .ok (.iinc 5 1, 3) := by decide +kernel
theorem dX7_applyRow_37 : decode cX7_applyRow 37 = .ok (.goto (-20), 3) := by decide +kernel
theorem dX7_applyRow_40 : decode cX7_applyRow 40 = .ok (.return_, 1) := by decide +kernel
theorem dX7_applyBehind_0 : decode cX7_applyBehind 0 = .ok (.aload_n 0, 1) := by decide +kernel
theorem dX7_applyBehind_1 : decode cX7_applyBehind 1 = .ok (.iload_n 1, 1) := by decide +kernel
theorem dX7_applyBehind_2 : decode cX7_applyBehind 2 = .ok (.iconst 0, 1) := by decide +kernel
theorem dX7_applyBehind_3 : decode cX7_applyBehind 3 = .ok (.iconst 0, 1) := by decide +kernel
theorem dX7_applyBehind_4 : decode cX7_applyBehind 4 = .ok (.invokestatic 25, 3) := by decide +kernel
theorem dX7_applyBehind_7 : decode cX7_applyBehind 7 = .ok (.iconst 0, 1) := by decide +kernel
theorem dX7_applyBehind_8 : decode cX7_applyBehind 8 = .ok (.iconst 1, 1) := by decide +kernel
theorem dX7_applyBehind_9 : decode cX7_applyBehind 9 = .ok (.invokestatic 25, 3) := by decide +kernel
theorem dX7_applyBehind_12 : decode cX7_applyBehind 12 = .ok (.invokevirtual 60, 3) := by decide +kernel
theorem dX7_applyBehind_15 : decode cX7_applyBehind 15 = .ok (.aload_n 0, 1) := by decide +kernel
theorem dX7_applyBehind_16 : decode cX7_applyBehind 16 = .ok (.iload_n 1, 1) := by decide +kernel
theorem dX7_applyBehind_17 : decode cX7_applyBehind 17 = .ok (.iconst 1, 1) := by decide +kernel
theorem dX7_applyBehind_18 : decode cX7_applyBehind 18 = .ok (.iconst 0, 1) := by decide +kernel
theorem dX7_applyBehind_19 : decode cX7_applyBehind 19 = .ok (.invokestatic 25, 3) := by decide +kernel
theorem dX7_applyBehind_22 : decode cX7_applyBehind 22 = .ok (.iconst 1, 1) := by decide +kernel
theorem dX7_applyBehind_23 : decode cX7_applyBehind 23 = .ok (.iconst 1, 1) := by decide +kernel
theorem dX7_applyBehind_24 : decode cX7_applyBehind 24 = .ok (.invokestatic 25, 3) := by decide +kernel
theorem dX7_applyBehind_27 : decode cX7_applyBehind 27 = .ok (.invokevirtual 60, 3) := by decide +kernel
theorem dX7_applyBehind_30 : decode cX7_applyBehind 30 = .ok (.iload_n 1, 1) := by decide +kernel
theorem dX7_applyBehind_31 : decode cX7_applyBehind 31 = .ok (.ifCond .ne 17, 3) := by decide +kernel
theorem dX7_applyBehind_34 : decode cX7_applyBehind 34 = .ok (.aload_n 0, 1) := by decide +kernel
theorem dX7_applyBehind_35 : decode cX7_applyBehind 35 = .ok (.dup, 1) := by decide +kernel
theorem dX7_applyBehind_36 : decode cX7_applyBehind 36 = .ok (.getfield 15, 3) := by decide +kernel
theorem dX7_applyBehind_39 : decode cX7_applyBehind 39 = .ok (.iconst 1, 1) := by decide +kernel
theorem dX7_applyBehind_40 : decode cX7_applyBehind 40 = .ok (.iadd, 1) := by decide +kernel
theorem dX7_applyBehind_41 : decode cX7_applyBehind 41 = .ok (.putfield 15, 3) := by decide +kernel
theorem dX7_applyBehind_44 : decode cX7_applyBehind 44 = .ok (.aload_n 0, 1) := by decide +kernel
theorem dX7_applyBehind_45 : decode cX7_applyBehind 45 = .ok (.invokevirtual 64, 3) := by decide +kernel
theorem dX7_applyBehind_48 : decode cX7_applyBehind 48 = .ok (.return_, 1) := by decide +kernel
theorem dX7_applyAhead_0 : decode cX7_applyAhead 0 = .ok (.aload_n 0, 1) := by decide +kernel
theorem dX7_applyAhead_1 : decode cX7_applyAhead 1 = .ok (.iload_n 1, 1) := by decide +kernel
theorem dX7_applyAhead_2 : decode cX7_applyAhead 2 = .ok (.iconst 0, 1) := by decide +kernel
theorem dX7_applyAhead_3 : decode cX7_applyAhead 3 = .ok (.iconst 0, 1) := by decide +kernel
theorem dX7_applyAhead_4 : decode cX7_applyAhead 4 = .ok (.invokestatic 25, 3) := by decide +kernel
theorem dX7_applyAhead_7 : decode cX7_applyAhead 7 = .ok (.iconst 1, 1) := by decide +kernel
theorem dX7_applyAhead_8 : decode cX7_applyAhead 8 = .ok (.iconst 0, 1) := by decide +kernel
theorem dX7_applyAhead_9 : decode cX7_applyAhead 9 = .ok (.invokestatic 25, 3) := by decide +kernel
theorem dX7_applyAhead_12 : decode cX7_applyAhead 12 = .ok (.invokevirtual 60, 3) := by decide +kernel
theorem dX7_applyAhead_15 : decode cX7_applyAhead 15 = .ok (.aload_n 0, 1) := by decide +kernel
theorem dX7_applyAhead_16 : decode cX7_applyAhead 16 = .ok (.iload_n 1, 1) := by decide +kernel
theorem dX7_applyAhead_17 : decode cX7_applyAhead 17 = .ok (.iconst 0, 1) := by decide +kernel
theorem dX7_applyAhead_18 : decode cX7_applyAhead 18 = .ok (.iconst 1, 1) := by decide +kernel
theorem dX7_applyAhead_19 : decode cX7_applyAhead 19 = .ok (.invokestatic 25, 3) := by decide +kernel
theorem dX7_applyAhead_22 : decode cX7_applyAhead 22 = .ok (.iconst 1, 1) := by decide +kernel
theorem dX7_applyAhead_23 : decode cX7_applyAhead 23 = .ok (.iconst 1, 1) := by decide +kernel
theorem dX7_applyAhead_24 : decode cX7_applyAhead 24 = .ok (.invokestatic 25, 3) := by decide +kernel
theorem dX7_applyAhead_27 : decode cX7_applyAhead 27 = .ok (.invokevirtual 60, 3) := by decide +kernel
theorem dX7_applyAhead_30 : decode cX7_applyAhead 30 = .ok (.iload_n 1, 1) := by decide +kernel
theorem dX7_applyAhead_31 : decode cX7_applyAhead 31 = .ok (.ifCond .ne 17, 3) := by decide +kernel
theorem dX7_applyAhead_34 : decode cX7_applyAhead 34 = .ok (.aload_n 0, 1) := by decide +kernel
theorem dX7_applyAhead_35 : decode cX7_applyAhead 35 = .ok (.dup, 1) := by decide +kernel
theorem dX7_applyAhead_36 : decode cX7_applyAhead 36 = .ok (.getfield 15, 3) := by decide +kernel
theorem dX7_applyAhead_39 : decode cX7_applyAhead 39 = .ok (.iconst 1, 1) := by decide +kernel
theorem dX7_applyAhead_40 : decode cX7_applyAhead 40 = .ok (.iadd, 1) := by decide +kernel
theorem dX7_applyAhead_41 : decode cX7_applyAhead 41 = .ok (.putfield 15, 3) := by decide +kernel
theorem dX7_applyAhead_44 : decode cX7_applyAhead 44 = .ok (.aload_n 0, 1) := by decide +kernel
theorem dX7_applyAhead_45 : decode cX7_applyAhead 45 = .ok (.invokevirtual 64, 3) := by decide +kernel
theorem dX7_applyAhead_48 : decode cX7_applyAhead 48 = .ok (.return_, 1) := by decide +kernel
theorem dX7_applyToPair_0 : decode cX7_applyToPair 0 = .ok (.iload_n 1, 1) := by decide +kernel
theorem dX7_applyToPair_1 : decode cX7_applyToPair 1 = .ok (.tableswitch 113 0 6 #[43, 52, 61, 70, 79, 88, 103], 43) := by decide +kernel
theorem dX7_applyToPair_44 : decode cX7_applyToPair 44 = .ok (.aload_n 0, 1) := by decide +kernel
theorem dX7_applyToPair_45 : decode cX7_applyToPair 45 = .ok (.iload_n 2, 1) := by decide +kernel
theorem dX7_applyToPair_46 : decode cX7_applyToPair 46 = .ok (.iload_n 3, 1) := by decide +kernel
theorem dX7_applyToPair_47 : decode cX7_applyToPair 47 = .ok (.invokevirtual 67, 3) := by decide +kernel
theorem dX7_applyToPair_50 : decode cX7_applyToPair 50 = .ok (.goto 64, 3) := by decide +kernel
theorem dX7_applyToPair_53 : decode cX7_applyToPair 53 = .ok (.aload_n 0, 1) := by decide +kernel
theorem dX7_applyToPair_54 : decode cX7_applyToPair 54 = .ok (.iload_n 3, 1) := by decide +kernel
theorem dX7_applyToPair_55 : decode cX7_applyToPair 55 = .ok (.iconst 1, 1) := by decide +kernel
theorem dX7_applyToPair_56 : decode cX7_applyToPair 56 = .ok (.invokevirtual 71, 3) := by decide +kernel
theorem dX7_applyToPair_59 : decode cX7_applyToPair 59 = .ok (.goto 55, 3) := by decide +kernel
theorem dX7_applyToPair_62 : decode cX7_applyToPair 62 = .ok (.aload_n 0, 1) := by decide +kernel
theorem dX7_applyToPair_63 : decode cX7_applyToPair 63 = .ok (.iload_n 3, 1) := by decide +kernel
theorem dX7_applyToPair_64 : decode cX7_applyToPair 64 = .ok (.iconst 2, 1) := by decide +kernel
theorem dX7_applyToPair_65 : decode cX7_applyToPair 65 = .ok (.invokevirtual 71, 3) := by decide +kernel
theorem dX7_applyToPair_68 : decode cX7_applyToPair 68 = .ok (.goto 46, 3) := by decide +kernel
theorem dX7_applyToPair_71 : decode cX7_applyToPair 71 = .ok (.aload_n 0, 1) := by decide +kernel
theorem dX7_applyToPair_72 : decode cX7_applyToPair 72 = .ok (.iload_n 2, 1) := by decide +kernel
theorem dX7_applyToPair_73 : decode cX7_applyToPair 73 = .ok (.iload_n 3, 1) := by decide +kernel
theorem dX7_applyToPair_74 : decode cX7_applyToPair 74 = .ok (.invokevirtual 74, 3) := by decide +kernel
theorem dX7_applyToPair_77 : decode cX7_applyToPair 77 = .ok (.goto 37, 3) := by decide +kernel
theorem dX7_applyToPair_80 : decode cX7_applyToPair 80 = .ok (.aload_n 0, 1) := by decide +kernel
theorem dX7_applyToPair_81 : decode cX7_applyToPair 81 = .ok (.iload_n 3, 1) := by decide +kernel
theorem dX7_applyToPair_82 : decode cX7_applyToPair 82 = .ok (.iconst 4, 1) := by decide +kernel
theorem dX7_applyToPair_83 : decode cX7_applyToPair 83 = .ok (.invokevirtual 71, 3) := by decide +kernel
theorem dX7_applyToPair_86 : decode cX7_applyToPair 86 = .ok (.goto 28, 3) := by decide +kernel
theorem dX7_applyToPair_89 : decode cX7_applyToPair 89 = .ok (.aload_n 0, 1) := by decide +kernel
theorem dX7_applyToPair_90 : decode cX7_applyToPair 90 = .ok (.iload_n 2, 1) := by decide +kernel
theorem dX7_applyToPair_91 : decode cX7_applyToPair 91 = .ok (.iconst 1, 1) := by decide +kernel
theorem dX7_applyToPair_92 : decode cX7_applyToPair 92 = .ok (.invokevirtual 71, 3) := by decide +kernel
theorem dX7_applyToPair_95 : decode cX7_applyToPair 95 = .ok (.aload_n 0, 1) := by decide +kernel
theorem dX7_applyToPair_96 : decode cX7_applyToPair 96 = .ok (.iload_n 3, 1) := by decide +kernel
theorem dX7_applyToPair_97 : decode cX7_applyToPair 97 = .ok (.iconst 1, 1) := by decide +kernel
theorem dX7_applyToPair_98 : decode cX7_applyToPair 98 = .ok (.invokevirtual 71, 3) := by decide +kernel
theorem dX7_applyToPair_101 : decode cX7_applyToPair 101 = .ok (.goto 13, 3) := by decide +kernel
theorem dX7_applyToPair_104 : decode cX7_applyToPair 104 = .ok (.aload_n 0, 1) := by decide +kernel
theorem dX7_applyToPair_105 : decode cX7_applyToPair 105 = .ok (.iload_n 3, 1) := by decide +kernel
theorem dX7_applyToPair_106 : decode cX7_applyToPair 106 = .ok (.bipush 7, 2) := by decide +kernel
theorem dX7_applyToPair_108 : decode cX7_applyToPair 108 = .ok (.invokevirtual 71, 3) := by decide +kernel
theorem dX7_applyToPair_111 : decode cX7_applyToPair 111 = .ok (.goto 3, 3) := by decide +kernel
theorem dX7_applyToPair_114 : decode cX7_applyToPair 114 = .ok (.return_, 1) := by decide +kernel
theorem dX7_addAndSubtract_0 : decode cX7_addAndSubtract 0 = .ok (.iconst 0, 1) := by decide +kernel
theorem dX7_addAndSubtract_1 : decode cX7_addAndSubtract 1 = .ok (.istore_n 3, 1) := by decide +kernel
theorem dX7_addAndSubtract_2 : decode cX7_addAndSubtract 2 = .ok (.iload_n 3, 1) := by decide +kernel
theorem dX7_addAndSubtract_3 : decode cX7_addAndSubtract 3 = .ok (.iconst 4, 1) := by decide +kernel
theorem dX7_addAndSubtract_4 : decode cX7_addAndSubtract 4 = .ok (.if_icmp .ge 55, 3) := by decide +kernel
theorem dX7_addAndSubtract_7 : decode cX7_addAndSubtract 7 = .ok (.aload_n 0, 1) := by decide +kernel
theorem dX7_addAndSubtract_8 : decode cX7_addAndSubtract 8 = .ok (.getfield 11, 3) := by decide +kernel
theorem dX7_addAndSubtract_11 : decode cX7_addAndSubtract 11 = .ok (.iload_n 1, 1) := by decide +kernel
theorem dX7_addAndSubtract_12 : decode cX7_addAndSubtract 12 = .ok (.iload_n 3, 1) := by decide +kernel
theorem dX7_addAndSubtract_13 : decode cX7_addAndSubtract 13 = .ok (.iadd, 1) := by decide +kernel
theorem dX7_addAndSubtract_14 : decode cX7_addAndSubtract 14 = .ok (.laload, 1) := by decide +kernel
theorem dX7_addAndSubtract_15 : decode cX7_addAndSubtract 15 = .ok (.lstore 4, 2) := by decide +kernel
theorem dX7_addAndSubtract_17 : decode cX7_addAndSubtract 17 = .ok (.aload_n 0, 1) := by decide +kernel
theorem dX7_addAndSubtract_18 : decode cX7_addAndSubtract 18 = .ok (.getfield 11, 3) := by decide +kernel
theorem dX7_addAndSubtract_21 : decode cX7_addAndSubtract 21 = .ok (.iload_n 2, 1) := by decide +kernel
theorem dX7_addAndSubtract_22 : decode cX7_addAndSubtract 22 = .ok (.iload_n 3, 1) := by decide +kernel
theorem dX7_addAndSubtract_23 : decode cX7_addAndSubtract 23 = .ok (.iadd, 1) := by decide +kernel
theorem dX7_addAndSubtract_24 : decode cX7_addAndSubtract 24 = .ok (.laload, 1) := by decide +kernel
theorem dX7_addAndSubtract_25 : decode cX7_addAndSubtract 25 = .ok (.lstore 6, 2) := by decide +kernel
theorem dX7_addAndSubtract_27 : decode cX7_addAndSubtract 27 = .ok (.aload_n 0, 1) := by decide +kernel
theorem dX7_addAndSubtract_28 : decode cX7_addAndSubtract 28 = .ok (.getfield 11, 3) := by decide +kernel
theorem dX7_addAndSubtract_31 : decode cX7_addAndSubtract 31 = .ok (.iload_n 1, 1) := by decide +kernel
theorem dX7_addAndSubtract_32 : decode cX7_addAndSubtract 32 = .ok (.iload_n 3, 1) := by decide +kernel
theorem dX7_addAndSubtract_33 : decode cX7_addAndSubtract 33 = .ok (.iadd, 1) := by decide +kernel
theorem dX7_addAndSubtract_34 : decode cX7_addAndSubtract 34 = .ok (.lload 4, 2) := by decide +kernel
theorem dX7_addAndSubtract_36 : decode cX7_addAndSubtract 36 = .ok (.lload 6, 2) := by decide +kernel
theorem dX7_addAndSubtract_38 : decode cX7_addAndSubtract 38 = .ok (.ladd, 1) := by decide +kernel
theorem dX7_addAndSubtract_39 : decode cX7_addAndSubtract 39 = .ok (.lastore, 1) := by decide +kernel
theorem dX7_addAndSubtract_40 : decode cX7_addAndSubtract 40 = .ok (.aload_n 0, 1) := by decide +kernel
theorem dX7_addAndSubtract_41 : decode cX7_addAndSubtract 41 = .ok (.getfield 11, 3) := by decide +kernel
theorem dX7_addAndSubtract_44 : decode cX7_addAndSubtract 44 = .ok (.iload_n 2, 1) := by decide +kernel
theorem dX7_addAndSubtract_45 : decode cX7_addAndSubtract 45 = .ok (.iload_n 3, 1) := by decide +kernel
theorem dX7_addAndSubtract_46 : decode cX7_addAndSubtract 46 = .ok (.iadd, 1) := by decide +kernel
theorem dX7_addAndSubtract_47 : decode cX7_addAndSubtract 47 = .ok (.lload 4, 2) := by decide +kernel
theorem dX7_addAndSubtract_49 : decode cX7_addAndSubtract 49 = .ok (.lload 6, 2) := by decide +kernel
theorem dX7_addAndSubtract_51 : decode cX7_addAndSubtract 51 = .ok (.lsub, 1) := by decide +kernel
theorem dX7_addAndSubtract_52 : decode cX7_addAndSubtract 52 = .ok (.lastore, 1) := by decide +kernel
theorem dX7_addAndSubtract_53 : decode cX7_addAndSubtract 53 = .ok (.iinc 3 1, 3) := by decide +kernel
theorem dX7_addAndSubtract_56 : decode cX7_addAndSubtract 56 = .ok (.goto (-54), 3) := by decide +kernel
theorem dX7_addAndSubtract_59 : decode cX7_addAndSubtract 59 = .ok (.return_, 1) := by decide +kernel
theorem dX7_exchange_0 : decode cX7_exchange 0 = .ok (.iconst 0, 1) := by decide +kernel
theorem dX7_exchange_1 : decode cX7_exchange 1 = .ok (.istore_n 3, 1) := by decide +kernel
theorem dX7_exchange_2 : decode cX7_exchange 2 = .ok (.iload_n 3, 1) := by decide +kernel
theorem dX7_exchange_3 : decode cX7_exchange 3 = .ok (.iconst 4, 1) := by decide +kernel
theorem dX7_exchange_4 : decode cX7_exchange 4 = .ok (.if_icmp .ge 45, 3) := by decide +kernel
theorem dX7_exchange_7 : decode cX7_exchange 7 = .ok (.aload_n 0, 1) := by decide +kernel
theorem dX7_exchange_8 : decode cX7_exchange 8 = .ok (.getfield 11, 3) := by decide +kernel
theorem dX7_exchange_11 : decode cX7_exchange 11 = .ok (.iload_n 1, 1) := by decide +kernel
theorem dX7_exchange_12 : decode cX7_exchange 12 = .ok (.iload_n 3, 1) := by decide +kernel
theorem dX7_exchange_13 : decode cX7_exchange 13 = .ok (.iadd, 1) := by decide +kernel
theorem dX7_exchange_14 : decode cX7_exchange 14 = .ok (.laload, 1) := by decide +kernel
theorem dX7_exchange_15 : decode cX7_exchange 15 = .ok (.lstore 4, 2) := by decide +kernel
theorem dX7_exchange_17 : decode cX7_exchange 17 = .ok (.aload_n 0, 1) := by decide +kernel
theorem dX7_exchange_18 : decode cX7_exchange 18 = .ok (.getfield 11, 3) := by decide +kernel
theorem dX7_exchange_21 : decode cX7_exchange 21 = .ok (.iload_n 1, 1) := by decide +kernel
theorem dX7_exchange_22 : decode cX7_exchange 22 = .ok (.iload_n 3, 1) := by decide +kernel
theorem dX7_exchange_23 : decode cX7_exchange 23 = .ok (.iadd, 1) := by decide +kernel
theorem dX7_exchange_24 : decode cX7_exchange 24 = .ok (.aload_n 0, 1) := by decide +kernel
theorem dX7_exchange_25 : decode cX7_exchange 25 = .ok (.getfield 11, 3) := by decide +kernel
theorem dX7_exchange_28 : decode cX7_exchange 28 = .ok (.iload_n 2, 1) := by decide +kernel
theorem dX7_exchange_29 : decode cX7_exchange 29 = .ok (.iload_n 3, 1) := by decide +kernel
theorem dX7_exchange_30 : decode cX7_exchange 30 = .ok (.iadd, 1) := by decide +kernel
theorem dX7_exchange_31 : decode cX7_exchange 31 = .ok (.laload, 1) := by decide +kernel
theorem dX7_exchange_32 : decode cX7_exchange 32 = .ok (.lastore, 1) := by decide +kernel
theorem dX7_exchange_33 : decode cX7_exchange 33 = .ok (.aload_n 0, 1) := by decide +kernel
theorem dX7_exchange_34 : decode cX7_exchange 34 = .ok (.getfield 11, 3) := by decide +kernel
theorem dX7_exchange_37 : decode cX7_exchange 37 = .ok (.iload_n 2, 1) := by decide +kernel
theorem dX7_exchange_38 : decode cX7_exchange 38 = .ok (.iload_n 3, 1) := by decide +kernel
theorem dX7_exchange_39 : decode cX7_exchange 39 = .ok (.iadd, 1) := by decide +kernel
theorem dX7_exchange_40 : decode cX7_exchange 40 = .ok (.lload 4, 2) := by decide +kernel
theorem dX7_exchange_42 : decode cX7_exchange 42 = .ok (.lastore, 1) := by decide +kernel
theorem dX7_exchange_43 : decode cX7_exchange 43 = .ok (.iinc 3 1, 3) := by decide +kernel
theorem dX7_exchange_46 : decode cX7_exchange 46 = .ok (.goto (-44), 3) := by decide +kernel
theorem dX7_exchange_49 : decode cX7_exchange 49 = .ok (.return_, 1) := by decide +kernel
theorem dX7_rotate_0 : decode cX7_rotate 0 = .ok (.iconst 0, 1) := by decide +kernel
theorem dX7_rotate_1 : decode cX7_rotate 1 = .ok (.istore_n 3, 1) := by decide +kernel
theorem dX7_rotate_2 : decode cX7_rotate 2 = .ok (.iload_n 3, 1) := by decide +kernel
theorem dX7_rotate_3 : decode cX7_rotate 3 = .ok (.iload_n 2, 1) := by decide +kernel
theorem dX7_rotate_4 : decode cX7_rotate 4 = .ok (.if_icmp .ge 74, 3) := by decide +kernel
theorem dX7_rotate_7 : decode cX7_rotate 7 = .ok (.aload_n 0, 1) := by decide +kernel
theorem dX7_rotate_8 : decode cX7_rotate 8 = .ok (.getfield 11, 3) := by decide +kernel
theorem dX7_rotate_11 : decode cX7_rotate 11 = .ok (.iload_n 1, 1) := by decide +kernel
theorem dX7_rotate_12 : decode cX7_rotate 12 = .ok (.iconst 3, 1) := by decide +kernel
theorem dX7_rotate_13 : decode cX7_rotate 13 = .ok (.iadd, 1) := by decide +kernel
theorem dX7_rotate_14 : decode cX7_rotate 14 = .ok (.laload, 1) := by decide +kernel
theorem dX7_rotate_15 : decode cX7_rotate 15 = .ok (.lstore 4, 2) := by decide +kernel
theorem dX7_rotate_17 : decode cX7_rotate 17 = .ok (.aload_n 0, 1) := by decide +kernel
theorem dX7_rotate_18 : decode cX7_rotate 18 = .ok (.getfield 11, 3) := by decide +kernel
theorem dX7_rotate_21 : decode cX7_rotate 21 = .ok (.iload_n 1, 1) := by decide +kernel
theorem dX7_rotate_22 : decode cX7_rotate 22 = .ok (.iconst 3, 1) := by decide +kernel
theorem dX7_rotate_23 : decode cX7_rotate 23 = .ok (.iadd, 1) := by decide +kernel
theorem dX7_rotate_24 : decode cX7_rotate 24 = .ok (.aload_n 0, 1) := by decide +kernel
theorem dX7_rotate_25 : decode cX7_rotate 25 = .ok (.getfield 11, 3) := by decide +kernel
theorem dX7_rotate_28 : decode cX7_rotate 28 = .ok (.iload_n 1, 1) := by decide +kernel
theorem dX7_rotate_29 : decode cX7_rotate 29 = .ok (.iconst 2, 1) := by decide +kernel
theorem dX7_rotate_30 : decode cX7_rotate 30 = .ok (.iadd, 1) := by decide +kernel
theorem dX7_rotate_31 : decode cX7_rotate 31 = .ok (.laload, 1) := by decide +kernel
theorem dX7_rotate_32 : decode cX7_rotate 32 = .ok (.lastore, 1) := by decide +kernel
theorem dX7_rotate_33 : decode cX7_rotate 33 = .ok (.aload_n 0, 1) := by decide +kernel
theorem dX7_rotate_34 : decode cX7_rotate 34 = .ok (.getfield 11, 3) := by decide +kernel
theorem dX7_rotate_37 : decode cX7_rotate 37 = .ok (.iload_n 1, 1) := by decide +kernel
theorem dX7_rotate_38 : decode cX7_rotate 38 = .ok (.iconst 2, 1) := by decide +kernel
theorem dX7_rotate_39 : decode cX7_rotate 39 = .ok (.iadd, 1) := by decide +kernel
theorem dX7_rotate_40 : decode cX7_rotate 40 = .ok (.aload_n 0, 1) := by decide +kernel
theorem dX7_rotate_41 : decode cX7_rotate 41 = .ok (.getfield 11, 3) := by decide +kernel
theorem dX7_rotate_44 : decode cX7_rotate 44 = .ok (.iload_n 1, 1) := by decide +kernel
theorem dX7_rotate_45 : decode cX7_rotate 45 = .ok (.iconst 1, 1) := by decide +kernel
theorem dX7_rotate_46 : decode cX7_rotate 46 = .ok (.iadd, 1) := by decide +kernel
theorem dX7_rotate_47 : decode cX7_rotate 47 = .ok (.laload, 1) := by decide +kernel
theorem dX7_rotate_48 : decode cX7_rotate 48 = .ok (.lastore, 1) := by decide +kernel
theorem dX7_rotate_49 : decode cX7_rotate 49 = .ok (.aload_n 0, 1) := by decide +kernel
theorem dX7_rotate_50 : decode cX7_rotate 50 = .ok (.getfield 11, 3) := by decide +kernel
theorem dX7_rotate_53 : decode cX7_rotate 53 = .ok (.iload_n 1, 1) := by decide +kernel
theorem dX7_rotate_54 : decode cX7_rotate 54 = .ok (.iconst 1, 1) := by decide +kernel
theorem dX7_rotate_55 : decode cX7_rotate 55 = .ok (.iadd, 1) := by decide +kernel
theorem dX7_rotate_56 : decode cX7_rotate 56 = .ok (.aload_n 0, 1) := by decide +kernel
theorem dX7_rotate_57 : decode cX7_rotate 57 = .ok (.getfield 11, 3) := by decide +kernel
theorem dX7_rotate_60 : decode cX7_rotate 60 = .ok (.iload_n 1, 1) := by decide +kernel
theorem dX7_rotate_61 : decode cX7_rotate 61 = .ok (.laload, 1) := by decide +kernel
theorem dX7_rotate_62 : decode cX7_rotate 62 = .ok (.lastore, 1) := by decide +kernel
theorem dX7_rotate_63 : decode cX7_rotate 63 = .ok (.aload_n 0, 1) := by decide +kernel
theorem dX7_rotate_64 : decode cX7_rotate 64 = .ok (.getfield 11, 3) := by decide +kernel
theorem dX7_rotate_67 : decode cX7_rotate 67 = .ok (.iload_n 1, 1) := by decide +kernel
theorem dX7_rotate_68 : decode cX7_rotate 68 = .ok (.lload 4, 2) := by decide +kernel
theorem dX7_rotate_70 : decode cX7_rotate 70 = .ok (.lneg, 1) := by decide +kernel
theorem dX7_rotate_71 : decode cX7_rotate 71 = .ok (.lastore, 1) := by decide +kernel
theorem dX7_rotate_72 : decode cX7_rotate 72 = .ok (.iinc 3 1, 3) := by decide +kernel
theorem dX7_rotate_75 : decode cX7_rotate 75 = .ok (.goto (-73), 3) := by decide +kernel
theorem dX7_rotate_78 : decode cX7_rotate 78 = .ok (.return_, 1) := by decide +kernel
theorem dX7_lower_0 : decode cX7_lower 0 = .ok (.iconst 0, 1) := by decide +kernel
theorem dX7_lower_1 : decode cX7_lower 1 = .ok (.istore_n 1, 1) := by decide +kernel
theorem dX7_lower_2 : decode cX7_lower 2 = .ok (.iload_n 1, 1) := by decide +kernel
theorem dX7_lower_3 : decode cX7_lower 3 = .ok (.sipush 1000, 3) := by decide +kernel
theorem dX7_lower_6 : decode cX7_lower 6 = .ok (.if_icmp .ge 52, 3) := by decide +kernel
theorem dX7_lower_9 : decode cX7_lower 9 = .ok (.aload_n 0, 1) := by decide +kernel
theorem dX7_lower_10 : decode cX7_lower 10 = .ok (.getfield 15, 3) := by decide +kernel
theorem dX7_lower_13 : decode cX7_lower 13 = .ok (.ifCond .le 45, 3) := by decide +kernel
theorem dX7_lower_16 : decode cX7_lower 16 = .ok (.aload_n 0, 1) := by decide +kernel
theorem dX7_lower_17 : decode cX7_lower 17 = .ok (.invokevirtual 77, 3) := by decide +kernel
theorem dX7_lower_20 : decode cX7_lower 20 = .ok (.ifCond .eq 38, 3) := by decide +kernel
theorem dX7_lower_23 : decode cX7_lower 23 = .ok (.iconst 0, 1) := by decide +kernel
theorem dX7_lower_24 : decode cX7_lower 24 = .ok (.istore_n 2, 1) := by decide +kernel
theorem dX7_lower_25 : decode cX7_lower 25 = .ok (.iload_n 2, 1) := by decide +kernel
theorem dX7_lower_26 : decode cX7_lower 26 = .ok (.bipush 16, 2) := by decide +kernel
theorem dX7_lower_28 : decode cX7_lower 28 = .ok (.if_icmp .ge 14, 3) := by decide +kernel
theorem dX7_lower_31 : decode cX7_lower 31 = .ok (.aload_n 0, 1) := by decide +kernel
theorem dX7_lower_32 : decode cX7_lower 32 = .ok (.iload_n 2, 1) := by decide +kernel
theorem dX7_lower_33 : decode cX7_lower 33 = .ok (.invokevirtual 81, 3) := by decide +kernel
theorem dX7_lower_36 : decode cX7_lower 36 = .ok (.iinc 2 4, 3) := by decide +kernel
theorem dX7_lower_39 : decode cX7_lower 39 = .ok (.goto (-14), 3) := by decide +kernel
theorem dX7_lower_42 : decode cX7_lower 42 = .ok (.aload_n 0, 1) := by decide +kernel
theorem dX7_lower_43 : decode cX7_lower 43 = .ok (.dup, 1) := by decide +kernel
theorem dX7_lower_44 : decode cX7_lower 44 = .ok (.getfield 15, 3) := by decide +kernel
theorem dX7_lower_47 : decode cX7_lower 47 = .ok (.iconst 1, 1) := by decide +kernel
theorem dX7_lower_48 : decode cX7_lower 48 = .ok (.isub, 1) := by decide +kernel
theorem dX7_lower_49 : decode cX7_lower 49 = .ok (.putfield 15, 3) := by decide +kernel
theorem dX7_lower_52 : decode cX7_lower 52 = .ok (.iinc 1 1, 3) := by decide +kernel
theorem dX7_lower_55 : decode cX7_lower 55 = .ok (.goto (-53), 3) := by decide +kernel
theorem dX7_lower_58 : decode cX7_lower 58 = .ok (.return_, 1) := by decide +kernel
theorem dX7_isMultipleOfR_0 : decode cX7_isMultipleOfR 0 = .ok (.iconst 0, 1) := by decide +kernel
theorem dX7_isMultipleOfR_1 : decode cX7_isMultipleOfR 1 = .ok (.istore_n 1, 1) := by decide +kernel
theorem dX7_isMultipleOfR_2 : decode cX7_isMultipleOfR 2 = .ok (.iload_n 1, 1) := by decide +kernel
theorem dX7_isMultipleOfR_3 : decode cX7_isMultipleOfR 3 = .ok (.bipush 16, 2) := by decide +kernel
theorem dX7_isMultipleOfR_5 : decode cX7_isMultipleOfR 5 = .ok (.if_icmp .ge 67, 3) := by decide +kernel
theorem dX7_isMultipleOfR_8 : decode cX7_isMultipleOfR 8 = .ok (.aload_n 0, 1) := by decide +kernel
theorem dX7_isMultipleOfR_9 : decode cX7_isMultipleOfR 9 = .ok (.getfield 11, 3) := by decide +kernel
theorem dX7_isMultipleOfR_12 : decode cX7_isMultipleOfR 12 = .ok (.iload_n 1, 1) := by decide +kernel
theorem dX7_isMultipleOfR_13 : decode cX7_isMultipleOfR 13 = .ok (.laload, 1) := by decide +kernel
theorem dX7_isMultipleOfR_14 : decode cX7_isMultipleOfR 14 = .ok (.aload_n 0, 1) := by decide +kernel
theorem dX7_isMultipleOfR_15 : decode cX7_isMultipleOfR 15 = .ok (.getfield 11, 3) := by decide +kernel
theorem dX7_isMultipleOfR_18 : decode cX7_isMultipleOfR 18 = .ok (.iload_n 1, 1) := by decide +kernel
theorem dX7_isMultipleOfR_19 : decode cX7_isMultipleOfR 19 = .ok (.iconst 2, 1) := by decide +kernel
theorem dX7_isMultipleOfR_20 : decode cX7_isMultipleOfR 20 = .ok (.iadd, 1) := by decide +kernel
theorem dX7_isMultipleOfR_21 : decode cX7_isMultipleOfR 21 = .ok (.laload, 1) := by decide +kernel
theorem dX7_isMultipleOfR_22 : decode cX7_isMultipleOfR 22 = .ok (.ladd, 1) := by decide +kernel
theorem dX7_isMultipleOfR_23 : decode cX7_isMultipleOfR 23 = .ok (.lconst 1, 1) := by decide +kernel
theorem dX7_isMultipleOfR_24 : decode cX7_isMultipleOfR 24 = .ok (.land, 1) := by decide +kernel
theorem dX7_isMultipleOfR_25 : decode cX7_isMultipleOfR 25 = .ok (.lconst 0, 1) := by decide +kernel
theorem dX7_isMultipleOfR_26 : decode cX7_isMultipleOfR 26 = .ok (.lcmp, 1) := by decide +kernel
theorem dX7_isMultipleOfR_27 : decode cX7_isMultipleOfR 27 = .ok (.ifCond .ne 27, 3) := by decide +kernel
theorem dX7_isMultipleOfR_30 : decode cX7_isMultipleOfR 30 = .ok (.aload_n 0, 1) := by decide +kernel
theorem dX7_isMultipleOfR_31 : decode cX7_isMultipleOfR 31 = .ok (.getfield 11, 3) := by decide +kernel
theorem dX7_isMultipleOfR_34 : decode cX7_isMultipleOfR 34 = .ok (.iload_n 1, 1) := by decide +kernel
theorem dX7_isMultipleOfR_35 : decode cX7_isMultipleOfR 35 = .ok (.iconst 1, 1) := by decide +kernel
theorem dX7_isMultipleOfR_36 : decode cX7_isMultipleOfR 36 = .ok (.iadd, 1) := by decide +kernel
theorem dX7_isMultipleOfR_37 : decode cX7_isMultipleOfR 37 = .ok (.laload, 1) := by decide +kernel
theorem dX7_isMultipleOfR_38 : decode cX7_isMultipleOfR 38 = .ok (.aload_n 0, 1) := by decide +kernel
theorem dX7_isMultipleOfR_39 : decode cX7_isMultipleOfR 39 = .ok (.getfield 11, 3) := by decide +kernel
theorem dX7_isMultipleOfR_42 : decode cX7_isMultipleOfR 42 = .ok (.iload_n 1, 1) := by decide +kernel
theorem dX7_isMultipleOfR_43 : decode cX7_isMultipleOfR 43 = .ok (.iconst 3, 1) := by decide +kernel
theorem dX7_isMultipleOfR_44 : decode cX7_isMultipleOfR 44 = .ok (.iadd, 1) := by decide +kernel
theorem dX7_isMultipleOfR_45 : decode cX7_isMultipleOfR 45 = .ok (.laload, 1) := by decide +kernel
theorem dX7_isMultipleOfR_46 : decode cX7_isMultipleOfR 46 = .ok (.ladd, 1) := by decide +kernel
theorem dX7_isMultipleOfR_47 : decode cX7_isMultipleOfR 47 = .ok (.lconst 1, 1) := by decide +kernel
theorem dX7_isMultipleOfR_48 : decode cX7_isMultipleOfR 48 = .ok (.land, 1) := by decide +kernel
theorem dX7_isMultipleOfR_49 : decode cX7_isMultipleOfR 49 = .ok (.lconst 0, 1) := by decide +kernel
theorem dX7_isMultipleOfR_50 : decode cX7_isMultipleOfR 50 = .ok (.lcmp, 1) := by decide +kernel
theorem dX7_isMultipleOfR_51 : decode cX7_isMultipleOfR 51 = .ok (.ifCond .eq 7, 3) := by decide +kernel
theorem dX7_isMultipleOfR_54 : decode cX7_isMultipleOfR 54 = .ok (.iconst 1, 1) := by decide +kernel
theorem dX7_isMultipleOfR_55 : decode cX7_isMultipleOfR 55 = .ok (.goto 4, 3) := by decide +kernel
theorem dX7_isMultipleOfR_58 : decode cX7_isMultipleOfR 58 = .ok (.iconst 0, 1) := by decide +kernel
theorem dX7_isMultipleOfR_59 : decode cX7_isMultipleOfR 59 = .ok (.istore_n 2, 1) := by decide +kernel
theorem dX7_isMultipleOfR_60 : decode cX7_isMultipleOfR 60 = .ok (.iload_n 2, 1) := by decide +kernel
theorem dX7_isMultipleOfR_61 : decode cX7_isMultipleOfR 61 = .ok (.ifCond .eq 5, 3) := by decide +kernel
theorem dX7_isMultipleOfR_64 : decode cX7_isMultipleOfR 64 = .ok (.iconst 0, 1) := by decide +kernel
theorem dX7_isMultipleOfR_65 : decode cX7_isMultipleOfR 65 = .ok (.ireturn, 1) := by decide +kernel
theorem dX7_isMultipleOfR_66 : decode cX7_isMultipleOfR 66 = .ok (.iinc 1 4, 3) := by decide +kernel
theorem dX7_isMultipleOfR_69 : decode cX7_isMultipleOfR 69 = .ok (.goto (-67), 3) := by decide +kernel
theorem dX7_isMultipleOfR_72 : decode cX7_isMultipleOfR 72 = .ok (.iconst 1, 1) := by decide +kernel
theorem dX7_isMultipleOfR_73 : decode cX7_isMultipleOfR 73 = .ok (.ireturn, 1) := by decide +kernel
theorem dX7_divideByR_0 : decode cX7_divideByR 0 = .ok (.aload_n 0, 1) := by decide +kernel
theorem dX7_divideByR_1 : decode cX7_divideByR 1 = .ok (.getfield 11, 3) := by decide +kernel
theorem dX7_divideByR_4 : decode cX7_divideByR 4 = .ok (.iload_n 1, 1) := by decide +kernel
theorem dX7_divideByR_5 : decode cX7_divideByR 5 = .ok (.laload, 1) := by decide +kernel
theorem dX7_divideByR_6 : decode cX7_divideByR 6 = .ok (.lstore_n 2, 1) := by decide +kernel
theorem dX7_divideByR_7 : decode cX7_divideByR 7 = .ok (.aload_n 0, 1) := by decide +kernel
theorem dX7_divideByR_8 : decode cX7_divideByR 8 = .ok (.getfield 11, 3) := by decide +kernel
theorem dX7_divideByR_11 : decode cX7_divideByR 11 = .ok (.iload_n 1, 1) := by decide +kernel
theorem dX7_divideByR_12 : decode cX7_divideByR 12 = .ok (.iconst 1, 1) := by decide +kernel
theorem dX7_divideByR_13 : decode cX7_divideByR 13 = .ok (.iadd, 1) := by decide +kernel
theorem dX7_divideByR_14 : decode cX7_divideByR 14 = .ok (.laload, 1) := by decide +kernel
theorem dX7_divideByR_15 : decode cX7_divideByR 15 = .ok (.lstore 4, 2) := by decide +kernel
theorem dX7_divideByR_17 : decode cX7_divideByR 17 = .ok (.aload_n 0, 1) := by decide +kernel
theorem dX7_divideByR_18 : decode cX7_divideByR 18 = .ok (.getfield 11, 3) := by decide +kernel
theorem dX7_divideByR_21 : decode cX7_divideByR 21 = .ok (.iload_n 1, 1) := by decide +kernel
theorem dX7_divideByR_22 : decode cX7_divideByR 22 = .ok (.iconst 2, 1) := by decide +kernel
theorem dX7_divideByR_23 : decode cX7_divideByR 23 = .ok (.iadd, 1) := by decide +kernel
theorem dX7_divideByR_24 : decode cX7_divideByR 24 = .ok (.laload, 1) := by decide +kernel
theorem dX7_divideByR_25 : decode cX7_divideByR 25 = .ok (.lstore 6, 2) := by decide +kernel
theorem dX7_divideByR_27 : decode cX7_divideByR 27 = .ok (.aload_n 0, 1) := by decide +kernel
theorem dX7_divideByR_28 : decode cX7_divideByR 28 = .ok (.getfield 11, 3) := by decide +kernel
theorem dX7_divideByR_31 : decode cX7_divideByR 31 = .ok (.iload_n 1, 1) := by decide +kernel
end
section
theorem dX7_divideByR_32 : decode cX7_divideByR 32 = .ok (.iconst 3, 1) := by decide +kernel
theorem dX7_divideByR_33 : decode cX7_divideByR 33 = .ok (.iadd, 1) := by decide +kernel
theorem dX7_divideByR_34 : decode cX7_divideByR 34 = .ok (.laload, 1) := by decide +kernel
theorem dX7_divideByR_35 : decode cX7_divideByR 35 = .ok (.lstore 8, 2) := by decide +kernel
theorem dX7_divideByR_37 : decode cX7_divideByR 37 = .ok (.aload_n 0, 1) := by decide +kernel
theorem dX7_divideByR_38 : decode cX7_divideByR 38 = .ok (.getfield 11, 3) := by decide +kernel
theorem dX7_divideByR_41 : decode cX7_divideByR 41 = .ok (.iload_n 1, 1) := by decide +kernel
theorem dX7_divideByR_42 : decode cX7_divideByR 42 = .ok (.lload 4, 2) := by decide +kernel
theorem dX7_divideByR_44 : decode cX7_divideByR 44 = .ok (.lload 8, 2) := by decide +kernel
theorem dX7_divideByR_46 : decode cX7_divideByR 46 = .ok (.lsub, 1) := by decide +kernel
theorem dX7_divideByR_47 : decode cX7_divideByR 47 = .ok (.ldc2_w 84, 3) := by decide +kernel
theorem dX7_divideByR_50 : decode cX7_divideByR 50 = .ok (.ldiv, 1) := by decide +kernel
theorem dX7_divideByR_51 : decode cX7_divideByR 51 = .ok (.lastore, 1) := by decide +kernel
theorem dX7_divideByR_52 : decode cX7_divideByR 52 = .ok (.aload_n 0, 1) := by decide +kernel
theorem dX7_divideByR_53 : decode cX7_divideByR 53 = .ok (.getfield 11, 3) := by decide +kernel
theorem dX7_divideByR_56 : decode cX7_divideByR 56 = .ok (.iload_n 1, 1) := by decide +kernel
theorem dX7_divideByR_57 : decode cX7_divideByR 57 = .ok (.iconst 1, 1) := by decide +kernel
theorem dX7_divideByR_58 : decode cX7_divideByR 58 = .ok (.iadd, 1) := by decide +kernel
theorem dX7_divideByR_59 : decode cX7_divideByR 59 = .ok (.lload_n 2, 1) := by decide +kernel
theorem dX7_divideByR_60 : decode cX7_divideByR 60 = .ok (.lload 6, 2) := by decide +kernel
theorem dX7_divideByR_62 : decode cX7_divideByR 62 = .ok (.ladd, 1) := by decide +kernel
theorem dX7_divideByR_63 : decode cX7_divideByR 63 = .ok (.ldc2_w 84, 3) := by decide +kernel
theorem dX7_divideByR_66 : decode cX7_divideByR 66 = .ok (.ldiv, 1) := by decide +kernel
theorem dX7_divideByR_67 : decode cX7_divideByR 67 = .ok (.lastore, 1) := by decide +kernel
theorem dX7_divideByR_68 : decode cX7_divideByR 68 = .ok (.aload_n 0, 1) := by decide +kernel
theorem dX7_divideByR_69 : decode cX7_divideByR 69 = .ok (.getfield 11, 3) := by decide +kernel
theorem dX7_divideByR_72 : decode cX7_divideByR 72 = .ok (.iload_n 1, 1) := by decide +kernel
theorem dX7_divideByR_73 : decode cX7_divideByR 73 = .ok (.iconst 2, 1) := by decide +kernel
theorem dX7_divideByR_74 : decode cX7_divideByR 74 = .ok (.iadd, 1) := by decide +kernel
theorem dX7_divideByR_75 : decode cX7_divideByR 75 = .ok (.lload 4, 2) := by decide +kernel
theorem dX7_divideByR_77 : decode cX7_divideByR 77 = .ok (.lload 8, 2) := by decide +kernel
theorem dX7_divideByR_79 : decode cX7_divideByR 79 = .ok (.ladd, 1) := by decide +kernel
theorem dX7_divideByR_80 : decode cX7_divideByR 80 = .ok (.ldc2_w 84, 3) := by decide +kernel
theorem dX7_divideByR_83 : decode cX7_divideByR 83 = .ok (.ldiv, 1) := by decide +kernel
theorem dX7_divideByR_84 : decode cX7_divideByR 84 = .ok (.lastore, 1) := by decide +kernel
theorem dX7_divideByR_85 : decode cX7_divideByR 85 = .ok (.aload_n 0, 1) := by decide +kernel
theorem dX7_divideByR_86 : decode cX7_divideByR 86 = .ok (.getfield 11, 3) := by decide +kernel
theorem dX7_divideByR_89 : decode cX7_divideByR 89 = .ok (.iload_n 1, 1) := by decide +kernel
theorem dX7_divideByR_90 : decode cX7_divideByR 90 = .ok (.iconst 3, 1) := by decide +kernel
theorem dX7_divideByR_91 : decode cX7_divideByR 91 = .ok (.iadd, 1) := by decide +kernel
theorem dX7_divideByR_92 : decode cX7_divideByR 92 = .ok (.lload 6, 2) := by decide +kernel
theorem dX7_divideByR_94 : decode cX7_divideByR 94 = .ok (.lload_n 2, 1) := by decide +kernel
theorem dX7_divideByR_95 : decode cX7_divideByR 95 = .ok (.lsub, 1) := by decide +kernel
theorem dX7_divideByR_96 : decode cX7_divideByR 96 = .ok (.ldc2_w 84, 3) := by decide +kernel
theorem dX7_divideByR_99 : decode cX7_divideByR 99 = .ok (.ldiv, 1) := by decide +kernel
theorem dX7_divideByR_100 : decode cX7_divideByR 100 = .ok (.lastore, 1) := by decide +kernel
theorem dX7_divideByR_101 : decode cX7_divideByR 101 = .ok (.return_, 1) := by decide +kernel
theorem dX8_init_0 : decode cX8_init 0 = .ok (.aload_n 0, 1) := by decide +kernel
theorem dX8_init_1 : decode cX8_init 1 = .ok (.invokespecial 3, 3) := by decide +kernel
theorem dX8_init_4 : decode cX8_init 4 = .ok (.aload_n 0, 1) := by decide +kernel
theorem dX8_init_5 : decode cX8_init 5 = .ok (.bipush 80, 2) := by decide +kernel
theorem dX8_init_7 : decode cX8_init 7 = .ok (.newarray .int, 2) := by decide +kernel
theorem dX8_init_9 : decode cX8_init 9 = .ok (.putfield 9, 3) := by decide +kernel
theorem dX8_init_12 : decode cX8_init 12 = .ok (.aload_n 0, 1) := by decide +kernel
theorem dX8_init_13 : decode cX8_init 13 = .ok (.iconst 0, 1) := by decide +kernel
theorem dX8_init_14 : decode cX8_init 14 = .ok (.putfield 15, 3) := by decide +kernel
theorem dX8_init_17 : decode cX8_init 17 = .ok (.return_, 1) := by decide +kernel
theorem dX8_add_0 : decode cX8_add 0 = .ok (.aload_n 0, 1) := by decide +kernel
theorem dX8_add_1 : decode cX8_add 1 = .ok (.getfield 15, 3) := by decide +kernel
theorem dX8_add_4 : decode cX8_add 4 = .ok (.bipush 80, 2) := by decide +kernel
theorem dX8_add_6 : decode cX8_add 6 = .ok (.if_icmp .lt 5, 3) := by decide +kernel
theorem dX8_add_9 : decode cX8_add 9 = .ok (.iconst 0, 1) := by decide +kernel
theorem dX8_add_10 : decode cX8_add 10 = .ok (.ireturn, 1) := by decide +kernel
theorem dX8_add_11 : decode cX8_add 11 = .ok (.aload_n 0, 1) := by decide +kernel
theorem dX8_add_12 : decode cX8_add 12 = .ok (.getfield 9, 3) := by decide +kernel
theorem dX8_add_15 : decode cX8_add 15 = .ok (.aload_n 0, 1) := by decide +kernel
theorem dX8_add_16 : decode cX8_add 16 = .ok (.getfield 15, 3) := by decide +kernel
theorem dX8_add_19 : decode cX8_add 19 = .ok (.iload_n 1, 1) := by decide +kernel
theorem dX8_add_20 : decode cX8_add 20 = .ok (.iastore, 1) := by decide +kernel
theorem dX8_add_21 : decode cX8_add 21 = .ok (.aload_n 0, 1) := by decide +kernel
theorem dX8_add_22 : decode cX8_add 22 = .ok (.dup, 1) := by decide +kernel
theorem dX8_add_23 : decode cX8_add 23 = .ok (.getfield 15, 3) := by decide +kernel
theorem dX8_add_26 : decode cX8_add 26 = .ok (.iconst 1, 1) := by decide +kernel
theorem dX8_add_27 : decode cX8_add 27 = .ok (.iadd, 1) := by decide +kernel
theorem dX8_add_28 : decode cX8_add 28 = .ok (.putfield 15, 3) := by decide +kernel
theorem dX8_add_31 : decode cX8_add 31 = .ok (.iconst 1, 1) := by decide +kernel
theorem dX8_add_32 : decode cX8_add 32 = .ok (.ireturn, 1) := by decide +kernel
theorem dX8_at_0 : decode cX8_at 0 = .ok (.iload_n 1, 1) := by decide +kernel
theorem dX8_at_1 : decode cX8_at 1 = .ok (.aload_n 0, 1) := by decide +kernel
theorem dX8_at_2 : decode cX8_at 2 = .ok (.getfield 15, 3) := by decide +kernel
theorem dX8_at_5 : decode cX8_at 5 = .ok (.invokestatic 19, 3) := by decide +kernel
theorem dX8_at_8 : decode cX8_at 8 = .ok (.ifCond .eq 12, 3) := by decide +kernel
theorem dX8_at_11 : decode cX8_at 11 = .ok (.aload_n 0, 1) := by decide +kernel
theorem dX8_at_12 : decode cX8_at 12 = .ok (.getfield 9, 3) := by decide +kernel
theorem dX8_at_15 : decode cX8_at 15 = .ok (.iload_n 1, 1) := by decide +kernel
theorem dX8_at_16 : decode cX8_at 16 = .ok (.iaload, 1) := by decide +kernel
theorem dX8_at_17 : decode cX8_at 17 = .ok (.goto 5, 3) := by decide +kernel
theorem dX8_at_20 : decode cX8_at 20 = .ok (.bipush (-2), 2) := by decide +kernel
theorem dX8_at_22 : decode cX8_at 22 = .ok (.ireturn, 1) := by decide +kernel
theorem dX8_figureAt_0 : decode cX8_figureAt 0 = .ok (.aload_n 0, 1) := by decide +kernel
theorem dX8_figureAt_1 : decode cX8_figureAt 1 = .ok (.iload_n 1, 1) := by decide +kernel
theorem dX8_figureAt_2 : decode cX8_figureAt 2 = .ok (.invokevirtual 23, 3) := by decide +kernel
theorem dX8_figureAt_5 : decode cX8_figureAt 5 = .ok (.istore_n 2, 1) := by decide +kernel
theorem dX8_figureAt_6 : decode cX8_figureAt 6 = .ok (.iload_n 2, 1) := by decide +kernel
theorem dX8_figureAt_7 : decode cX8_figureAt 7 = .ok (.bipush 48, 2) := by decide +kernel
theorem dX8_figureAt_9 : decode cX8_figureAt 9 = .ok (.if_icmp .lt 16, 3) := by decide +kernel
theorem dX8_figureAt_12 : decode cX8_figureAt 12 = .ok (.iload_n 2, 1) := by decide +kernel
theorem dX8_figureAt_13 : decode cX8_figureAt 13 = .ok (.bipush 57, 2) := by decide +kernel
theorem dX8_figureAt_15 : decode cX8_figureAt 15 = .ok (.if_icmp .gt 10, 3) := by decide +kernel
theorem dX8_figureAt_18 : decode cX8_figureAt 18 = .ok (.iload_n 2, 1) := by decide +kernel
theorem dX8_figureAt_19 : decode cX8_figureAt 19 = .ok (.bipush 48, 2) := by decide +kernel
theorem dX8_figureAt_21 : decode cX8_figureAt 21 = .ok (.isub, 1) := by decide +kernel
theorem dX8_figureAt_22 : decode cX8_figureAt 22 = .ok (.goto 5, 3) := by decide +kernel
theorem dX8_figureAt_25 : decode cX8_figureAt 25 = .ok (.bipush (-2), 2) := by decide +kernel
theorem dX8_figureAt_27 : decode cX8_figureAt 27 = .ok (.ireturn, 1) := by decide +kernel
theorem dX8_findFault_0 : decode cX8_findFault 0 = .ok (.iconst 0, 1) := by decide +kernel
theorem dX8_findFault_1 : decode cX8_findFault 1 = .ok (.istore_n 1, 1) := by decide +kernel
theorem dX8_findFault_2 : decode cX8_findFault 2 = .ok (.iconst 1, 1) := by decide +kernel
theorem dX8_findFault_3 : decode cX8_findFault 3 = .ok (.istore_n 2, 1) := by decide +kernel
theorem dX8_findFault_4 : decode cX8_findFault 4 = .ok (.iconst 0, 1) := by decide +kernel
theorem dX8_findFault_5 : decode cX8_findFault 5 = .ok (.istore_n 3, 1) := by decide +kernel
theorem dX8_findFault_6 : decode cX8_findFault 6 = .ok (.iload_n 3, 1) := by decide +kernel
theorem dX8_findFault_7 : decode cX8_findFault 7 = .ok (.aload_n 0, 1) := by decide +kernel
theorem dX8_findFault_8 : decode cX8_findFault 8 = .ok (.getfield 15, 3) := by decide +kernel
theorem dX8_findFault_11 : decode cX8_findFault 11 = .ok (.if_icmp .ge 105, 3) := by decide +kernel
theorem dX8_findFault_14 : decode cX8_findFault 14 = .ok (.aload_n 0, 1) := by decide +kernel
theorem dX8_findFault_15 : decode cX8_findFault 15 = .ok (.getfield 9, 3) := by decide +kernel
theorem dX8_findFault_18 : decode cX8_findFault 18 = .ok (.iload_n 3, 1) := by decide +kernel
theorem dX8_findFault_19 : decode cX8_findFault 19 = .ok (.iaload, 1) := by decide +kernel
theorem dX8_findFault_20 : decode cX8_findFault 20 = .ok (.istore 4, 2) := by decide +kernel
theorem dX8_findFault_22 : decode cX8_findFault 22 = .ok (.iload 4, 2) := by decide +kernel
theorem dX8_findFault_24 : decode cX8_findFault 24 = .ok (.invokestatic 27, 3) := by decide +kernel
theorem dX8_findFault_27 : decode cX8_findFault 27 = .ok (.ifCond .lt 8, 3) := by decide +kernel
theorem dX8_findFault_30 : decode cX8_findFault 30 = .ok (.iconst 0, 1) := by decide +kernel
theorem dX8_findFault_31 : decode cX8_findFault 31 = .ok (.istore_n 2, 1) := by decide +kernel
theorem dX8_findFault_32 : decode cX8_findFault 32 = .ok (.goto 78, 3) := by decide +kernel
theorem dX8_findFault_35 : decode cX8_findFault 35 = .ok (.iload 4, 2) := by decide +kernel
theorem dX8_findFault_37 : decode cX8_findFault 37 = .ok (.bipush 126, 2) := by decide +kernel
theorem dX8_findFault_39 : decode cX8_findFault 39 = .ok (.if_icmp .ne 8, 3) := by decide +kernel
theorem dX8_findFault_42 : decode cX8_findFault 42 = .ok (.iconst 1, 1) := by decide +kernel
theorem dX8_findFault_43 : decode cX8_findFault 43 = .ok (.istore_n 2, 1) := by decide +kernel
theorem dX8_findFault_44 : decode cX8_findFault 44 = .ok (.goto 66, 3) := by decide +kernel
theorem dX8_findFault_47 : decode cX8_findFault 47 = .ok (.iload 4, 2) := by decide +kernel
theorem dX8_findFault_49 : decode cX8_findFault 49 = .ok (.bipush 40, 2) := by decide +kernel
theorem dX8_findFault_51 : decode cX8_findFault 51 = .ok (.if_icmp .ne 16, 3) := by decide +kernel
theorem dX8_findFault_54 : decode cX8_findFault 54 = .ok (.iload_n 1, 1) := by decide +kernel
theorem dX8_findFault_55 : decode cX8_findFault 55 = .ok (.iconst 4, 1) := by decide +kernel
theorem dX8_findFault_56 : decode cX8_findFault 56 = .ok (.if_icmp .ge 11, 3) := by decide +kernel
theorem dX8_findFault_59 : decode cX8_findFault 59 = .ok (.iinc 1 1, 3) := by decide +kernel
theorem dX8_findFault_62 : decode cX8_findFault 62 = .ok (.iconst 1, 1) := by decide +kernel
theorem dX8_findFault_63 : decode cX8_findFault 63 = .ok (.istore_n 2, 1) := by decide +kernel
theorem dX8_findFault_64 : decode cX8_findFault 64 = .ok (.goto 46, 3) := by decide +kernel
theorem dX8_findFault_67 : decode cX8_findFault 67 = .ok (.iload 4, 2) := by decide +kernel
theorem dX8_findFault_69 : decode cX8_findFault 69 = .ok (.bipush 41, 2) := by decide +kernel
theorem dX8_findFault_71 : decode cX8_findFault 71 = .ok (.if_icmp .ne 17, 3) := by decide +kernel
theorem dX8_findFault_74 : decode cX8_findFault 74 = .ok (.iload_n 1, 1) := by decide +kernel
theorem dX8_findFault_75 : decode cX8_findFault 75 = .ok (.ifCond .le 13, 3) := by decide +kernel
theorem dX8_findFault_78 : decode cX8_findFault 78 = .ok (.iload_n 2, 1) := by decide +kernel
theorem dX8_findFault_79 : decode cX8_findFault 79 = .ok (.ifCond .ne 9, 3) := by decide +kernel
theorem dX8_findFault_82 : decode cX8_findFault 82 = .ok (.iinc 1 (-1), 3) := by decide +kernel
theorem dX8_findFault_85 : decode cX8_findFault 85 = .ok (.goto 25, 3) := by decide +kernel
theorem dX8_findFault_88 : decode cX8_findFault 88 = .ok (.aload_n 0, 1) := by decide +kernel
theorem dX8_findFault_89 : decode cX8_findFault 89 = .ok (.iload_n 3, 1) := by decide +kernel
theorem dX8_findFault_90 : decode cX8_findFault 90 = .ok (.invokevirtual 30, 3) := by decide +kernel
theorem dX8_findFault_93 : decode cX8_findFault 93 = .ok (.ifCond .lt 15, 3) := by decide +kernel
theorem dX8_findFault_96 : decode cX8_findFault 96 = .ok (.aload_n 0, 1) := by decide +kernel
theorem dX8_findFault_97 : decode cX8_findFault 97 = .ok (.iload_n 3, 1) := by decide +kernel
theorem dX8_findFault_98 : decode cX8_findFault 98 = .ok (.iconst 1, 1) := by decide +kernel
theorem dX8_findFault_99 : decode cX8_findFault 99 = .ok (.isub, 1) := by decide +kernel
theorem dX8_findFault_100 : decode cX8_findFault 100 = .ok (.invokevirtual 23, 3) := by decide +kernel
theorem dX8_findFault_103 : decode cX8_findFault 103 = .ok (.bipush 41, 2) := by decide +kernel
theorem dX8_findFault_105 : decode cX8_findFault 105 = .ok (.if_icmp .eq 5, 3) := by decide +kernel
theorem dX8_findFault_108 : decode cX8_findFault 108 = .ok (.iload_n 3, 1) := by decide +kernel
theorem dX8_findFault_109 : decode cX8_findFault 109 = .ok (.ireturn, 1) := by decide +kernel
theorem dX8_findFault_110 : decode cX8_findFault 110 = .ok (.iinc 3 1, 3) := by decide +kernel
theorem dX8_findFault_113 : decode cX8_findFault 113 = .ok (.goto (-107), 3) := by decide +kernel
theorem dX8_findFault_116 : decode cX8_findFault 116 = .ok (.iload_n 2, 1) := by decide +kernel
theorem dX8_findFault_117 : decode cX8_findFault 117 = .ok (.ifCond .ne 7, 3) := by decide +kernel
theorem dX8_findFault_120 : decode cX8_findFault 120 = .ok (.iload_n 1, 1) := by decide +kernel
theorem dX8_findFault_121 : decode cX8_findFault 121 = .ok (.ifCond .le 10, 3) := by decide +kernel
theorem dX8_findFault_124 : decode cX8_findFault 124 = .ok (.aload_n 0, 1) := by decide +kernel
theorem dX8_findFault_125 : decode cX8_findFault 125 = .ok (.getfield 15, 3) := by decide +kernel
theorem dX8_findFault_128 : decode cX8_findFault 128 = .ok (.goto 5, 3) := by decide +kernel
theorem dX8_findFault_131 : decode cX8_findFault 131 = .ok (.bipush (-2), 2) := by decide +kernel
theorem dX8_findFault_133 : decode cX8_findFault 133 = .ok (.ireturn, 1) := by decide +kernel
theorem dX9_init_0 : decode cX9_init 0 = .ok (.aload_n 0, 1) := by decide +kernel
theorem dX9_init_1 : decode cX9_init 1 = .ok (.invokespecial 3, 3) := by decide +kernel
theorem dX9_init_4 : decode cX9_init 4 = .ok (.aload_n 0, 1) := by decide +kernel
theorem dX9_init_5 : decode cX9_init 5 = .ok (.new 9, 3) := by decide +kernel
theorem dX9_init_8 : decode cX9_init 8 = .ok (.dup, 1) := by decide +kernel
theorem dX9_init_9 : decode cX9_init 9 = .ok (.invokespecial 11, 3) := by decide +kernel
theorem dX9_init_12 : decode cX9_init 12 = .ok (.putfield 12, 3) := by decide +kernel
theorem dX9_init_15 : decode cX9_init 15 = .ok (.aload_n 0, 1) := by decide +kernel
theorem dX9_init_16 : decode cX9_init 16 = .ok (.new 9, 3) := by decide +kernel
theorem dX9_init_19 : decode cX9_init 19 = .ok (.dup, 1) := by decide +kernel
theorem dX9_init_20 : decode cX9_init 20 = .ok (.invokespecial 11, 3) := by decide +kernel
theorem dX9_init_23 : decode cX9_init 23 = .ok (.putfield 18, 3) := by decide +kernel
theorem dX9_init_26 : decode cX9_init 26 = .ok (.aload_n 0, 1) := by decide +kernel
theorem dX9_init_27 : decode cX9_init 27 = .ok (.iconst 0, 1) := by decide +kernel
theorem dX9_init_28 : decode cX9_init 28 = .ok (.putfield 21, 3) := by decide +kernel
theorem dX9_init_31 : decode cX9_init 31 = .ok (.aload_n 0, 1) := by decide +kernel
theorem dX9_init_32 : decode cX9_init 32 = .ok (.new 25, 3) := by decide +kernel
theorem dX9_init_35 : decode cX9_init 35 = .ok (.dup, 1) := by decide +kernel
theorem dX9_init_36 : decode cX9_init 36 = .ok (.invokespecial 27, 3) := by decide +kernel
theorem dX9_init_39 : decode cX9_init 39 = .ok (.putfield 28, 3) := by decide +kernel
theorem dX9_init_42 : decode cX9_init 42 = .ok (.aload_n 0, 1) := by decide +kernel
theorem dX9_init_43 : decode cX9_init 43 = .ok (.new 32, 3) := by decide +kernel
theorem dX9_init_46 : decode cX9_init 46 = .ok (.dup, 1) := by decide +kernel
theorem dX9_init_47 : decode cX9_init 47 = .ok (.invokespecial 34, 3) := by decide +kernel
theorem dX9_init_50 : decode cX9_init 50 = .ok (.putfield 35, 3) := by decide +kernel
theorem dX9_init_53 : decode cX9_init 53 = .ok (.aload_n 0, 1) := by decide +kernel
theorem dX9_init_54 : decode cX9_init 54 = .ok (.new 39, 3) := by decide +kernel
theorem dX9_init_57 : decode cX9_init 57 = .ok (.dup, 1) := by decide +kernel
theorem dX9_init_58 : decode cX9_init 58 = .ok (.invokespecial 41, 3) := by decide +kernel
theorem dX9_init_61 : decode cX9_init 61 = .ok (.putfield 42, 3) := by decide +kernel
theorem dX9_init_64 : decode cX9_init 64 = .ok (.aload_n 0, 1) := by decide +kernel
theorem dX9_init_65 : decode cX9_init 65 = .ok (.new 46, 3) := by decide +kernel
theorem dX9_init_68 : decode cX9_init 68 = .ok (.dup, 1) := by decide +kernel
theorem dX9_init_69 : decode cX9_init 69 = .ok (.invokespecial 48, 3) := by decide +kernel
theorem dX9_init_72 : decode cX9_init 72 = .ok (.putfield 49, 3) := by decide +kernel
theorem dX9_init_75 : decode cX9_init 75 = .ok (.aload_n 0, 1) := by decide +kernel
theorem dX9_init_76 : decode cX9_init 76 = .ok (.new 53, 3) := by decide +kernel
theorem dX9_init_79 : decode cX9_init 79 = .ok (.dup, 1) := by decide +kernel
theorem dX9_init_80 : decode cX9_init 80 = .ok (.invokespecial 55, 3) := by decide +kernel
theorem dX9_init_83 : decode cX9_init 83 = .ok (.putfield 56, 3) := by decide +kernel
theorem dX9_init_86 : decode cX9_init 86 = .ok (.aload_n 0, 1) := by decide +kernel
theorem dX9_init_87 : decode cX9_init 87 = .ok (.new 60, 3) := by decide +kernel
theorem dX9_init_90 : decode cX9_init 90 = .ok (.dup, 1) := by decide +kernel
theorem dX9_init_91 : decode cX9_init 91 = .ok (.invokespecial 62, 3) := by decide +kernel
theorem dX9_init_94 : decode cX9_init 94 = .ok (.putfield 63, 3) := by decide +kernel
theorem dX9_init_97 : decode cX9_init 97 = .ok (.aload_n 0, 1) := by decide +kernel
theorem dX9_init_98 : decode cX9_init 98 = .ok (.new 67, 3) := by decide +kernel
theorem dX9_init_101 : decode cX9_init 101 = .ok (.dup, 1) := by decide +kernel
theorem dX9_init_102 : decode cX9_init 102 = .ok (.invokespecial 69, 3) := by decide +kernel
theorem dX9_init_105 : decode cX9_init 105 = .ok (.putfield 70, 3) := by decide +kernel
theorem dX9_init_108 : decode cX9_init 108 = .ok (.aload_n 0, 1) := by decide +kernel
theorem dX9_init_109 : decode cX9_init 109 = .ok (.new 74, 3) := by decide +kernel
theorem dX9_init_112 : decode cX9_init 112 = .ok (.dup, 1) := by decide +kernel
theorem dX9_init_113 : decode cX9_init 113 = .ok (.invokespecial 76, 3) := by decide +kernel
theorem dX9_init_116 : decode cX9_init 116 = .ok (.putfield 77, 3) := by decide +kernel
theorem dX9_init_119 : decode cX9_init 119 = .ok (.aload_n 0, 1) := by decide +kernel
theorem dX9_init_120 : decode cX9_init 120 = .ok (.new 74, 3) := by decide +kernel
theorem dX9_init_123 : decode cX9_init 123 = .ok (.dup, 1) := by decide +kernel
theorem dX9_init_124 : decode cX9_init 124 = .ok (.invokespecial 76, 3) := by decide +kernel
theorem dX9_init_127 : decode cX9_init 127 = .ok (.putfield 81, 3) := by decide +kernel
theorem dX9_init_130 : decode cX9_init 130 = .ok (.aload_n 0, 1) := by decide +kernel
theorem dX9_init_131 : decode cX9_init 131 = .ok (.new 74, 3) := by decide +kernel
theorem dX9_init_134 : decode cX9_init 134 = .ok (.dup, 1) := by decide +kernel
theorem dX9_init_135 : decode cX9_init 135 = .ok (.invokespecial 76, 3) := by decide +kernel
theorem dX9_init_138 : decode cX9_init 138 = .ok (.putfield 84, 3) := by decide +kernel
theorem dX9_init_141 : decode cX9_init 141 = .ok (.aload_n 0, 1) := by decide +kernel
theorem dX9_init_142 : decode cX9_init 142 = .ok (.new 74, 3) := by decide +kernel
theorem dX9_init_145 : decode cX9_init 145 = .ok (.dup, 1) := by decide +kernel
theorem dX9_init_146 : decode cX9_init 146 = .ok (.invokespecial 76, 3) := by decide +kernel
theorem dX9_init_149 : decode cX9_init 149 = .ok (.putfield 87, 3) := by decide +kernel
theorem dX9_init_152 : decode cX9_init 152 = .ok (.return_, 1) := by decide +kernel
theorem dX9_one_0 : decode cX9_one 0 = .ok (.iload_n 1, 1) := by decide +kernel
theorem dX9_one_1 : decode cX9_one 1 = .ok (.invokestatic 90, 3) := by decide +kernel
theorem dX9_one_4 : decode cX9_one 4 = .ok (.ifCond .ne 5, 3) := by decide +kernel
theorem dX9_one_7 : decode cX9_one 7 = .ok (.iconst (-1), 1) := by decide +kernel
theorem dX9_one_8 : decode cX9_one 8 = .ok (.ireturn, 1) := by decide +kernel
theorem dX9_one_9 : decode cX9_one 9 = .ok (.aload_n 0, 1) := by decide +kernel
theorem dX9_one_10 : decode cX9_one 10 = .ok (.getfield 12, 3) := by decide +kernel
theorem dX9_one_13 : decode cX9_one 13 = .ok (.getfield 94, 3) := by decide +kernel
theorem dX9_one_16 : decode cX9_one 16 = .ok (.iload_n 1, 1) := by decide +kernel
theorem dX9_one_17 : decode cX9_one 17 = .ok (.aaload, 1) := by decide +kernel
theorem dX9_one_18 : decode cX9_one 18 = .ok (.getfield 98, 3) := by decide +kernel
theorem dX9_one_21 : decode cX9_one 21 = .ok (.istore_n 2, 1) := by decide +kernel
theorem dX9_one_22 : decode cX9_one 22 = .ok (.aload_n 0, 1) := by decide +kernel
theorem dX9_one_23 : decode cX9_one 23 = .ok (.getfield 12, 3) := by decide +kernel
theorem dX9_one_26 : decode cX9_one 26 = .ok (.getfield 94, 3) := by decide +kernel
theorem dX9_one_29 : decode cX9_one 29 = .ok (.iload_n 1, 1) := by decide +kernel
theorem dX9_one_30 : decode cX9_one 30 = .ok (.aaload, 1) := by decide +kernel
theorem dX9_one_31 : decode cX9_one 31 = .ok (.invokevirtual 102, 3) := by decide +kernel
theorem dX9_one_34 : decode cX9_one 34 = .ok (.iload_n 2, 1) := by decide +kernel
theorem dX9_one_35 : decode cX9_one 35 = .ok (.ireturn, 1) := by decide +kernel
theorem dX9_gate_0 : decode cX9_gate 0 = .ok (.iload_n 1, 1) := by decide +kernel
theorem dX9_gate_1 : decode cX9_gate 1 = .ok (.invokestatic 90, 3) := by decide +kernel
theorem dX9_gate_4 : decode cX9_gate 4 = .ok (.ifCond .eq 10, 3) := by decide +kernel
theorem dX9_gate_7 : decode cX9_gate 7 = .ok (.iload_n 2, 1) := by decide +kernel
theorem dX9_gate_8 : decode cX9_gate 8 = .ok (.invokestatic 105, 3) := by decide +kernel
theorem dX9_gate_11 : decode cX9_gate 11 = .ok (.ifCond .ne 5, 3) := by decide +kernel
theorem dX9_gate_14 : decode cX9_gate 14 = .ok (.iconst (-1), 1) := by decide +kernel
theorem dX9_gate_15 : decode cX9_gate 15 = .ok (.ireturn, 1) := by decide +kernel
theorem dX9_gate_16 : decode cX9_gate 16 = .ok (.aload_n 0, 1) := by decide +kernel
theorem dX9_gate_17 : decode cX9_gate 17 = .ok (.getfield 77, 3) := by decide +kernel
theorem dX9_gate_20 : decode cX9_gate 20 = .ok (.aload_n 0, 1) := by decide +kernel
theorem dX9_gate_21 : decode cX9_gate 21 = .ok (.getfield 12, 3) := by decide +kernel
theorem dX9_gate_24 : decode cX9_gate 24 = .ok (.getfield 94, 3) := by decide +kernel
theorem dX9_gate_27 : decode cX9_gate 27 = .ok (.iload_n 1, 1) := by decide +kernel
theorem dX9_gate_28 : decode cX9_gate 28 = .ok (.aaload, 1) := by decide +kernel
theorem dX9_gate_29 : decode cX9_gate 29 = .ok (.invokevirtual 108, 3) := by decide +kernel
theorem dX9_gate_32 : decode cX9_gate 32 = .ok (.aload_n 0, 1) := by decide +kernel
theorem dX9_gate_33 : decode cX9_gate 33 = .ok (.getfield 77, 3) := by decide +kernel
theorem dX9_gate_36 : decode cX9_gate 36 = .ok (.iload_n 2, 1) := by decide +kernel
theorem dX9_gate_37 : decode cX9_gate 37 = .ok (.invokevirtual 112, 3) := by decide +kernel
theorem dX9_gate_40 : decode cX9_gate 40 = .ok (.aload_n 0, 1) := by decide +kernel
theorem dX9_gate_41 : decode cX9_gate 41 = .ok (.iload_n 1, 1) := by decide +kernel
theorem dX9_gate_42 : decode cX9_gate 42 = .ok (.invokevirtual 116, 3) := by decide +kernel
theorem dX9_gate_45 : decode cX9_gate 45 = .ok (.ireturn, 1) := by decide +kernel
theorem dX9_ahead_0 : decode cX9_ahead 0 = .ok (.iload_n 1, 1) := by decide +kernel
theorem dX9_ahead_1 : decode cX9_ahead 1 = .ok (.invokestatic 90, 3) := by decide +kernel
theorem dX9_ahead_4 : decode cX9_ahead 4 = .ok (.ifCond .eq 10, 3) := by decide +kernel
theorem dX9_ahead_7 : decode cX9_ahead 7 = .ok (.iload_n 2, 1) := by decide +kernel
theorem dX9_ahead_8 : decode cX9_ahead 8 = .ok (.invokestatic 105, 3) := by decide +kernel
theorem dX9_ahead_11 : decode cX9_ahead 11 = .ok (.ifCond .ne 5, 3) := by decide +kernel
theorem dX9_ahead_14 : decode cX9_ahead 14 = .ok (.iconst (-1), 1) := by decide +kernel
theorem dX9_ahead_15 : decode cX9_ahead 15 = .ok (.ireturn, 1) := by decide +kernel
theorem dX9_ahead_16 : decode cX9_ahead 16 = .ok (.aload_n 0, 1) := by decide +kernel
theorem dX9_ahead_17 : decode cX9_ahead 17 = .ok (.getfield 77, 3) := by decide +kernel
theorem dX9_ahead_20 : decode cX9_ahead 20 = .ok (.aload_n 0, 1) := by decide +kernel
theorem dX9_ahead_21 : decode cX9_ahead 21 = .ok (.getfield 12, 3) := by decide +kernel
theorem dX9_ahead_24 : decode cX9_ahead 24 = .ok (.getfield 94, 3) := by decide +kernel
theorem dX9_ahead_27 : decode cX9_ahead 27 = .ok (.iload_n 1, 1) := by decide +kernel
theorem dX9_ahead_28 : decode cX9_ahead 28 = .ok (.aaload, 1) := by decide +kernel
theorem dX9_ahead_29 : decode cX9_ahead 29 = .ok (.invokevirtual 108, 3) := by decide +kernel
theorem dX9_ahead_32 : decode cX9_ahead 32 = .ok (.aload_n 0, 1) := by decide +kernel
theorem dX9_ahead_33 : decode cX9_ahead 33 = .ok (.getfield 77, 3) := by decide +kernel
theorem dX9_ahead_36 : decode cX9_ahead 36 = .ok (.iload_n 2, 1) := by decide +kernel
theorem dX9_ahead_37 : decode cX9_ahead 37 = .ok (.invokevirtual 120, 3) := by decide +kernel
theorem dX9_ahead_40 : decode cX9_ahead 40 = .ok (.aload_n 0, 1) := by decide +kernel
theorem dX9_ahead_41 : decode cX9_ahead 41 = .ok (.iload_n 1, 1) := by decide +kernel
theorem dX9_ahead_42 : decode cX9_ahead 42 = .ok (.invokevirtual 116, 3) := by decide +kernel
theorem dX9_ahead_45 : decode cX9_ahead 45 = .ok (.ireturn, 1) := by decide +kernel
theorem dX9_times_0 : decode cX9_times 0 = .ok (.iload_n 1, 1) := by decide +kernel
theorem dX9_times_1 : decode cX9_times 1 = .ok (.invokestatic 90, 3) := by decide +kernel
theorem dX9_times_4 : decode cX9_times 4 = .ok (.ifCond .eq 17, 3) := by decide +kernel
theorem dX9_times_7 : decode cX9_times 7 = .ok (.iload_n 2, 1) := by decide +kernel
theorem dX9_times_8 : decode cX9_times 8 = .ok (.invokestatic 90, 3) := by decide +kernel
theorem dX9_times_11 : decode cX9_times 11 = .ok (.ifCond .eq 10, 3) := by decide +kernel
theorem dX9_times_14 : decode cX9_times 14 = .ok (.iload_n 3, 1) := by decide +kernel
theorem dX9_times_15 : decode cX9_times 15 = .ok (.invokestatic 90, 3) := by decide +kernel
theorem dX9_times_18 : decode cX9_times 18 = .ok (.ifCond .ne 5, 3) := by decide +kernel
theorem dX9_times_21 : decode cX9_times 21 = .ok (.iconst (-1), 1) := by decide +kernel
theorem dX9_times_22 : decode cX9_times 22 = .ok (.ireturn, 1) := by decide +kernel
theorem dX9_times_23 : decode cX9_times 23 = .ok (.aload_n 0, 1) := by decide +kernel
theorem dX9_times_24 : decode cX9_times 24 = .ok (.getfield 77, 3) := by decide +kernel
theorem dX9_times_27 : decode cX9_times 27 = .ok (.aload_n 0, 1) := by decide +kernel
theorem dX9_times_28 : decode cX9_times 28 = .ok (.getfield 12, 3) := by decide +kernel
theorem dX9_times_31 : decode cX9_times 31 = .ok (.getfield 94, 3) := by decide +kernel
theorem dX9_times_34 : decode cX9_times 34 = .ok (.iload_n 2, 1) := by decide +kernel
theorem dX9_times_35 : decode cX9_times 35 = .ok (.aaload, 1) := by decide +kernel
theorem dX9_times_36 : decode cX9_times 36 = .ok (.aload_n 0, 1) := by decide +kernel
theorem dX9_times_37 : decode cX9_times 37 = .ok (.getfield 12, 3) := by decide +kernel
theorem dX9_times_40 : decode cX9_times 40 = .ok (.getfield 94, 3) := by decide +kernel
theorem dX9_times_43 : decode cX9_times 43 = .ok (.iload_n 3, 1) := by decide +kernel
theorem dX9_times_44 : decode cX9_times 44 = .ok (.aaload, 1) := by decide +kernel
theorem dX9_times_45 : decode cX9_times 45 = .ok (.invokevirtual 123, 3) := by decide +kernel
theorem dX9_times_48 : decode cX9_times 48 = .ok (.aload_n 0, 1) := by decide +kernel
theorem dX9_times_49 : decode cX9_times 49 = .ok (.getfield 77, 3) := by decide +kernel
theorem dX9_times_52 : decode cX9_times 52 = .ok (.invokevirtual 127, 3) := by decide +kernel
theorem dX9_times_55 : decode cX9_times 55 = .ok (.aload_n 0, 1) := by decide +kernel
theorem dX9_times_56 : decode cX9_times 56 = .ok (.iload_n 1, 1) := by decide +kernel
theorem dX9_times_57 : decode cX9_times 57 = .ok (.invokevirtual 116, 3) := by decide +kernel
theorem dX9_times_60 : decode cX9_times 60 = .ok (.ireturn, 1) := by decide +kernel
theorem dX9_turn_0 : decode cX9_turn 0 = .ok (.iload_n 1, 1) := by decide +kernel
theorem dX9_turn_1 : decode cX9_turn 1 = .ok (.invokestatic 90, 3) := by decide +kernel
theorem dX9_turn_4 : decode cX9_turn 4 = .ok (.ifCond .ne 5, 3) := by decide +kernel
theorem dX9_turn_7 : decode cX9_turn 7 = .ok (.iconst (-1), 1) := by decide +kernel
theorem dX9_turn_8 : decode cX9_turn 8 = .ok (.ireturn, 1) := by decide +kernel
theorem dX9_turn_9 : decode cX9_turn 9 = .ok (.aload_n 0, 1) := by decide +kernel
theorem dX9_turn_10 : decode cX9_turn 10 = .ok (.getfield 77, 3) := by decide +kernel
theorem dX9_turn_13 : decode cX9_turn 13 = .ok (.aload_n 0, 1) := by decide +kernel
theorem dX9_turn_14 : decode cX9_turn 14 = .ok (.getfield 12, 3) := by decide +kernel
theorem dX9_turn_17 : decode cX9_turn 17 = .ok (.getfield 94, 3) := by decide +kernel
theorem dX9_turn_20 : decode cX9_turn 20 = .ok (.iload_n 1, 1) := by decide +kernel
theorem dX9_turn_21 : decode cX9_turn 21 = .ok (.aaload, 1) := by decide +kernel
theorem dX9_turn_22 : decode cX9_turn 22 = .ok (.invokevirtual 130, 3) := by decide +kernel
theorem dX9_turn_25 : decode cX9_turn 25 = .ok (.aload_n 0, 1) := by decide +kernel
theorem dX9_turn_26 : decode cX9_turn 26 = .ok (.iload_n 1, 1) := by decide +kernel
theorem dX9_turn_27 : decode cX9_turn 27 = .ok (.invokevirtual 116, 3) := by decide +kernel
theorem dX9_turn_30 : decode cX9_turn 30 = .ok (.ireturn, 1) := by decide +kernel
theorem dX9_part_0 : decode cX9_part 0 = .ok (.iload_n 1, 1) := by decide +kernel
theorem dX9_part_1 : decode cX9_part 1 = .ok (.invokestatic 90, 3) := by decide +kernel
theorem dX9_part_4 : decode cX9_part 4 = .ok (.ifCond .eq 28, 3) := by decide +kernel
theorem dX9_part_7 : decode cX9_part 7 = .ok (.iload_n 2, 1) := by decide +kernel
theorem dX9_part_8 : decode cX9_part 8 = .ok (.iconst 2, 1) := by decide +kernel
theorem dX9_part_9 : decode cX9_part 9 = .ok (.invokestatic 133, 3) := by decide +kernel
theorem dX9_part_12 : decode cX9_part 12 = .ok (.ifCond .eq 20, 3) := by decide +kernel
theorem dX9_part_15 : decode cX9_part 15 = .ok (.iload_n 3, 1) := by decide +kernel
theorem dX9_part_16 : decode cX9_part 16 = .ok (.iconst 2, 1) := by decide +kernel
theorem dX9_part_17 : decode cX9_part 17 = .ok (.invokestatic 133, 3) := by decide +kernel
theorem dX9_part_20 : decode cX9_part 20 = .ok (.ifCond .eq 12, 3) := by decide +kernel
theorem dX9_part_23 : decode cX9_part 23 = .ok (.iload 4, 2) := by decide +kernel
theorem dX9_part_25 : decode cX9_part 25 = .ok (.iconst 4, 1) := by decide +kernel
theorem dX9_part_26 : decode cX9_part 26 = .ok (.invokestatic 133, 3) := by decide +kernel
theorem dX9_part_29 : decode cX9_part 29 = .ok (.ifCond .ne 7, 3) := by decide +kernel
theorem dX9_part_32 : decode cX9_part 32 = .ok (.ldc2_w 137, 3) := by decide +kernel
theorem dX9_part_35 : decode cX9_part 35 = .ok (.lreturn, 1) := by decide +kernel
theorem dX9_part_36 : decode cX9_part 36 = .ok (.aload_n 0, 1) := by decide +kernel
theorem dX9_part_37 : decode cX9_part 37 = .ok (.getfield 12, 3) := by decide +kernel
theorem dX9_part_40 : decode cX9_part 40 = .ok (.getfield 94, 3) := by decide +kernel
theorem dX9_part_43 : decode cX9_part 43 = .ok (.iload_n 1, 1) := by decide +kernel
theorem dX9_part_44 : decode cX9_part 44 = .ok (.aaload, 1) := by decide +kernel
theorem dX9_part_45 : decode cX9_part 45 = .ok (.getfield 139, 3) := by decide +kernel
theorem dX9_part_48 : decode cX9_part 48 = .ok (.iload_n 2, 1) := by decide +kernel
theorem dX9_part_49 : decode cX9_part 49 = .ok (.iload_n 3, 1) := by decide +kernel
theorem dX9_part_50 : decode cX9_part 50 = .ok (.invokestatic 143, 3) := by decide +kernel
theorem dX9_part_53 : decode cX9_part 53 = .ok (.iload 4, 2) := by decide +kernel
theorem dX9_part_55 : decode cX9_part 55 = .ok (.iadd, 1) := by decide +kernel
theorem dX9_part_56 : decode cX9_part 56 = .ok (.laload, 1) := by decide +kernel
theorem dX9_part_57 : decode cX9_part 57 = .ok (.lreturn, 1) := by decide +kernel
theorem dX9_e_0 : decode cX9_e 0 = .ok (.iload_n 1, 1) := by decide +kernel
theorem dX9_e_1 : decode cX9_e 1 = .ok (.invokestatic 90, 3) := by decide +kernel
theorem dX9_e_4 : decode cX9_e 4 = .ok (.ifCond .eq 18, 3) := by decide +kernel
theorem dX9_e_7 : decode cX9_e 7 = .ok (.aload_n 0, 1) := by decide +kernel
theorem dX9_e_8 : decode cX9_e 8 = .ok (.getfield 12, 3) := by decide +kernel
theorem dX9_e_11 : decode cX9_e 11 = .ok (.getfield 94, 3) := by decide +kernel
theorem dX9_e_14 : decode cX9_e 14 = .ok (.iload_n 1, 1) := by decide +kernel
theorem dX9_e_15 : decode cX9_e 15 = .ok (.aaload, 1) := by decide +kernel
theorem dX9_e_16 : decode cX9_e 16 = .ok (.getfield 98, 3) := by decide +kernel
theorem dX9_e_19 : decode cX9_e 19 = .ok (.goto 4, 3) := by decide +kernel
theorem dX9_e_22 : decode cX9_e 22 = .ok (.iconst (-1), 1) := by decide +kernel
theorem dX9_e_23 : decode cX9_e 23 = .ok (.ireturn, 1) := by decide +kernel
theorem dX9_phase_0 : decode cX9_phase 0 = .ok (.iload_n 1, 1) := by decide +kernel
theorem dX9_phase_1 : decode cX9_phase 1 = .ok (.invokestatic 90, 3) := by decide +kernel
theorem dX9_phase_4 : decode cX9_phase 4 = .ok (.ifCond .eq 10, 3) := by decide +kernel
theorem dX9_phase_7 : decode cX9_phase 7 = .ok (.iload_n 2, 1) := by decide +kernel
theorem dX9_phase_8 : decode cX9_phase 8 = .ok (.invokestatic 90, 3) := by decide +kernel
theorem dX9_phase_11 : decode cX9_phase 11 = .ok (.ifCond .ne 5, 3) := by decide +kernel
theorem dX9_phase_14 : decode cX9_phase 14 = .ok (.iconst (-1), 1) := by decide +kernel
theorem dX9_phase_15 : decode cX9_phase 15 = .ok (.ireturn, 1) := by decide +kernel
theorem dX9_phase_16 : decode cX9_phase 16 = .ok (.aload_n 0, 1) := by decide +kernel
theorem dX9_phase_17 : decode cX9_phase 17 = .ok (.getfield 77, 3) := by decide +kernel
theorem dX9_phase_20 : decode cX9_phase 20 = .ok (.aload_n 0, 1) := by decide +kernel
theorem dX9_phase_21 : decode cX9_phase 21 = .ok (.getfield 12, 3) := by decide +kernel
theorem dX9_phase_24 : decode cX9_phase 24 = .ok (.getfield 94, 3) := by decide +kernel
theorem dX9_phase_27 : decode cX9_phase 27 = .ok (.iload_n 2, 1) := by decide +kernel
theorem dX9_phase_28 : decode cX9_phase 28 = .ok (.aaload, 1) := by decide +kernel
theorem dX9_phase_29 : decode cX9_phase 29 = .ok (.invokevirtual 108, 3) := by decide +kernel
theorem dX9_phase_32 : decode cX9_phase 32 = .ok (.iconst 0, 1) := by decide +kernel
theorem dX9_phase_33 : decode cX9_phase 33 = .ok (.istore_n 3, 1) := by decide +kernel
theorem dX9_phase_34 : decode cX9_phase 34 = .ok (.iload_n 3, 1) := by decide +kernel
theorem dX9_phase_35 : decode cX9_phase 35 = .ok (.bipush 8, 2) := by decide +kernel
theorem dX9_phase_37 : decode cX9_phase 37 = .ok (.if_icmp .ge 38, 3) := by decide +kernel
theorem dX9_phase_40 : decode cX9_phase 40 = .ok (.aload_n 0, 1) := by decide +kernel
theorem dX9_phase_41 : decode cX9_phase 41 = .ok (.getfield 77, 3) := by decide +kernel
theorem dX9_phase_44 : decode cX9_phase 44 = .ok (.aload_n 0, 1) := by decide +kernel
theorem dX9_phase_45 : decode cX9_phase 45 = .ok (.getfield 12, 3) := by decide +kernel
theorem dX9_phase_48 : decode cX9_phase 48 = .ok (.getfield 94, 3) := by decide +kernel
theorem dX9_phase_51 : decode cX9_phase 51 = .ok (.iload_n 1, 1) := by decide +kernel
theorem dX9_phase_52 : decode cX9_phase 52 = .ok (.aaload, 1) := by decide +kernel
theorem dX9_phase_53 : decode cX9_phase 53 = .ok (.invokevirtual 147, 3) := by decide +kernel
theorem dX9_phase_56 : decode cX9_phase 56 = .ok (.ifCond .eq 5, 3) := by decide +kernel
theorem dX9_phase_59 : decode cX9_phase 59 = .ok (.iload_n 3, 1) := by decide +kernel
theorem dX9_phase_60 : decode cX9_phase 60 = .ok (.ireturn, 1) := by decide +kernel
theorem dX9_phase_61 : decode cX9_phase 61 = .ok (.aload_n 0, 1) := by decide +kernel
theorem dX9_phase_62 : decode cX9_phase 62 = .ok (.getfield 77, 3) := by decide +kernel
theorem dX9_phase_65 : decode cX9_phase 65 = .ok (.iconst 5, 1) := by decide +kernel
theorem dX9_phase_66 : decode cX9_phase 66 = .ok (.invokevirtual 120, 3) := by decide +kernel
theorem dX9_phase_69 : decode cX9_phase 69 = .ok (.iinc 3 1, 3) := by decide +kernel
theorem dX9_phase_72 : decode cX9_phase 72 = .ok (.goto (-38), 3) := by decide +kernel
theorem dX9_phase_75 : decode cX9_phase 75 = .ok (.bipush (-2), 2) := by decide +kernel
theorem dX9_phase_77 : decode cX9_phase 77 = .ok (.ireturn, 1) := by decide +kernel
theorem dX9_channel_0 : decode cX9_channel 0 = .ok (.iload_n 1, 1) := by decide +kernel
theorem dX9_channel_1 : decode cX9_channel 1 = .ok (.invokestatic 90, 3) := by decide +kernel
theorem dX9_channel_4 : decode cX9_channel 4 = .ok (.ifCond .eq 28, 3) := by decide +kernel
theorem dX9_channel_7 : decode cX9_channel 7 = .ok (.iload_n 2, 1) := by decide +kernel
theorem dX9_channel_8 : decode cX9_channel 8 = .ok (.iconst 3, 1) := by decide +kernel
theorem dX9_channel_9 : decode cX9_channel 9 = .ok (.invokestatic 133, 3) := by decide +kernel
theorem dX9_channel_12 : decode cX9_channel 12 = .ok (.ifCond .eq 20, 3) := by decide +kernel
theorem dX9_channel_15 : decode cX9_channel 15 = .ok (.iload_n 3, 1) := by decide +kernel
theorem dX9_channel_16 : decode cX9_channel 16 = .ok (.iconst 3, 1) := by decide +kernel
theorem dX9_channel_17 : decode cX9_channel 17 = .ok (.invokestatic 133, 3) := by decide +kernel
theorem dX9_channel_20 : decode cX9_channel 20 = .ok (.ifCond .eq 12, 3) := by decide +kernel
theorem dX9_channel_23 : decode cX9_channel 23 = .ok (.iload 4, 2) := by decide +kernel
theorem dX9_channel_25 : decode cX9_channel 25 = .ok (.iconst 2, 1) := by decide +kernel
theorem dX9_channel_26 : decode cX9_channel 26 = .ok (.invokestatic 133, 3) := by decide +kernel
theorem dX9_channel_29 : decode cX9_channel 29 = .ok (.ifCond .ne 7, 3) := by decide +kernel
theorem dX9_channel_32 : decode cX9_channel 32 = .ok (.ldc2_w 137, 3) := by decide +kernel
theorem dX9_channel_35 : decode cX9_channel 35 = .ok (.lreturn, 1) := by decide +kernel
theorem dX9_channel_36 : decode cX9_channel 36 = .ok (.aload_n 0, 1) := by decide +kernel
theorem dX9_channel_37 : decode cX9_channel 37 = .ok (.getfield 56, 3) := by decide +kernel
theorem dX9_channel_40 : decode cX9_channel 40 = .ok (.aload_n 0, 1) := by decide +kernel
theorem dX9_channel_41 : decode cX9_channel 41 = .ok (.getfield 12, 3) := by decide +kernel
theorem dX9_channel_44 : decode cX9_channel 44 = .ok (.getfield 94, 3) := by decide +kernel
theorem dX9_channel_47 : decode cX9_channel 47 = .ok (.iload_n 1, 1) := by decide +kernel
theorem dX9_channel_48 : decode cX9_channel 48 = .ok (.aaload, 1) := by decide +kernel
theorem dX9_channel_49 : decode cX9_channel 49 = .ok (.invokevirtual 151, 3) := by decide +kernel
theorem dX9_channel_52 : decode cX9_channel 52 = .ok (.iload 4, 2) := by decide +kernel
theorem dX9_channel_54 : decode cX9_channel 54 = .ok (.ifCond .ne 19, 3) := by decide +kernel
theorem dX9_channel_57 : decode cX9_channel 57 = .ok (.aload_n 0, 1) := by decide +kernel
theorem dX9_channel_58 : decode cX9_channel 58 = .ok (.getfield 56, 3) := by decide +kernel
theorem dX9_channel_61 : decode cX9_channel 61 = .ok (.getfield 154, 3) := by decide +kernel
theorem dX9_channel_64 : decode cX9_channel 64 = .ok (.iload_n 2, 1) := by decide +kernel
theorem dX9_channel_65 : decode cX9_channel 65 = .ok (.iconst 3, 1) := by decide +kernel
theorem dX9_channel_66 : decode cX9_channel 66 = .ok (.imul, 1) := by decide +kernel
theorem dX9_channel_67 : decode cX9_channel 67 = .ok (.iload_n 3, 1) := by decide +kernel
theorem dX9_channel_68 : decode cX9_channel 68 = .ok (.iadd, 1) := by decide +kernel
theorem dX9_channel_69 : decode cX9_channel 69 = .ok (.laload, 1) := by decide +kernel
theorem dX9_channel_70 : decode cX9_channel 70 = .ok (.goto 16, 3) := by decide +kernel
theorem dX9_channel_73 : decode cX9_channel 73 = .ok (.aload_n 0, 1) := by decide +kernel
theorem dX9_channel_74 : decode cX9_channel 74 = .ok (.getfield 56, 3) := by decide +kernel
theorem dX9_channel_77 : decode cX9_channel 77 = .ok (.getfield 157, 3) := by decide +kernel
theorem dX9_channel_80 : decode cX9_channel 80 = .ok (.iload_n 2, 1) := by decide +kernel
theorem dX9_channel_81 : decode cX9_channel 81 = .ok (.iconst 3, 1) := by decide +kernel
theorem dX9_channel_82 : decode cX9_channel 82 = .ok (.imul, 1) := by decide +kernel
theorem dX9_channel_83 : decode cX9_channel 83 = .ok (.iload_n 3, 1) := by decide +kernel
theorem dX9_channel_84 : decode cX9_channel 84 = .ok (.iadd, 1) := by decide +kernel
theorem dX9_channel_85 : decode cX9_channel 85 = .ok (.laload, 1) := by decide +kernel
theorem dX9_channel_86 : decode cX9_channel 86 = .ok (.lreturn, 1) := by decide +kernel
theorem dX9_count_0 : decode cX9_count 0 = .ok (.iload_n 1, 1) := by decide +kernel
theorem dX9_count_1 : decode cX9_count 1 = .ok (.invokestatic 90, 3) := by decide +kernel
theorem dX9_count_4 : decode cX9_count 4 = .ok (.ifCond .ne 5, 3) := by decide +kernel
theorem dX9_count_7 : decode cX9_count 7 = .ok (.iconst (-1), 1) := by decide +kernel
theorem dX9_count_8 : decode cX9_count 8 = .ok (.ireturn, 1) := by decide +kernel
theorem dX9_count_9 : decode cX9_count 9 = .ok (.aload_n 0, 1) := by decide +kernel
theorem dX9_count_10 : decode cX9_count 10 = .ok (.getfield 56, 3) := by decide +kernel
theorem dX9_count_13 : decode cX9_count 13 = .ok (.aload_n 0, 1) := by decide +kernel
theorem dX9_count_14 : decode cX9_count 14 = .ok (.getfield 12, 3) := by decide +kernel
theorem dX9_count_17 : decode cX9_count 17 = .ok (.getfield 94, 3) := by decide +kernel
theorem dX9_count_20 : decode cX9_count 20 = .ok (.iload_n 1, 1) := by decide +kernel
theorem dX9_count_21 : decode cX9_count 21 = .ok (.aaload, 1) := by decide +kernel
theorem dX9_count_22 : decode cX9_count 22 = .ok (.invokevirtual 151, 3) := by decide +kernel
theorem dX9_count_25 : decode cX9_count 25 = .ok (.aload_n 0, 1) := by decide +kernel
theorem dX9_count_26 : decode cX9_count 26 = .ok (.getfield 56, 3) := by decide +kernel
theorem dX9_count_29 : decode cX9_count 29 = .ok (.getfield 160, 3) := by decide +kernel
theorem dX9_count_32 : decode cX9_count 32 = .ok (.ireturn, 1) := by decide +kernel
theorem dX9_clifford_0 : decode cX9_clifford 0 = .ok (.iload_n 1, 1) := by decide +kernel
theorem dX9_clifford_1 : decode cX9_clifford 1 = .ok (.invokestatic 90, 3) := by decide +kernel
theorem dX9_clifford_4 : decode cX9_clifford 4 = .ok (.ifCond .ne 5, 3) := by decide +kernel
theorem dX9_clifford_7 : decode cX9_clifford 7 = .ok (.iconst (-1), 1) := by decide +kernel
theorem dX9_clifford_8 : decode cX9_clifford 8 = .ok (.ireturn, 1) := by decide +kernel
theorem dX9_clifford_9 : decode cX9_clifford 9 = .ok (.aload_n 0, 1) := by decide +kernel
theorem dX9_clifford_10 : decode cX9_clifford 10 = .ok (.getfield 49, 3) := by decide +kernel
theorem dX9_clifford_13 : decode cX9_clifford 13 = .ok (.invokevirtual 163, 3) := by decide +kernel
theorem dX9_clifford_16 : decode cX9_clifford 16 = .ok (.aload_n 0, 1) := by decide +kernel
theorem dX9_clifford_17 : decode cX9_clifford 17 = .ok (.getfield 49, 3) := by decide +kernel
theorem dX9_clifford_20 : decode cX9_clifford 20 = .ok (.aload_n 0, 1) := by decide +kernel
theorem dX9_clifford_21 : decode cX9_clifford 21 = .ok (.getfield 12, 3) := by decide +kernel
theorem dX9_clifford_24 : decode cX9_clifford 24 = .ok (.getfield 94, 3) := by decide +kernel
theorem dX9_clifford_27 : decode cX9_clifford 27 = .ok (.iload_n 1, 1) := by decide +kernel
theorem dX9_clifford_28 : decode cX9_clifford 28 = .ok (.aaload, 1) := by decide +kernel
theorem dX9_clifford_29 : decode cX9_clifford 29 = .ok (.invokevirtual 166, 3) := by decide +kernel
theorem dX9_clifford_32 : decode cX9_clifford 32 = .ok (.ireturn, 1) := by decide +kernel
theorem dX9_take_0 : decode cX9_take 0 = .ok (.iload_n 1, 1) := by decide +kernel
theorem dX9_take_1 : decode cX9_take 1 = .ok (.invokestatic 90, 3) := by decide +kernel
theorem dX9_take_4 : decode cX9_take 4 = .ok (.ifCond .eq 13, 3) := by decide +kernel
theorem dX9_take_7 : decode cX9_take 7 = .ok (.iload_n 2, 1) := by decide +kernel
theorem dX9_take_8 : decode cX9_take 8 = .ok (.sipush 192, 3) := by decide +kernel
theorem dX9_take_11 : decode cX9_take 11 = .ok (.invokestatic 133, 3) := by decide +kernel
theorem dX9_take_14 : decode cX9_take 14 = .ok (.ifCond .ne 5, 3) := by decide +kernel
theorem dX9_take_17 : decode cX9_take 17 = .ok (.iconst (-1), 1) := by decide +kernel
theorem dX9_take_18 : decode cX9_take 18 = .ok (.ireturn, 1) := by decide +kernel
theorem dX9_take_19 : decode cX9_take 19 = .ok (.aload_n 0, 1) := by decide +kernel
theorem dX9_take_20 : decode cX9_take 20 = .ok (.getfield 49, 3) := by decide +kernel
theorem dX9_take_23 : decode cX9_take 23 = .ok (.invokevirtual 163, 3) := by decide +kernel
theorem dX9_take_26 : decode cX9_take 26 = .ok (.aload_n 0, 1) := by decide +kernel
theorem dX9_take_27 : decode cX9_take 27 = .ok (.getfield 49, 3) := by decide +kernel
theorem dX9_take_30 : decode cX9_take 30 = .ok (.iload_n 2, 1) := by decide +kernel
theorem dX9_take_31 : decode cX9_take 31 = .ok (.aload_n 0, 1) := by decide +kernel
theorem dX9_take_32 : decode cX9_take 32 = .ok (.getfield 77, 3) := by decide +kernel
theorem dX9_take_35 : decode cX9_take 35 = .ok (.invokevirtual 170, 3) := by decide +kernel
theorem dX9_take_38 : decode cX9_take 38 = .ok (.aload_n 0, 1) := by decide +kernel
theorem dX9_take_39 : decode cX9_take 39 = .ok (.iload_n 1, 1) := by decide +kernel
theorem dX9_take_40 : decode cX9_take 40 = .ok (.invokevirtual 116, 3) := by decide +kernel
theorem dX9_take_43 : decode cX9_take 43 = .ok (.ireturn, 1) := by decide +kernel
theorem dX9_leads_0 : decode cX9_leads 0 = .ok (.iload_n 1, 1) := by decide +kernel
theorem dX9_leads_1 : decode cX9_leads 1 = .ok (.sipush 192, 3) := by decide +kernel
theorem dX9_leads_4 : decode cX9_leads 4 = .ok (.invokestatic 133, 3) := by decide +kernel
theorem dX9_leads_7 : decode cX9_leads 7 = .ok (.ifCond .eq 21, 3) := by decide +kernel
theorem dX9_leads_10 : decode cX9_leads 10 = .ok (.iload_n 2, 1) := by decide +kernel
theorem dX9_leads_11 : decode cX9_leads 11 = .ok (.invokestatic 105, 3) := by decide +kernel
theorem dX9_leads_14 : decode cX9_leads 14 = .ok (.ifCond .eq 14, 3) := by decide +kernel
theorem dX9_leads_17 : decode cX9_leads 17 = .ok (.iload_n 2, 1) := by decide +kernel
theorem dX9_leads_18 : decode cX9_leads 18 = .ok (.iconst 1, 1) := by decide +kernel
theorem dX9_leads_19 : decode cX9_leads 19 = .ok (.if_icmp .eq 9, 3) := by decide +kernel
theorem dX9_leads_22 : decode cX9_leads 22 = .ok (.iload_n 2, 1) := by decide +kernel
theorem dX9_leads_23 : decode cX9_leads 23 = .ok (.bipush 6, 2) := by decide +kernel
theorem dX9_leads_25 : decode cX9_leads 25 = .ok (.if_icmp .ne 5, 3) := by decide +kernel
theorem dX9_leads_28 : decode cX9_leads 28 = .ok (.iconst (-1), 1) := by decide +kernel
theorem dX9_leads_29 : decode cX9_leads 29 = .ok (.ireturn, 1) := by decide +kernel
theorem dX9_leads_30 : decode cX9_leads 30 = .ok (.aload_n 0, 1) := by decide +kernel
theorem dX9_leads_31 : decode cX9_leads 31 = .ok (.getfield 49, 3) := by decide +kernel
theorem dX9_leads_34 : decode cX9_leads 34 = .ok (.invokevirtual 163, 3) := by decide +kernel
theorem dX9_leads_37 : decode cX9_leads 37 = .ok (.aload_n 0, 1) := by decide +kernel
theorem dX9_leads_38 : decode cX9_leads 38 = .ok (.getfield 49, 3) := by decide +kernel
theorem dX9_leads_41 : decode cX9_leads 41 = .ok (.iload_n 1, 1) := by decide +kernel
theorem dX9_leads_42 : decode cX9_leads 42 = .ok (.iload_n 2, 1) := by decide +kernel
theorem dX9_leads_43 : decode cX9_leads 43 = .ok (.invokevirtual 174, 3) := by decide +kernel
theorem dX9_leads_46 : decode cX9_leads 46 = .ok (.ireturn, 1) := by decide +kernel
theorem dX9_price_0 : decode cX9_price 0 = .ok (.iload_n 1, 1) := by decide +kernel
theorem dX9_price_1 : decode cX9_price 1 = .ok (.invokestatic 105, 3) := by decide +kernel
theorem dX9_price_4 : decode cX9_price 4 = .ok (.ifCond .eq 13, 3) := by decide +kernel
theorem dX9_price_7 : decode cX9_price 7 = .ok (.iload_n 2, 1) := by decide +kernel
theorem dX9_price_8 : decode cX9_price 8 = .ok (.ifCond .lt 9, 3) := by decide +kernel
theorem dX9_price_11 : decode cX9_price 11 = .ok (.iload_n 2, 1) := by decide +kernel
theorem dX9_price_12 : decode cX9_price 12 = .ok (.bipush 9, 2) := by decide +kernel
theorem dX9_price_14 : decode cX9_price 14 = .ok (.if_icmp .le 5, 3) := by decide +kernel
theorem dX9_price_17 : decode cX9_price 17 = .ok (.iconst (-1), 1) := by decide +kernel
theorem dX9_price_18 : decode cX9_price 18 = .ok (.ireturn, 1) := by decide +kernel
theorem dX9_price_19 : decode cX9_price 19 = .ok (.aload_n 0, 1) := by decide +kernel
theorem dX9_price_20 : decode cX9_price 20 = .ok (.getfield 12, 3) := by decide +kernel
theorem dX9_price_23 : decode cX9_price 23 = .ok (.getfield 177, 3) := by decide +kernel
theorem dX9_price_26 : decode cX9_price 26 = .ok (.iload_n 1, 1) := by decide +kernel
theorem dX9_price_27 : decode cX9_price 27 = .ok (.iaload, 1) := by decide +kernel
theorem dX9_price_28 : decode cX9_price 28 = .ok (.istore_n 3, 1) := by decide +kernel
theorem dX9_price_29 : decode cX9_price 29 = .ok (.aload_n 0, 1) := by decide +kernel
theorem dX9_price_30 : decode cX9_price 30 = .ok (.getfield 12, 3) := by decide +kernel
theorem dX9_price_33 : decode cX9_price 33 = .ok (.getfield 177, 3) := by decide +kernel
theorem dX9_price_36 : decode cX9_price 36 = .ok (.iload_n 1, 1) := by decide +kernel
theorem dX9_price_37 : decode cX9_price 37 = .ok (.iload_n 2, 1) := by decide +kernel
theorem dX9_price_38 : decode cX9_price 38 = .ok (.iastore, 1) := by decide +kernel
theorem dX9_price_39 : decode cX9_price 39 = .ok (.iload_n 3, 1) := by decide +kernel
theorem dX9_price_40 : decode cX9_price 40 = .ok (.ireturn, 1) := by decide +kernel
theorem dX9_cheapest_0 : decode cX9_cheapest 0 = .ok (.iload_n 1, 1) := by decide +kernel
theorem dX9_cheapest_1 : decode cX9_cheapest 1 = .ok (.sipush 192, 3) := by decide +kernel
theorem dX9_cheapest_4 : decode cX9_cheapest 4 = .ok (.invokestatic 133, 3) := by decide +kernel
theorem dX9_cheapest_7 : decode cX9_cheapest 7 = .ok (.ifCond .eq 9, 3) := by decide +kernel
theorem dX9_cheapest_10 : decode cX9_cheapest 10 = .ok (.iload_n 2, 1) := by decide +kernel
theorem dX9_cheapest_11 : decode cX9_cheapest 11 = .ok (.bipush (-2), 2) := by decide +kernel
theorem dX9_cheapest_13 : decode cX9_cheapest 13 = .ok (.if_icmp .ge 5, 3) := by decide +kernel
theorem dX9_cheapest_16 : decode cX9_cheapest 16 = .ok (.iconst (-1), 1) := by decide +kernel
theorem dX9_cheapest_17 : decode cX9_cheapest 17 = .ok (.ireturn, 1) := by decide +kernel
theorem dX9_cheapest_18 : decode cX9_cheapest 18 = .ok (.aload_n 0, 1) := by decide +kernel
theorem dX9_cheapest_19 : decode cX9_cheapest 19 = .ok (.getfield 49, 3) := by decide +kernel
theorem dX9_cheapest_22 : decode cX9_cheapest 22 = .ok (.aload_n 0, 1) := by decide +kernel
theorem dX9_cheapest_23 : decode cX9_cheapest 23 = .ok (.getfield 12, 3) := by decide +kernel
theorem dX9_cheapest_26 : decode cX9_cheapest 26 = .ok (.getfield 177, 3) := by decide +kernel
theorem dX9_cheapest_29 : decode cX9_cheapest 29 = .ok (.invokevirtual 181, 3) := by decide +kernel
theorem dX9_cheapest_32 : decode cX9_cheapest 32 = .ok (.iload_n 2, 1) := by decide +kernel
theorem dX9_cheapest_33 : decode cX9_cheapest 33 = .ok (.bipush (-2), 2) := by decide +kernel
theorem dX9_cheapest_35 : decode cX9_cheapest 35 = .ok (.if_icmp .ne 12, 3) := by decide +kernel
theorem dX9_cheapest_38 : decode cX9_cheapest 38 = .ok (.aload_n 0, 1) := by decide +kernel
theorem dX9_cheapest_39 : decode cX9_cheapest 39 = .ok (.getfield 49, 3) := by decide +kernel
theorem dX9_cheapest_42 : decode cX9_cheapest 42 = .ok (.iload_n 1, 1) := by decide +kernel
theorem dX9_cheapest_43 : decode cX9_cheapest 43 = .ok (.invokevirtual 185, 3) := by decide +kernel
theorem dX9_cheapest_46 : decode cX9_cheapest 46 = .ok (.ireturn, 1) := by decide +kernel
theorem dX9_cheapest_47 : decode cX9_cheapest 47 = .ok (.iload_n 2, 1) := by decide +kernel
theorem dX9_cheapest_48 : decode cX9_cheapest 48 = .ok (.iconst (-1), 1) := by decide +kernel
theorem dX9_cheapest_49 : decode cX9_cheapest 49 = .ok (.if_icmp .ne 14, 3) := by decide +kernel
theorem dX9_cheapest_52 : decode cX9_cheapest 52 = .ok (.aload_n 0, 1) := by decide +kernel
theorem dX9_cheapest_53 : decode cX9_cheapest 53 = .ok (.getfield 49, 3) := by decide +kernel
theorem dX9_cheapest_56 : decode cX9_cheapest 56 = .ok (.iload_n 1, 1) := by decide +kernel
theorem dX9_cheapest_57 : decode cX9_cheapest 57 = .ok (.invokevirtual 188, 3) := by decide +kernel
theorem dX9_cheapest_60 : decode cX9_cheapest 60 = .ok (.goto 12, 3) := by decide +kernel
theorem dX9_cheapest_63 : decode cX9_cheapest 63 = .ok (.aload_n 0, 1) := by decide +kernel
theorem dX9_cheapest_64 : decode cX9_cheapest 64 = .ok (.getfield 49, 3) := by decide +kernel
theorem dX9_cheapest_67 : decode cX9_cheapest 67 = .ok (.iload_n 1, 1) := by decide +kernel
theorem dX9_cheapest_68 : decode cX9_cheapest 68 = .ok (.iload_n 2, 1) := by decide +kernel
theorem dX9_cheapest_69 : decode cX9_cheapest 69 = .ok (.invokevirtual 191, 3) := by decide +kernel
theorem dX9_cheapest_72 : decode cX9_cheapest 72 = .ok (.ireturn, 1) := by decide +kernel
theorem dX9_push_0 : decode cX9_push 0 = .ok (.iload_n 1, 1) := by decide +kernel
theorem dX9_push_1 : decode cX9_push 1 = .ok (.invokestatic 194, 3) := by decide +kernel
theorem dX9_push_4 : decode cX9_push 4 = .ok (.ifCond .eq 10, 3) := by decide +kernel
theorem dX9_push_7 : decode cX9_push 7 = .ok (.iload_n 2, 1) := by decide +kernel
theorem dX9_push_8 : decode cX9_push 8 = .ok (.invokestatic 105, 3) := by decide +kernel
theorem dX9_push_11 : decode cX9_push 11 = .ok (.ifCond .ne 5, 3) := by decide +kernel
theorem dX9_push_14 : decode cX9_push 14 = .ok (.iconst (-1), 1) := by decide +kernel
theorem dX9_push_15 : decode cX9_push 15 = .ok (.ireturn, 1) := by decide +kernel
theorem dX9_push_16 : decode cX9_push 16 = .ok (.aload_n 0, 1) := by decide +kernel
theorem dX9_push_17 : decode cX9_push 17 = .ok (.getfield 70, 3) := by decide +kernel
theorem dX9_push_20 : decode cX9_push 20 = .ok (.aload_n 0, 1) := by decide +kernel
theorem dX9_push_21 : decode cX9_push 21 = .ok (.getfield 12, 3) := by decide +kernel
theorem dX9_push_24 : decode cX9_push 24 = .ok (.getfield 197, 3) := by decide +kernel
theorem dX9_push_27 : decode cX9_push 27 = .ok (.iload_n 1, 1) := by decide +kernel
theorem dX9_push_28 : decode cX9_push 28 = .ok (.aaload, 1) := by decide +kernel
theorem dX9_push_29 : decode cX9_push 29 = .ok (.invokevirtual 201, 3) := by decide +kernel
theorem dX9_push_32 : decode cX9_push 32 = .ok (.aload_n 0, 1) := by decide +kernel
theorem dX9_push_33 : decode cX9_push 33 = .ok (.getfield 70, 3) := by decide +kernel
theorem dX9_push_36 : decode cX9_push 36 = .ok (.iload_n 2, 1) := by decide +kernel
theorem dX9_push_37 : decode cX9_push 37 = .ok (.invokevirtual 204, 3) := by decide +kernel
theorem dX9_push_40 : decode cX9_push 40 = .ok (.ifCond .eq 11, 3) := by decide +kernel
theorem dX9_push_43 : decode cX9_push 43 = .ok (.aload_n 0, 1) := by decide +kernel
theorem dX9_push_44 : decode cX9_push 44 = .ok (.iload_n 1, 1) := by decide +kernel
theorem dX9_push_45 : decode cX9_push 45 = .ok (.invokevirtual 207, 3) := by decide +kernel
theorem dX9_push_48 : decode cX9_push 48 = .ok (.goto 5, 3) := by decide +kernel
theorem dX9_push_51 : decode cX9_push 51 = .ok (.bipush (-3), 2) := by decide +kernel
theorem dX9_push_53 : decode cX9_push 53 = .ok (.ireturn, 1) := by decide +kernel
theorem dX9_pull_0 : decode cX9_pull 0 = .ok (.iload_n 1, 1) := by decide +kernel
theorem dX9_pull_1 : decode cX9_pull 1 = .ok (.invokestatic 194, 3) := by decide +kernel
theorem dX9_pull_4 : decode cX9_pull 4 = .ok (.ifCond .ne 5, 3) := by decide +kernel
theorem dX9_pull_7 : decode cX9_pull 7 = .ok (.iconst (-1), 1) := by decide +kernel
theorem dX9_pull_8 : decode cX9_pull 8 = .ok (.ireturn, 1) := by decide +kernel
theorem dX9_pull_9 : decode cX9_pull 9 = .ok (.aload_n 0, 1) := by decide +kernel
theorem dX9_pull_10 : decode cX9_pull 10 = .ok (.getfield 70, 3) := by decide +kernel
theorem dX9_pull_13 : decode cX9_pull 13 = .ok (.aload_n 0, 1) := by decide +kernel
theorem dX9_pull_14 : decode cX9_pull 14 = .ok (.getfield 12, 3) := by decide +kernel
theorem dX9_pull_17 : decode cX9_pull 17 = .ok (.getfield 197, 3) := by decide +kernel
theorem dX9_pull_20 : decode cX9_pull 20 = .ok (.iload_n 1, 1) := by decide +kernel
theorem dX9_pull_21 : decode cX9_pull 21 = .ok (.aaload, 1) := by decide +kernel
theorem dX9_pull_22 : decode cX9_pull 22 = .ok (.invokevirtual 201, 3) := by decide +kernel
theorem dX9_pull_25 : decode cX9_pull 25 = .ok (.aload_n 0, 1) := by decide +kernel
theorem dX9_pull_26 : decode cX9_pull 26 = .ok (.getfield 70, 3) := by decide +kernel
theorem dX9_pull_29 : decode cX9_pull 29 = .ok (.aload_n 0, 1) := by decide +kernel
theorem dX9_pull_30 : decode cX9_pull 30 = .ok (.getfield 70, 3) := by decide +kernel
theorem dX9_pull_33 : decode cX9_pull 33 = .ok (.getfield 210, 3) := by decide +kernel
theorem dX9_pull_36 : decode cX9_pull 36 = .ok (.iconst 1, 1) := by decide +kernel
theorem dX9_pull_37 : decode cX9_pull 37 = .ok (.isub, 1) := by decide +kernel
theorem dX9_pull_38 : decode cX9_pull 38 = .ok (.invokevirtual 213, 3) := by decide +kernel
theorem dX9_pull_41 : decode cX9_pull 41 = .ok (.istore_n 2, 1) := by decide +kernel
theorem dX9_pull_42 : decode cX9_pull 42 = .ok (.iload_n 2, 1) := by decide +kernel
theorem dX9_pull_43 : decode cX9_pull 43 = .ok (.ifCond .ge 6, 3) := by decide +kernel
theorem dX9_pull_46 : decode cX9_pull 46 = .ok (.bipush (-2), 2) := by decide +kernel
theorem dX9_pull_48 : decode cX9_pull 48 = .ok (.ireturn, 1) := by decide +kernel
theorem dX9_pull_49 : decode cX9_pull 49 = .ok (.aload_n 0, 1) := by decide +kernel
theorem dX9_pull_50 : decode cX9_pull 50 = .ok (.getfield 70, 3) := by decide +kernel
theorem dX9_pull_53 : decode cX9_pull 53 = .ok (.aload_n 0, 1) := by decide +kernel
theorem dX9_pull_54 : decode cX9_pull 54 = .ok (.getfield 70, 3) := by decide +kernel
theorem dX9_pull_57 : decode cX9_pull 57 = .ok (.getfield 210, 3) := by decide +kernel
theorem dX9_pull_60 : decode cX9_pull 60 = .ok (.iconst 1, 1) := by decide +kernel
theorem dX9_pull_61 : decode cX9_pull 61 = .ok (.isub, 1) := by decide +kernel
theorem dX9_pull_62 : decode cX9_pull 62 = .ok (.iconst 1, 1) := by decide +kernel
theorem dX9_pull_63 : decode cX9_pull 63 = .ok (.invokevirtual 216, 3) := by decide +kernel
theorem dX9_pull_66 : decode cX9_pull 66 = .ok (.aload_n 0, 1) := by decide +kernel
theorem dX9_pull_67 : decode cX9_pull 67 = .ok (.iload_n 1, 1) := by decide +kernel
theorem dX9_pull_68 : decode cX9_pull 68 = .ok (.invokevirtual 207, 3) := by decide +kernel
theorem dX9_pull_71 : decode cX9_pull 71 = .ok (.pop, 1) := by decide +kernel
theorem dX9_pull_72 : decode cX9_pull 72 = .ok (.iload_n 2, 1) := by decide +kernel
theorem dX9_pull_73 : decode cX9_pull 73 = .ok (.ireturn, 1) := by decide +kernel
theorem dX9_word_0 : decode cX9_word 0 = .ok (.iload_n 1, 1) := by decide +kernel
theorem dX9_word_1 : decode cX9_word 1 = .ok (.invokestatic 194, 3) := by decide +kernel
theorem dX9_word_4 : decode cX9_word 4 = .ok (.ifCond .eq 9, 3) := by decide +kernel
theorem dX9_word_7 : decode cX9_word 7 = .ok (.iload_n 2, 1) := by decide +kernel
theorem dX9_word_8 : decode cX9_word 8 = .ok (.bipush (-2), 2) := by decide +kernel
theorem dX9_word_10 : decode cX9_word 10 = .ok (.if_icmp .ge 5, 3) := by decide +kernel
theorem dX9_word_13 : decode cX9_word 13 = .ok (.iconst (-1), 1) := by decide +kernel
theorem dX9_word_14 : decode cX9_word 14 = .ok (.ireturn, 1) := by decide +kernel
theorem dX9_word_15 : decode cX9_word 15 = .ok (.iload_n 2, 1) := by decide +kernel
theorem dX9_word_16 : decode cX9_word 16 = .ok (.bipush (-2), 2) := by decide +kernel
theorem dX9_word_18 : decode cX9_word 18 = .ok (.if_icmp .ne 23, 3) := by decide +kernel
theorem dX9_word_21 : decode cX9_word 21 = .ok (.aload_n 0, 1) := by decide +kernel
theorem dX9_word_22 : decode cX9_word 22 = .ok (.getfield 12, 3) := by decide +kernel
theorem dX9_word_25 : decode cX9_word 25 = .ok (.getfield 197, 3) := by decide +kernel
theorem dX9_word_28 : decode cX9_word 28 = .ok (.iload_n 1, 1) := by decide +kernel
theorem dX9_word_29 : decode cX9_word 29 = .ok (.aaload, 1) := by decide +kernel
theorem dX9_word_30 : decode cX9_word 30 = .ok (.aload_n 0, 1) := by decide +kernel
theorem dX9_word_31 : decode cX9_word 31 = .ok (.getfield 12, 3) := by decide +kernel
theorem dX9_word_34 : decode cX9_word 34 = .ok (.getfield 177, 3) := by decide +kernel
theorem dX9_word_37 : decode cX9_word 37 = .ok (.invokevirtual 220, 3) := by decide +kernel
theorem dX9_word_40 : decode cX9_word 40 = .ok (.ireturn, 1) := by decide +kernel
theorem dX9_word_41 : decode cX9_word 41 = .ok (.iload_n 2, 1) := by decide +kernel
theorem dX9_word_42 : decode cX9_word 42 = .ok (.iconst (-1), 1) := by decide +kernel
theorem dX9_word_43 : decode cX9_word 43 = .ok (.if_icmp .ne 18, 3) := by decide +kernel
theorem dX9_word_46 : decode cX9_word 46 = .ok (.aload_n 0, 1) := by decide +kernel
theorem dX9_word_47 : decode cX9_word 47 = .ok (.getfield 12, 3) := by decide +kernel
theorem dX9_word_50 : decode cX9_word 50 = .ok (.getfield 197, 3) := by decide +kernel
theorem dX9_word_53 : decode cX9_word 53 = .ok (.iload_n 1, 1) := by decide +kernel
theorem dX9_word_54 : decode cX9_word 54 = .ok (.aaload, 1) := by decide +kernel
theorem dX9_word_55 : decode cX9_word 55 = .ok (.getfield 210, 3) := by decide +kernel
theorem dX9_word_58 : decode cX9_word 58 = .ok (.goto 16, 3) := by decide +kernel
theorem dX9_word_61 : decode cX9_word 61 = .ok (.aload_n 0, 1) := by decide +kernel
theorem dX9_word_62 : decode cX9_word 62 = .ok (.getfield 12, 3) := by decide +kernel
theorem dX9_word_65 : decode cX9_word 65 = .ok (.getfield 197, 3) := by decide +kernel
theorem dX9_word_68 : decode cX9_word 68 = .ok (.iload_n 1, 1) := by decide +kernel
theorem dX9_word_69 : decode cX9_word 69 = .ok (.aaload, 1) := by decide +kernel
theorem dX9_word_70 : decode cX9_word 70 = .ok (.iload_n 2, 1) := by decide +kernel
theorem dX9_word_71 : decode cX9_word 71 = .ok (.invokevirtual 213, 3) := by decide +kernel
theorem dX9_word_74 : decode cX9_word 74 = .ok (.ireturn, 1) := by decide +kernel
theorem dX9_value_0 : decode cX9_value 0 = .ok (.iload_n 1, 1) := by decide +kernel
theorem dX9_value_1 : decode cX9_value 1 = .ok (.invokestatic 90, 3) := by decide +kernel
theorem dX9_value_4 : decode cX9_value 4 = .ok (.ifCond .eq 10, 3) := by decide +kernel
theorem dX9_value_7 : decode cX9_value 7 = .ok (.iload_n 2, 1) := by decide +kernel
theorem dX9_value_8 : decode cX9_value 8 = .ok (.invokestatic 194, 3) := by decide +kernel
theorem dX9_value_11 : decode cX9_value 11 = .ok (.ifCond .ne 5, 3) := by decide +kernel
theorem dX9_value_14 : decode cX9_value 14 = .ok (.iconst (-1), 1) := by decide +kernel
theorem dX9_value_15 : decode cX9_value 15 = .ok (.ireturn, 1) := by decide +kernel
theorem dX9_value_16 : decode cX9_value 16 = .ok (.aload_n 0, 1) := by decide +kernel
theorem dX9_value_17 : decode cX9_value 17 = .ok (.getfield 77, 3) := by decide +kernel
theorem dX9_value_20 : decode cX9_value 20 = .ok (.invokevirtual 102, 3) := by decide +kernel
theorem dX9_value_23 : decode cX9_value 23 = .ok (.aload_n 0, 1) := by decide +kernel
theorem dX9_value_24 : decode cX9_value 24 = .ok (.getfield 77, 3) := by decide +kernel
theorem dX9_value_27 : decode cX9_value 27 = .ok (.aload_n 0, 1) := by decide +kernel
theorem dX9_value_28 : decode cX9_value 28 = .ok (.getfield 12, 3) := by decide +kernel
theorem dX9_value_31 : decode cX9_value 31 = .ok (.getfield 197, 3) := by decide +kernel
theorem dX9_value_34 : decode cX9_value 34 = .ok (.iload_n 2, 1) := by decide +kernel
theorem dX9_value_35 : decode cX9_value 35 = .ok (.aaload, 1) := by decide +kernel
theorem dX9_value_36 : decode cX9_value 36 = .ok (.iconst 0, 1) := by decide +kernel
theorem dX9_value_37 : decode cX9_value 37 = .ok (.bipush 60, 2) := by decide +kernel
theorem dX9_value_39 : decode cX9_value 39 = .ok (.invokevirtual 224, 3) := by decide +kernel
theorem dX9_value_42 : decode cX9_value 42 = .ok (.aload_n 0, 1) := by decide +kernel
theorem dX9_value_43 : decode cX9_value 43 = .ok (.iload_n 1, 1) := by decide +kernel
theorem dX9_value_44 : decode cX9_value 44 = .ok (.invokevirtual 116, 3) := by decide +kernel
theorem dX9_value_47 : decode cX9_value 47 = .ok (.ireturn, 1) := by decide +kernel
theorem dX9_shorter_0 : decode cX9_shorter 0 = .ok (.iload_n 1, 1) := by decide +kernel
theorem dX9_shorter_1 : decode cX9_shorter 1 = .ok (.invokestatic 194, 3) := by decide +kernel
theorem dX9_shorter_4 : decode cX9_shorter 4 = .ok (.ifCond .ne 5, 3) := by decide +kernel
theorem dX9_shorter_7 : decode cX9_shorter 7 = .ok (.iconst (-1), 1) := by decide +kernel
theorem dX9_shorter_8 : decode cX9_shorter 8 = .ok (.ireturn, 1) := by decide +kernel
theorem dX9_shorter_9 : decode cX9_shorter 9 = .ok (.aload_n 0, 1) := by decide +kernel
theorem dX9_shorter_10 : decode cX9_shorter 10 = .ok (.getfield 70, 3) := by decide +kernel
theorem dX9_shorter_13 : decode cX9_shorter 13 = .ok (.aload_n 0, 1) := by decide +kernel
theorem dX9_shorter_14 : decode cX9_shorter 14 = .ok (.getfield 12, 3) := by decide +kernel
theorem dX9_shorter_17 : decode cX9_shorter 17 = .ok (.getfield 197, 3) := by decide +kernel
theorem dX9_shorter_20 : decode cX9_shorter 20 = .ok (.iload_n 1, 1) := by decide +kernel
theorem dX9_shorter_21 : decode cX9_shorter 21 = .ok (.aaload, 1) := by decide +kernel
theorem dX9_shorter_22 : decode cX9_shorter 22 = .ok (.invokevirtual 201, 3) := by decide +kernel
theorem dX9_shorter_25 : decode cX9_shorter 25 = .ok (.aload_n 0, 1) := by decide +kernel
theorem dX9_shorter_26 : decode cX9_shorter 26 = .ok (.getfield 70, 3) := by decide +kernel
theorem dX9_shorter_29 : decode cX9_shorter 29 = .ok (.invokevirtual 228, 3) := by decide +kernel
theorem dX9_shorter_32 : decode cX9_shorter 32 = .ok (.aload_n 0, 1) := by decide +kernel
theorem dX9_shorter_33 : decode cX9_shorter 33 = .ok (.iload_n 1, 1) := by decide +kernel
theorem dX9_shorter_34 : decode cX9_shorter 34 = .ok (.invokevirtual 207, 3) := by decide +kernel
theorem dX9_shorter_37 : decode cX9_shorter 37 = .ok (.ireturn, 1) := by decide +kernel
theorem dX9_normal_0 : decode cX9_normal 0 = .ok (.iload_n 1, 1) := by decide +kernel
theorem dX9_normal_1 : decode cX9_normal 1 = .ok (.invokestatic 194, 3) := by decide +kernel
theorem dX9_normal_4 : decode cX9_normal 4 = .ok (.ifCond .eq 10, 3) := by decide +kernel
theorem dX9_normal_7 : decode cX9_normal 7 = .ok (.iload_n 2, 1) := by decide +kernel
theorem dX9_normal_8 : decode cX9_normal 8 = .ok (.invokestatic 90, 3) := by decide +kernel
theorem dX9_normal_11 : decode cX9_normal 11 = .ok (.ifCond .ne 5, 3) := by decide +kernel
theorem dX9_normal_14 : decode cX9_normal 14 = .ok (.iconst (-1), 1) := by decide +kernel
theorem dX9_normal_15 : decode cX9_normal 15 = .ok (.ireturn, 1) := by decide +kernel
theorem dX9_normal_16 : decode cX9_normal 16 = .ok (.aload_n 0, 1) := by decide +kernel
theorem dX9_normal_17 : decode cX9_normal 17 = .ok (.getfield 49, 3) := by decide +kernel
theorem dX9_normal_20 : decode cX9_normal 20 = .ok (.aload_n 0, 1) := by decide +kernel
theorem dX9_normal_21 : decode cX9_normal 21 = .ok (.getfield 12, 3) := by decide +kernel
theorem dX9_normal_24 : decode cX9_normal 24 = .ok (.getfield 177, 3) := by decide +kernel
theorem dX9_normal_27 : decode cX9_normal 27 = .ok (.invokevirtual 181, 3) := by decide +kernel
theorem dX9_normal_30 : decode cX9_normal 30 = .ok (.aload_n 0, 1) := by decide +kernel
theorem dX9_normal_31 : decode cX9_normal 31 = .ok (.getfield 63, 3) := by decide +kernel
theorem dX9_normal_34 : decode cX9_normal 34 = .ok (.aload_n 0, 1) := by decide +kernel
theorem dX9_normal_35 : decode cX9_normal 35 = .ok (.getfield 12, 3) := by decide +kernel
theorem dX9_normal_38 : decode cX9_normal 38 = .ok (.getfield 94, 3) := by decide +kernel
theorem dX9_normal_41 : decode cX9_normal 41 = .ok (.iload_n 2, 1) := by decide +kernel
theorem dX9_normal_42 : decode cX9_normal 42 = .ok (.aaload, 1) := by decide +kernel
theorem dX9_normal_43 : decode cX9_normal 43 = .ok (.aload_n 0, 1) := by decide +kernel
theorem dX9_normal_44 : decode cX9_normal 44 = .ok (.getfield 49, 3) := by decide +kernel
theorem dX9_normal_47 : decode cX9_normal 47 = .ok (.aload_n 0, 1) := by decide +kernel
theorem dX9_normal_48 : decode cX9_normal 48 = .ok (.getfield 70, 3) := by decide +kernel
theorem dX9_normal_51 : decode cX9_normal 51 = .ok (.invokevirtual 231, 3) := by decide +kernel
theorem dX9_normal_54 : decode cX9_normal 54 = .ok (.ifCond .eq 11, 3) := by decide +kernel
theorem dX9_normal_57 : decode cX9_normal 57 = .ok (.aload_n 0, 1) := by decide +kernel
theorem dX9_normal_58 : decode cX9_normal 58 = .ok (.iload_n 1, 1) := by decide +kernel
theorem dX9_normal_59 : decode cX9_normal 59 = .ok (.invokevirtual 207, 3) := by decide +kernel
theorem dX9_normal_62 : decode cX9_normal 62 = .ok (.goto 5, 3) := by decide +kernel
theorem dX9_normal_65 : decode cX9_normal 65 = .ok (.bipush (-3), 2) := by decide +kernel
theorem dX9_normal_67 : decode cX9_normal 67 = .ok (.ireturn, 1) := by decide +kernel
theorem dX9_fits_0 : decode cX9_fits 0 = .ok (.iload_n 1, 1) := by decide +kernel
theorem dX9_fits_1 : decode cX9_fits 1 = .ok (.invokestatic 194, 3) := by decide +kernel
theorem dX9_fits_4 : decode cX9_fits 4 = .ok (.ifCond .eq 29, 3) := by decide +kernel
theorem dX9_fits_7 : decode cX9_fits 7 = .ok (.iload_n 2, 1) := by decide +kernel
theorem dX9_fits_8 : decode cX9_fits 8 = .ok (.aload_n 0, 1) := by decide +kernel
theorem dX9_fits_9 : decode cX9_fits 9 = .ok (.getfield 12, 3) := by decide +kernel
theorem dX9_fits_12 : decode cX9_fits 12 = .ok (.getfield 197, 3) := by decide +kernel
theorem dX9_fits_15 : decode cX9_fits 15 = .ok (.iload_n 1, 1) := by decide +kernel
theorem dX9_fits_16 : decode cX9_fits 16 = .ok (.aaload, 1) := by decide +kernel
theorem dX9_fits_17 : decode cX9_fits 17 = .ok (.getfield 210, 3) := by decide +kernel
theorem dX9_fits_20 : decode cX9_fits 20 = .ok (.invokestatic 133, 3) := by decide +kernel
theorem dX9_fits_23 : decode cX9_fits 23 = .ok (.ifCond .eq 10, 3) := by decide +kernel
theorem dX9_fits_26 : decode cX9_fits 26 = .ok (.iload_n 3, 1) := by decide +kernel
theorem dX9_fits_27 : decode cX9_fits 27 = .ok (.invokestatic 90, 3) := by decide +kernel
theorem dX9_fits_30 : decode cX9_fits 30 = .ok (.ifCond .ne 5, 3) := by decide +kernel
theorem dX9_fits_33 : decode cX9_fits 33 = .ok (.iconst (-1), 1) := by decide +kernel
theorem dX9_fits_34 : decode cX9_fits 34 = .ok (.ireturn, 1) := by decide +kernel
theorem dX9_fits_35 : decode cX9_fits 35 = .ok (.aload_n 0, 1) := by decide +kernel
theorem dX9_fits_36 : decode cX9_fits 36 = .ok (.getfield 12, 3) := by decide +kernel
theorem dX9_fits_39 : decode cX9_fits 39 = .ok (.getfield 197, 3) := by decide +kernel
theorem dX9_fits_42 : decode cX9_fits 42 = .ok (.iload_n 1, 1) := by decide +kernel
theorem dX9_fits_43 : decode cX9_fits 43 = .ok (.aaload, 1) := by decide +kernel
theorem dX9_fits_44 : decode cX9_fits 44 = .ok (.astore 4, 2) := by decide +kernel
theorem dX9_fits_46 : decode cX9_fits 46 = .ok (.aload_n 0, 1) := by decide +kernel
theorem dX9_fits_47 : decode cX9_fits 47 = .ok (.getfield 81, 3) := by decide +kernel
theorem dX9_fits_50 : decode cX9_fits 50 = .ok (.invokevirtual 102, 3) := by decide +kernel
theorem dX9_fits_53 : decode cX9_fits 53 = .ok (.aload_n 0, 1) := by decide +kernel
theorem dX9_fits_54 : decode cX9_fits 54 = .ok (.getfield 81, 3) := by decide +kernel
theorem dX9_fits_57 : decode cX9_fits 57 = .ok (.aload 4, 2) := by decide +kernel
theorem dX9_fits_59 : decode cX9_fits 59 = .ok (.iconst 0, 1) := by decide +kernel
theorem dX9_fits_60 : decode cX9_fits 60 = .ok (.iload_n 2, 1) := by decide +kernel
theorem dX9_fits_61 : decode cX9_fits 61 = .ok (.invokevirtual 224, 3) := by decide +kernel
theorem dX9_fits_64 : decode cX9_fits 64 = .ok (.aload_n 0, 1) := by decide +kernel
theorem dX9_fits_65 : decode cX9_fits 65 = .ok (.getfield 84, 3) := by decide +kernel
theorem dX9_fits_68 : decode cX9_fits 68 = .ok (.invokevirtual 102, 3) := by decide +kernel
theorem dX9_fits_71 : decode cX9_fits 71 = .ok (.aload_n 0, 1) := by decide +kernel
theorem dX9_fits_72 : decode cX9_fits 72 = .ok (.getfield 84, 3) := by decide +kernel
theorem dX9_fits_75 : decode cX9_fits 75 = .ok (.aload 4, 2) := by decide +kernel
theorem dX9_fits_77 : decode cX9_fits 77 = .ok (.iload_n 2, 1) := by decide +kernel
theorem dX9_fits_78 : decode cX9_fits 78 = .ok (.iconst 1, 1) := by decide +kernel
theorem dX9_fits_79 : decode cX9_fits 79 = .ok (.iadd, 1) := by decide +kernel
theorem dX9_fits_80 : decode cX9_fits 80 = .ok (.aload 4, 2) := by decide +kernel
theorem dX9_fits_82 : decode cX9_fits 82 = .ok (.getfield 210, 3) := by decide +kernel
theorem dX9_fits_85 : decode cX9_fits 85 = .ok (.invokevirtual 224, 3) := by decide +kernel
theorem dX9_fits_88 : decode cX9_fits 88 = .ok (.iconst 0, 1) := by decide +kernel
theorem dX9_fits_89 : decode cX9_fits 89 = .ok (.istore 5, 2) := by decide +kernel
theorem dX9_fits_91 : decode cX9_fits 91 = .ok (.iconst 0, 1) := by decide +kernel
theorem dX9_fits_92 : decode cX9_fits 92 = .ok (.istore 6, 2) := by decide +kernel
theorem dX9_fits_94 : decode cX9_fits 94 = .ok (.iload 6, 2) := by decide +kernel
theorem dX9_fits_96 : decode cX9_fits 96 = .ok (.bipush 7, 2) := by decide +kernel
theorem dX9_fits_98 : decode cX9_fits 98 = .ok (.if_icmp .ge 79, 3) := by decide +kernel
theorem dX9_fits_101 : decode cX9_fits 101 = .ok (.aload_n 0, 1) := by decide +kernel
theorem dX9_fits_102 : decode cX9_fits 102 = .ok (.getfield 87, 3) := by decide +kernel
theorem dX9_fits_105 : decode cX9_fits 105 = .ok (.aload_n 0, 1) := by decide +kernel
theorem dX9_fits_106 : decode cX9_fits 106 = .ok (.getfield 81, 3) := by decide +kernel
theorem dX9_fits_109 : decode cX9_fits 109 = .ok (.invokevirtual 108, 3) := by decide +kernel
theorem dX9_fits_112 : decode cX9_fits 112 = .ok (.aload_n 0, 1) := by decide +kernel
theorem dX9_fits_113 : decode cX9_fits 113 = .ok (.getfield 87, 3) := by decide +kernel
theorem dX9_fits_116 : decode cX9_fits 116 = .ok (.iload 6, 2) := by decide +kernel
theorem dX9_fits_118 : decode cX9_fits 118 = .ok (.invokevirtual 112, 3) := by decide +kernel
theorem dX9_fits_121 : decode cX9_fits 121 = .ok (.aload_n 0, 1) := by decide +kernel
theorem dX9_fits_122 : decode cX9_fits 122 = .ok (.getfield 77, 3) := by decide +kernel
theorem dX9_fits_125 : decode cX9_fits 125 = .ok (.aload_n 0, 1) := by decide +kernel
theorem dX9_fits_126 : decode cX9_fits 126 = .ok (.getfield 87, 3) := by decide +kernel
theorem dX9_fits_129 : decode cX9_fits 129 = .ok (.aload_n 0, 1) := by decide +kernel
theorem dX9_fits_130 : decode cX9_fits 130 = .ok (.getfield 84, 3) := by decide +kernel
theorem dX9_fits_133 : decode cX9_fits 133 = .ok (.invokevirtual 123, 3) := by decide +kernel
theorem dX9_fits_136 : decode cX9_fits 136 = .ok (.aload_n 0, 1) := by decide +kernel
theorem dX9_fits_137 : decode cX9_fits 137 = .ok (.getfield 77, 3) := by decide +kernel
theorem dX9_fits_140 : decode cX9_fits 140 = .ok (.invokevirtual 127, 3) := by decide +kernel
theorem dX9_fits_143 : decode cX9_fits 143 = .ok (.aload_n 0, 1) := by decide +kernel
theorem dX9_fits_144 : decode cX9_fits 144 = .ok (.getfield 77, 3) := by decide +kernel
theorem dX9_fits_147 : decode cX9_fits 147 = .ok (.aload_n 0, 1) := by decide +kernel
theorem dX9_fits_148 : decode cX9_fits 148 = .ok (.getfield 12, 3) := by decide +kernel
theorem dX9_fits_151 : decode cX9_fits 151 = .ok (.getfield 94, 3) := by decide +kernel
theorem dX9_fits_154 : decode cX9_fits 154 = .ok (.iload_n 3, 1) := by decide +kernel
theorem dX9_fits_155 : decode cX9_fits 155 = .ok (.aaload, 1) := by decide +kernel
theorem dX9_fits_156 : decode cX9_fits 156 = .ok (.invokevirtual 147, 3) := by decide +kernel
theorem dX9_fits_159 : decode cX9_fits 159 = .ok (.ifCond .eq 12, 3) := by decide +kernel
theorem dX9_fits_162 : decode cX9_fits 162 = .ok (.iload 5, 2) := by decide +kernel
theorem dX9_fits_164 : decode cX9_fits 164 = .ok (.iconst 1, 1) := by decide +kernel
theorem dX9_fits_165 : decode cX9_fits 165 = .ok (.iload 6, 2) := by decide +kernel
theorem dX9_fits_167 : decode cX9_fits 167 = .ok (.ishl, 1) := by decide +kernel
theorem dX9_fits_168 : decode cX9_fits 168 = .ok (.ior, 1) := by decide +kernel
theorem dX9_fits_169 : decode cX9_fits 169 = .ok (.istore 5, 2) := by decide +kernel
theorem dX9_fits_171 : decode cX9_fits 171 = .ok (.iinc 6 1, 3) := by decide +kernel
theorem dX9_fits_174 : decode cX9_fits 174 = .ok (.goto (-80), 3) := by decide +kernel
theorem dX9_fits_177 : decode cX9_fits 177 = .ok (.iload 5, 2) := by decide +kernel
theorem dX9_fits_179 : decode cX9_fits 179 = .ok (.ireturn, 1) := by decide +kernel
theorem dX9_parts_0 : decode cX9_parts 0 = .ok (.iload_n 1, 1) := by decide +kernel
theorem dX9_parts_1 : decode cX9_parts 1 = .ok (.invokestatic 194, 3) := by decide +kernel
theorem dX9_parts_4 : decode cX9_parts 4 = .ok (.ifCond .eq 10, 3) := by decide +kernel
theorem dX9_parts_7 : decode cX9_parts 7 = .ok (.iload_n 2, 1) := by decide +kernel
theorem dX9_parts_8 : decode cX9_parts 8 = .ok (.invokestatic 194, 3) := by decide +kernel
theorem dX9_parts_11 : decode cX9_parts 11 = .ok (.ifCond .ne 5, 3) := by decide +kernel
theorem dX9_parts_14 : decode cX9_parts 14 = .ok (.iconst (-1), 1) := by decide +kernel
theorem dX9_parts_15 : decode cX9_parts 15 = .ok (.ireturn, 1) := by decide +kernel
theorem dX9_parts_16 : decode cX9_parts 16 = .ok (.aload_n 0, 1) := by decide +kernel
theorem dX9_parts_17 : decode cX9_parts 17 = .ok (.getfield 81, 3) := by decide +kernel
theorem dX9_parts_20 : decode cX9_parts 20 = .ok (.invokevirtual 102, 3) := by decide +kernel
theorem dX9_parts_23 : decode cX9_parts 23 = .ok (.aload_n 0, 1) := by decide +kernel
theorem dX9_parts_24 : decode cX9_parts 24 = .ok (.getfield 87, 3) := by decide +kernel
theorem dX9_parts_27 : decode cX9_parts 27 = .ok (.invokevirtual 102, 3) := by decide +kernel
theorem dX9_parts_30 : decode cX9_parts 30 = .ok (.aload_n 0, 1) := by decide +kernel
theorem dX9_parts_31 : decode cX9_parts 31 = .ok (.getfield 12, 3) := by decide +kernel
theorem dX9_parts_34 : decode cX9_parts 34 = .ok (.getfield 197, 3) := by decide +kernel
theorem dX9_parts_37 : decode cX9_parts 37 = .ok (.iload_n 1, 1) := by decide +kernel
theorem dX9_parts_38 : decode cX9_parts 38 = .ok (.aaload, 1) := by decide +kernel
theorem dX9_parts_39 : decode cX9_parts 39 = .ok (.getfield 210, 3) := by decide +kernel
theorem dX9_parts_42 : decode cX9_parts 42 = .ok (.aload_n 0, 1) := by decide +kernel
theorem dX9_parts_43 : decode cX9_parts 43 = .ok (.getfield 12, 3) := by decide +kernel
theorem dX9_parts_46 : decode cX9_parts 46 = .ok (.getfield 197, 3) := by decide +kernel
theorem dX9_parts_49 : decode cX9_parts 49 = .ok (.iload_n 2, 1) := by decide +kernel
theorem dX9_parts_50 : decode cX9_parts 50 = .ok (.aaload, 1) := by decide +kernel
theorem dX9_parts_51 : decode cX9_parts 51 = .ok (.getfield 210, 3) := by decide +kernel
theorem dX9_parts_54 : decode cX9_parts 54 = .ok (.invokestatic 235, 3) := by decide +kernel
theorem dX9_parts_57 : decode cX9_parts 57 = .ok (.istore_n 3, 1) := by decide +kernel
theorem dX9_parts_58 : decode cX9_parts 58 = .ok (.iconst 0, 1) := by decide +kernel
theorem dX9_parts_59 : decode cX9_parts 59 = .ok (.istore 4, 2) := by decide +kernel
theorem dX9_parts_61 : decode cX9_parts 61 = .ok (.iload 4, 2) := by decide +kernel
theorem dX9_parts_63 : decode cX9_parts 63 = .ok (.iload_n 3, 1) := by decide +kernel
theorem dX9_parts_64 : decode cX9_parts 64 = .ok (.if_icmp .ge 70, 3) := by decide +kernel
theorem dX9_parts_67 : decode cX9_parts 67 = .ok (.aload_n 0, 1) := by decide +kernel
theorem dX9_parts_68 : decode cX9_parts 68 = .ok (.getfield 81, 3) := by decide +kernel
theorem dX9_parts_71 : decode cX9_parts 71 = .ok (.aload_n 0, 1) := by decide +kernel
theorem dX9_parts_72 : decode cX9_parts 72 = .ok (.getfield 12, 3) := by decide +kernel
theorem dX9_parts_75 : decode cX9_parts 75 = .ok (.getfield 197, 3) := by decide +kernel
theorem dX9_parts_78 : decode cX9_parts 78 = .ok (.iload_n 1, 1) := by decide +kernel
theorem dX9_parts_79 : decode cX9_parts 79 = .ok (.aaload, 1) := by decide +kernel
theorem dX9_parts_80 : decode cX9_parts 80 = .ok (.iload 4, 2) := by decide +kernel
theorem dX9_parts_82 : decode cX9_parts 82 = .ok (.iload 4, 2) := by decide +kernel
theorem dX9_parts_84 : decode cX9_parts 84 = .ok (.iconst 1, 1) := by decide +kernel
theorem dX9_parts_85 : decode cX9_parts 85 = .ok (.iadd, 1) := by decide +kernel
theorem dX9_parts_86 : decode cX9_parts 86 = .ok (.invokevirtual 224, 3) := by decide +kernel
theorem dX9_parts_89 : decode cX9_parts 89 = .ok (.aload_n 0, 1) := by decide +kernel
theorem dX9_parts_90 : decode cX9_parts 90 = .ok (.getfield 87, 3) := by decide +kernel
theorem dX9_parts_93 : decode cX9_parts 93 = .ok (.aload_n 0, 1) := by decide +kernel
theorem dX9_parts_94 : decode cX9_parts 94 = .ok (.getfield 12, 3) := by decide +kernel
theorem dX9_parts_97 : decode cX9_parts 97 = .ok (.getfield 197, 3) := by decide +kernel
theorem dX9_parts_100 : decode cX9_parts 100 = .ok (.iload_n 2, 1) := by decide +kernel
theorem dX9_parts_101 : decode cX9_parts 101 = .ok (.aaload, 1) := by decide +kernel
theorem dX9_parts_102 : decode cX9_parts 102 = .ok (.iload 4, 2) := by decide +kernel
theorem dX9_parts_104 : decode cX9_parts 104 = .ok (.iload 4, 2) := by decide +kernel
theorem dX9_parts_106 : decode cX9_parts 106 = .ok (.iconst 1, 1) := by decide +kernel
theorem dX9_parts_107 : decode cX9_parts 107 = .ok (.iadd, 1) := by decide +kernel
theorem dX9_parts_108 : decode cX9_parts 108 = .ok (.invokevirtual 224, 3) := by decide +kernel
theorem dX9_parts_111 : decode cX9_parts 111 = .ok (.aload_n 0, 1) := by decide +kernel
theorem dX9_parts_112 : decode cX9_parts 112 = .ok (.getfield 81, 3) := by decide +kernel
theorem dX9_parts_115 : decode cX9_parts 115 = .ok (.aload_n 0, 1) := by decide +kernel
theorem dX9_parts_116 : decode cX9_parts 116 = .ok (.getfield 87, 3) := by decide +kernel
theorem dX9_parts_119 : decode cX9_parts 119 = .ok (.invokevirtual 147, 3) := by decide +kernel
theorem dX9_parts_122 : decode cX9_parts 122 = .ok (.ifCond .ne 6, 3) := by decide +kernel
theorem dX9_parts_125 : decode cX9_parts 125 = .ok (.iload 4, 2) := by decide +kernel
theorem dX9_parts_127 : decode cX9_parts 127 = .ok (.ireturn, 1) := by decide +kernel
theorem dX9_parts_128 : decode cX9_parts 128 = .ok (.iinc 4 1, 3) := by decide +kernel
theorem dX9_parts_131 : decode cX9_parts 131 = .ok (.goto (-70), 3) := by decide +kernel
theorem dX9_parts_134 : decode cX9_parts 134 = .ok (.bipush (-2), 2) := by decide +kernel
theorem dX9_parts_136 : decode cX9_parts 136 = .ok (.ireturn, 1) := by decide +kernel
theorem dX9_undo_0 : decode cX9_undo 0 = .ok (.aload_n 0, 1) := by decide +kernel
theorem dX9_undo_1 : decode cX9_undo 1 = .ok (.getfield 28, 3) := by decide +kernel
theorem dX9_undo_4 : decode cX9_undo 4 = .ok (.getfield 240, 3) := by decide +kernel
theorem dX9_undo_7 : decode cX9_undo 7 = .ok (.ifCond .ne 6, 3) := by decide +kernel
theorem dX9_undo_10 : decode cX9_undo 10 = .ok (.bipush (-5), 2) := by decide +kernel
theorem dX9_undo_12 : decode cX9_undo 12 = .ok (.ireturn, 1) := by decide +kernel
theorem dX9_undo_13 : decode cX9_undo 13 = .ok (.aload_n 0, 1) := by decide +kernel
theorem dX9_undo_14 : decode cX9_undo 14 = .ok (.getfield 28, 3) := by decide +kernel
theorem dX9_undo_17 : decode cX9_undo 17 = .ok (.aload_n 0, 1) := by decide +kernel
theorem dX9_undo_18 : decode cX9_undo 18 = .ok (.getfield 12, 3) := by decide +kernel
theorem dX9_undo_21 : decode cX9_undo 21 = .ok (.getfield 197, 3) := by decide +kernel
theorem dX9_undo_24 : decode cX9_undo 24 = .ok (.invokevirtual 241, 3) := by decide +kernel
theorem dX9_undo_27 : decode cX9_undo 27 = .ok (.aload_n 0, 1) := by decide +kernel
theorem dX9_undo_28 : decode cX9_undo 28 = .ok (.getfield 28, 3) := by decide +kernel
theorem dX9_undo_31 : decode cX9_undo 31 = .ok (.getfield 240, 3) := by decide +kernel
theorem dX9_undo_34 : decode cX9_undo 34 = .ok (.ireturn, 1) := by decide +kernel
theorem dX9_feed_0 : decode cX9_feed 0 = .ok (.iload_n 1, 1) := by decide +kernel
theorem dX9_feed_1 : decode cX9_feed 1 = .ok (.bipush 32, 2) := by decide +kernel
theorem dX9_feed_3 : decode cX9_feed 3 = .ok (.if_icmp .lt 9, 3) := by decide +kernel
theorem dX9_feed_6 : decode cX9_feed 6 = .ok (.iload_n 1, 1) := by decide +kernel
theorem dX9_feed_7 : decode cX9_feed 7 = .ok (.bipush 126, 2) := by decide +kernel
theorem dX9_feed_9 : decode cX9_feed 9 = .ok (.if_icmp .le 5, 3) := by decide +kernel
theorem dX9_feed_12 : decode cX9_feed 12 = .ok (.iconst (-1), 1) := by decide +kernel
theorem dX9_feed_13 : decode cX9_feed 13 = .ok (.ireturn, 1) := by decide +kernel
theorem dX9_feed_14 : decode cX9_feed 14 = .ok (.aload_n 0, 1) := by decide +kernel
theorem dX9_feed_15 : decode cX9_feed 15 = .ok (.getfield 35, 3) := by decide +kernel
theorem dX9_feed_18 : decode cX9_feed 18 = .ok (.iload_n 1, 1) := by decide +kernel
theorem dX9_feed_19 : decode cX9_feed 19 = .ok (.invokevirtual 245, 3) := by decide +kernel
theorem dX9_feed_22 : decode cX9_feed 22 = .ok (.ifCond .eq 13, 3) := by decide +kernel
theorem dX9_feed_25 : decode cX9_feed 25 = .ok (.aload_n 0, 1) := by decide +kernel
theorem dX9_feed_26 : decode cX9_feed 26 = .ok (.getfield 35, 3) := by decide +kernel
theorem dX9_feed_29 : decode cX9_feed 29 = .ok (.getfield 246, 3) := by decide +kernel
theorem dX9_feed_32 : decode cX9_feed 32 = .ok (.goto 5, 3) := by decide +kernel
theorem dX9_feed_35 : decode cX9_feed 35 = .ok (.bipush (-3), 2) := by decide +kernel
theorem dX9_feed_37 : decode cX9_feed 37 = .ok (.ireturn, 1) := by decide +kernel
theorem dX9_wipe_0 : decode cX9_wipe 0 = .ok (.aload_n 0, 1) := by decide +kernel
theorem dX9_wipe_1 : decode cX9_wipe 1 = .ok (.getfield 35, 3) := by decide +kernel
theorem dX9_wipe_4 : decode cX9_wipe 4 = .ok (.getfield 246, 3) := by decide +kernel
theorem dX9_wipe_7 : decode cX9_wipe 7 = .ok (.istore_n 1, 1) := by decide +kernel
theorem dX9_wipe_8 : decode cX9_wipe 8 = .ok (.aload_n 0, 1) := by decide +kernel
theorem dX9_wipe_9 : decode cX9_wipe 9 = .ok (.getfield 35, 3) := by decide +kernel
theorem dX9_wipe_12 : decode cX9_wipe 12 = .ok (.iconst 0, 1) := by decide +kernel
theorem dX9_wipe_13 : decode cX9_wipe 13 = .ok (.putfield 246, 3) := by decide +kernel
theorem dX9_wipe_16 : decode cX9_wipe 16 = .ok (.iload_n 1, 1) := by decide +kernel
theorem dX9_wipe_17 : decode cX9_wipe 17 = .ok (.ireturn, 1) := by decide +kernel
theorem dX9_write_0 : decode cX9_write 0 = .ok (.iload_n 1, 1) := by decide +kernel
theorem dX9_write_1 : decode cX9_write 1 = .ok (.invokestatic 194, 3) := by decide +kernel
theorem dX9_write_4 : decode cX9_write 4 = .ok (.ifCond .ne 5, 3) := by decide +kernel
theorem dX9_write_7 : decode cX9_write 7 = .ok (.iconst (-1), 1) := by decide +kernel
theorem dX9_write_8 : decode cX9_write 8 = .ok (.ireturn, 1) := by decide +kernel
theorem dX9_write_9 : decode cX9_write 9 = .ok (.aload_n 0, 1) := by decide +kernel
theorem dX9_write_10 : decode cX9_write 10 = .ok (.getfield 35, 3) := by decide +kernel
theorem dX9_write_13 : decode cX9_write 13 = .ok (.invokevirtual 247, 3) := by decide +kernel
theorem dX9_write_16 : decode cX9_write 16 = .ok (.istore_n 2, 1) := by decide +kernel
theorem dX9_write_17 : decode cX9_write 17 = .ok (.iload_n 2, 1) := by decide +kernel
theorem dX9_write_18 : decode cX9_write 18 = .ok (.ifCond .ge 25, 3) := by decide +kernel
theorem dX9_write_21 : decode cX9_write 21 = .ok (.aload_n 0, 1) := by decide +kernel
theorem dX9_write_22 : decode cX9_write 22 = .ok (.getfield 42, 3) := by decide +kernel
theorem dX9_write_25 : decode cX9_write 25 = .ok (.aload_n 0, 1) := by decide +kernel
theorem dX9_write_26 : decode cX9_write 26 = .ok (.getfield 35, 3) := by decide +kernel
theorem dX9_write_29 : decode cX9_write 29 = .ok (.aload_n 0, 1) := by decide +kernel
theorem dX9_write_30 : decode cX9_write 30 = .ok (.getfield 70, 3) := by decide +kernel
theorem dX9_write_33 : decode cX9_write 33 = .ok (.invokevirtual 251, 3) := by decide +kernel
theorem dX9_write_36 : decode cX9_write 36 = .ok (.ifCond .eq 7, 3) := by decide +kernel
theorem dX9_write_39 : decode cX9_write 39 = .ok (.iconst 1, 1) := by decide +kernel
theorem dX9_write_40 : decode cX9_write 40 = .ok (.goto 4, 3) := by decide +kernel
theorem dX9_write_43 : decode cX9_write 43 = .ok (.iconst 0, 1) := by decide +kernel
theorem dX9_write_44 : decode cX9_write 44 = .ok (.istore_n 3, 1) := by decide +kernel
theorem dX9_write_45 : decode cX9_write 45 = .ok (.aload_n 0, 1) := by decide +kernel
theorem dX9_write_46 : decode cX9_write 46 = .ok (.getfield 35, 3) := by decide +kernel
theorem dX9_write_49 : decode cX9_write 49 = .ok (.iconst 0, 1) := by decide +kernel
theorem dX9_write_50 : decode cX9_write 50 = .ok (.putfield 246, 3) := by decide +kernel
theorem dX9_write_53 : decode cX9_write 53 = .ok (.iload_n 2, 1) := by decide +kernel
theorem dX9_write_54 : decode cX9_write 54 = .ok (.ifCond .lt 8, 3) := by decide +kernel
theorem dX9_write_57 : decode cX9_write 57 = .ok (.bipush (-100), 2) := by decide +kernel
theorem dX9_write_59 : decode cX9_write 59 = .ok (.iload_n 2, 1) := by decide +kernel
theorem dX9_write_60 : decode cX9_write 60 = .ok (.isub, 1) := by decide +kernel
theorem dX9_write_61 : decode cX9_write 61 = .ok (.ireturn, 1) := by decide +kernel
theorem dX9_write_62 : decode cX9_write 62 = .ok (.iload_n 3, 1) := by decide +kernel
theorem dX9_write_63 : decode cX9_write 63 = .ok (.ifCond .eq 11, 3) := by decide +kernel
theorem dX9_write_66 : decode cX9_write 66 = .ok (.aload_n 0, 1) := by decide +kernel
theorem dX9_write_67 : decode cX9_write 67 = .ok (.iload_n 1, 1) := by decide +kernel
theorem dX9_write_68 : decode cX9_write 68 = .ok (.invokevirtual 207, 3) := by decide +kernel
theorem dX9_write_71 : decode cX9_write 71 = .ok (.goto 5, 3) := by decide +kernel
theorem dX9_write_74 : decode cX9_write 74 = .ok (.bipush (-3), 2) := by decide +kernel
theorem dX9_write_76 : decode cX9_write 76 = .ok (.ireturn, 1) := by decide +kernel
theorem dX9_image_0 : decode cX9_image 0 = .ok (.aload_n 0, 1) := by decide +kernel
theorem dX9_image_1 : decode cX9_image 1 = .ok (.getfield 18, 3) := by decide +kernel
theorem dX9_image_4 : decode cX9_image 4 = .ok (.aload_n 0, 1) := by decide +kernel
theorem dX9_image_5 : decode cX9_image 5 = .ok (.getfield 12, 3) := by decide +kernel
theorem dX9_image_8 : decode cX9_image 8 = .ok (.invokevirtual 255, 3) := by decide +kernel
theorem dX9_image_11 : decode cX9_image 11 = .ok (.aload_n 0, 1) := by decide +kernel
theorem dX9_image_12 : decode cX9_image 12 = .ok (.iconst 1, 1) := by decide +kernel
theorem dX9_image_13 : decode cX9_image 13 = .ok (.putfield 21, 3) := by decide +kernel
theorem dX9_image_16 : decode cX9_image 16 = .ok (.aload_n 0, 1) := by decide +kernel
theorem dX9_image_17 : decode cX9_image 17 = .ok (.getfield 12, 3) := by decide +kernel
theorem dX9_image_20 : decode cX9_image 20 = .ok (.invokevirtual 258, 3) := by decide +kernel
theorem dX9_image_23 : decode cX9_image 23 = .ok (.ireturn, 1) := by decide +kernel
theorem dX9_restore_0 : decode cX9_restore 0 = .ok (.aload_n 0, 1) := by decide +kernel
theorem dX9_restore_1 : decode cX9_restore 1 = .ok (.getfield 21, 3) := by decide +kernel
theorem dX9_restore_4 : decode cX9_restore 4 = .ok (.ifCond .ne 6, 3) := by decide +kernel
theorem dX9_restore_7 : decode cX9_restore 7 = .ok (.bipush (-5), 2) := by decide +kernel
theorem dX9_restore_9 : decode cX9_restore 9 = .ok (.ireturn, 1) := by decide +kernel
theorem dX9_restore_10 : decode cX9_restore 10 = .ok (.aload_n 0, 1) := by decide +kernel
theorem dX9_restore_11 : decode cX9_restore 11 = .ok (.getfield 12, 3) := by decide +kernel
theorem dX9_restore_14 : decode cX9_restore 14 = .ok (.aload_n 0, 1) := by decide +kernel
theorem dX9_restore_15 : decode cX9_restore 15 = .ok (.getfield 18, 3) := by decide +kernel
theorem dX9_restore_18 : decode cX9_restore 18 = .ok (.invokevirtual 255, 3) := by decide +kernel
theorem dX9_restore_21 : decode cX9_restore 21 = .ok (.aload_n 0, 1) := by decide +kernel
theorem dX9_restore_22 : decode cX9_restore 22 = .ok (.getfield 28, 3) := by decide +kernel
theorem dX9_restore_25 : decode cX9_restore 25 = .ok (.iconst 0, 1) := by decide +kernel
theorem dX9_restore_26 : decode cX9_restore 26 = .ok (.putfield 240, 3) := by decide +kernel
theorem dX9_restore_29 : decode cX9_restore 29 = .ok (.aload_n 0, 1) := by decide +kernel
theorem dX9_restore_30 : decode cX9_restore 30 = .ok (.getfield 12, 3) := by decide +kernel
theorem dX9_restore_33 : decode cX9_restore 33 = .ok (.invokevirtual 258, 3) := by decide +kernel
theorem dX9_restore_36 : decode cX9_restore 36 = .ok (.ireturn, 1) := by decide +kernel
theorem dX9_told_0 : decode cX9_told 0 = .ok (.iload_n 1, 1) := by decide +kernel
theorem dX9_told_1 : decode cX9_told 1 = .ok (.tableswitch 51 0 2 #[27, 35, 43], 27) := by decide +kernel
theorem dX9_told_28 : decode cX9_told 28 = .ok (.aload_n 0, 1) := by decide +kernel
theorem dX9_told_29 : decode cX9_told 29 = .ok (.getfield 28, 3) := by decide +kernel
theorem dX9_told_32 : decode cX9_told 32 = .ok (.getfield 240, 3) := by decide +kernel
theorem dX9_told_35 : decode cX9_told 35 = .ok (.ireturn, 1) := by decide +kernel
theorem dX9_told_36 : decode cX9_told 36 = .ok (.aload_n 0, 1) := by decide +kernel
theorem dX9_told_37 : decode cX9_told 37 = .ok (.getfield 35, 3) := by decide +kernel
theorem dX9_told_40 : decode cX9_told 40 = .ok (.getfield 246, 3) := by decide +kernel
theorem dX9_told_43 : decode cX9_told 43 = .ok (.ireturn, 1) := by decide +kernel
theorem dX9_told_44 : decode cX9_told 44 = .ok (.aload_n 0, 1) := by decide +kernel
theorem dX9_told_45 : decode cX9_told 45 = .ok (.getfield 12, 3) := by decide +kernel
theorem dX9_told_48 : decode cX9_told 48 = .ok (.invokevirtual 261, 3) := by decide +kernel
theorem dX9_told_51 : decode cX9_told 51 = .ok (.ireturn, 1) := by decide +kernel
theorem dX9_told_52 : decode cX9_told 52 = .ok (.iload_n 1, 1) := by decide +kernel
theorem dX9_told_53 : decode cX9_told 53 = .ok (.iconst 3, 1) := by decide +kernel
theorem dX9_told_54 : decode cX9_told 54 = .ok (.isub, 1) := by decide +kernel
theorem dX9_told_55 : decode cX9_told 55 = .ok (.invokestatic 105, 3) := by decide +kernel
theorem dX9_told_58 : decode cX9_told 58 = .ok (.ifCond .eq 16, 3) := by decide +kernel
theorem dX9_told_61 : decode cX9_told 61 = .ok (.aload_n 0, 1) := by decide +kernel
theorem dX9_told_62 : decode cX9_told 62 = .ok (.getfield 12, 3) := by decide +kernel
theorem dX9_told_65 : decode cX9_told 65 = .ok (.iload_n 1, 1) := by decide +kernel
theorem dX9_told_66 : decode cX9_told 66 = .ok (.iconst 3, 1) := by decide +kernel
theorem dX9_told_67 : decode cX9_told 67 = .ok (.isub, 1) := by decide +kernel
theorem dX9_told_68 : decode cX9_told 68 = .ok (.invokevirtual 264, 3) := by decide +kernel
theorem dX9_told_71 : decode cX9_told 71 = .ok (.goto 4, 3) := by decide +kernel
theorem dX9_told_74 : decode cX9_told 74 = .ok (.iconst (-1), 1) := by decide +kernel
theorem dX9_told_75 : decode cX9_told 75 = .ok (.ireturn, 1) := by decide +kernel
theorem dX9_isBelow_0 : decode cX9_isBelow 0 = .ok (.iload_n 0, 1) := by decide +kernel
theorem dX9_isBelow_1 : decode cX9_isBelow 1 = .ok (.ifCond .lt 12, 3) := by decide +kernel
theorem dX9_isBelow_4 : decode cX9_isBelow 4 = .ok (.iload_n 0, 1) := by decide +kernel
theorem dX9_isBelow_5 : decode cX9_isBelow 5 = .ok (.iload_n 1, 1) := by decide +kernel
theorem dX9_isBelow_6 : decode cX9_isBelow 6 = .ok (.if_icmp .ge 7, 3) := by decide +kernel
theorem dX9_isBelow_9 : decode cX9_isBelow 9 = .ok (.iconst 1, 1) := by decide +kernel
theorem dX9_isBelow_10 : decode cX9_isBelow 10 = .ok (.goto 4, 3) := by decide +kernel
theorem dX9_isBelow_13 : decode cX9_isBelow 13 = .ok (.iconst 0, 1) := by decide +kernel
theorem dX9_isBelow_14 : decode cX9_isBelow 14 = .ok (.ireturn, 1) := by decide +kernel
theorem dX9_isRegister_0 : decode cX9_isRegister 0 = .ok (.iload_n 0, 1) := by decide +kernel
theorem dX9_isRegister_1 : decode cX9_isRegister 1 = .ok (.iconst 4, 1) := by decide +kernel
theorem dX9_isRegister_2 : decode cX9_isRegister 2 = .ok (.invokestatic 133, 3) := by decide +kernel
theorem dX9_isRegister_5 : decode cX9_isRegister 5 = .ok (.ireturn, 1) := by decide +kernel
theorem dX9_isGate_0 : decode cX9_isGate 0 = .ok (.iload_n 0, 1) := by decide +kernel
theorem dX9_isGate_1 : decode cX9_isGate 1 = .ok (.bipush 7, 2) := by decide +kernel
theorem dX9_isGate_3 : decode cX9_isGate 3 = .ok (.invokestatic 133, 3) := by decide +kernel
theorem dX9_isGate_6 : decode cX9_isGate 6 = .ok (.ireturn, 1) := by decide +kernel
theorem dX9_isWord_0 : decode cX9_isWord 0 = .ok (.iload_n 0, 1) := by decide +kernel
theorem dX9_isWord_1 : decode cX9_isWord 1 = .ok (.iconst 3, 1) := by decide +kernel
theorem dX9_isWord_2 : decode cX9_isWord 2 = .ok (.invokestatic 133, 3) := by decide +kernel
theorem dX9_isWord_5 : decode cX9_isWord 5 = .ok (.ireturn, 1) := by decide +kernel
theorem dX9_settleRegister_0 : decode cX9_settleRegister 0 = .ok (.aload_n 0, 1) := by decide +kernel
theorem dX9_settleRegister_1 : decode cX9_settleRegister 1 = .ok (.getfield 77, 3) := by decide +kernel
theorem dX9_settleRegister_4 : decode cX9_settleRegister 4 = .ok (.getfield 98, 3) := by decide +kernel
theorem dX9_settleRegister_7 : decode cX9_settleRegister 7 = .ok (.bipush 40, 2) := by decide +kernel
theorem dX9_settleRegister_9 : decode cX9_settleRegister 9 = .ok (.if_icmp .le 6, 3) := by decide +kernel
theorem dX9_settleRegister_12 : decode cX9_settleRegister 12 = .ok (.bipush (-5), 2) := by decide +kernel
theorem dX9_settleRegister_14 : decode cX9_settleRegister 14 = .ok (.ireturn, 1) := by decide +kernel
theorem dX9_settleRegister_15 : decode cX9_settleRegister 15 = .ok (.aload_n 0, 1) := by decide +kernel
theorem dX9_settleRegister_16 : decode cX9_settleRegister 16 = .ok (.getfield 12, 3) := by decide +kernel
theorem dX9_settleRegister_19 : decode cX9_settleRegister 19 = .ok (.getfield 94, 3) := by decide +kernel
theorem dX9_settleRegister_22 : decode cX9_settleRegister 22 = .ok (.iload_n 1, 1) := by decide +kernel
theorem dX9_settleRegister_23 : decode cX9_settleRegister 23 = .ok (.aaload, 1) := by decide +kernel
theorem dX9_settleRegister_24 : decode cX9_settleRegister 24 = .ok (.aload_n 0, 1) := by decide +kernel
theorem dX9_settleRegister_25 : decode cX9_settleRegister 25 = .ok (.getfield 77, 3) := by decide +kernel
theorem dX9_settleRegister_28 : decode cX9_settleRegister 28 = .ok (.invokevirtual 108, 3) := by decide +kernel
theorem dX9_settleRegister_31 : decode cX9_settleRegister 31 = .ok (.aload_n 0, 1) := by decide +kernel
theorem dX9_settleRegister_32 : decode cX9_settleRegister 32 = .ok (.getfield 77, 3) := by decide +kernel
theorem dX9_settleRegister_35 : decode cX9_settleRegister 35 = .ok (.getfield 98, 3) := by decide +kernel
theorem dX9_settleRegister_38 : decode cX9_settleRegister 38 = .ok (.ireturn, 1) := by decide +kernel
theorem dX9_settleWord_0 : decode cX9_settleWord 0 = .ok (.aload_n 0, 1) := by decide +kernel
theorem dX9_settleWord_1 : decode cX9_settleWord 1 = .ok (.getfield 12, 3) := by decide +kernel
theorem dX9_settleWord_4 : decode cX9_settleWord 4 = .ok (.getfield 197, 3) := by decide +kernel
theorem dX9_settleWord_7 : decode cX9_settleWord 7 = .ok (.iload_n 1, 1) := by decide +kernel
theorem dX9_settleWord_8 : decode cX9_settleWord 8 = .ok (.aaload, 1) := by decide +kernel
theorem dX9_settleWord_9 : decode cX9_settleWord 9 = .ok (.astore_n 2, 1) := by decide +kernel
theorem dX9_settleWord_10 : decode cX9_settleWord 10 = .ok (.aload_n 2, 1) := by decide +kernel
theorem dX9_settleWord_11 : decode cX9_settleWord 11 = .ok (.aload_n 0, 1) := by decide +kernel
theorem dX9_settleWord_12 : decode cX9_settleWord 12 = .ok (.getfield 70, 3) := by decide +kernel
theorem dX9_settleWord_15 : decode cX9_settleWord 15 = .ok (.invokevirtual 267, 3) := by decide +kernel
theorem dX9_settleWord_18 : decode cX9_settleWord 18 = .ok (.ifCond .ne 20, 3) := by decide +kernel
theorem dX9_settleWord_21 : decode cX9_settleWord 21 = .ok (.aload_n 0, 1) := by decide +kernel
theorem dX9_settleWord_22 : decode cX9_settleWord 22 = .ok (.getfield 28, 3) := by decide +kernel
theorem dX9_settleWord_25 : decode cX9_settleWord 25 = .ok (.iload_n 1, 1) := by decide +kernel
theorem dX9_settleWord_26 : decode cX9_settleWord 26 = .ok (.aload_n 2, 1) := by decide +kernel
theorem dX9_settleWord_27 : decode cX9_settleWord 27 = .ok (.invokevirtual 270, 3) := by decide +kernel
theorem dX9_settleWord_30 : decode cX9_settleWord 30 = .ok (.aload_n 2, 1) := by decide +kernel
theorem dX9_settleWord_31 : decode cX9_settleWord 31 = .ok (.aload_n 0, 1) := by decide +kernel
theorem dX9_settleWord_32 : decode cX9_settleWord 32 = .ok (.getfield 70, 3) := by decide +kernel
theorem dX9_settleWord_35 : decode cX9_settleWord 35 = .ok (.invokevirtual 201, 3) := by decide +kernel
theorem dX9_settleWord_38 : decode cX9_settleWord 38 = .ok (.aload_n 2, 1) := by decide +kernel
theorem dX9_settleWord_39 : decode cX9_settleWord 39 = .ok (.getfield 210, 3) := by decide +kernel
theorem dX9_settleWord_42 : decode cX9_settleWord 42 = .ok (.ireturn, 1) := by decide +kernel
theorem dX9_gateOfLetter_0 : decode cX9_gateOfLetter 0 = .ok (.iload_n 0, 1) := by decide +kernel
theorem dX9_gateOfLetter_1 : decode cX9_gateOfLetter 1 = .ok (.tableswitch 106 72 90 #[91, 106, 106, 106, 106, 106, 106, 106, 106, 106, 106, 95, 93, 103, 106, 101, 97, 106, 99], 91) := by decide +kernel
theorem dX9_gateOfLetter_92 : decode cX9_gateOfLetter 92 = .ok (.iconst 0, 1) := by decide +kernel
theorem dX9_gateOfLetter_93 : decode cX9_gateOfLetter 93 = .ok (.ireturn, 1) := by decide +kernel
theorem dX9_gateOfLetter_94 : decode cX9_gateOfLetter 94 = .ok (.iconst 1, 1) := by decide +kernel
theorem dX9_gateOfLetter_95 : decode cX9_gateOfLetter 95 = .ok (.ireturn, 1) := by decide +kernel
theorem dX9_gateOfLetter_96 : decode cX9_gateOfLetter 96 = .ok (.iconst 2, 1) := by decide +kernel
theorem dX9_gateOfLetter_97 : decode cX9_gateOfLetter 97 = .ok (.ireturn, 1) := by decide +kernel
theorem dX9_gateOfLetter_98 : decode cX9_gateOfLetter 98 = .ok (.iconst 3, 1) := by decide +kernel
theorem dX9_gateOfLetter_99 : decode cX9_gateOfLetter 99 = .ok (.ireturn, 1) := by decide +kernel
theorem dX9_gateOfLetter_100 : decode cX9_gateOfLetter 100 = .ok (.iconst 4, 1) := by decide +kernel
theorem dX9_gateOfLetter_101 : decode cX9_gateOfLetter 101 = .ok (.ireturn, 1) := by decide +kernel
theorem dX9_gateOfLetter_102 : decode cX9_gateOfLetter 102 = .ok (.iconst 5, 1) := by decide +kernel
theorem dX9_gateOfLetter_103 : decode cX9_gateOfLetter 103 = .ok (.ireturn, 1) := by decide +kernel
theorem dX9_gateOfLetter_104 : decode cX9_gateOfLetter 104 = .ok (.bipush 6, 2) := by decide +kernel
theorem dX9_gateOfLetter_106 : decode cX9_gateOfLetter 106 = .ok (.ireturn, 1) := by decide +kernel
theorem dX9_gateOfLetter_107 : decode cX9_gateOfLetter 107 = .ok (.bipush (-2), 2) := by decide +kernel
theorem dX9_gateOfLetter_109 : decode cX9_gateOfLetter 109 = .ok (.ireturn, 1) := by decide +kernel
theorem dX10_init_0 : decode cX10_init 0 = .ok (.aload_n 0, 1) := by decide +kernel
theorem dX10_init_1 : decode cX10_init 1 = .ok (.invokespecial 5, 3) := by decide +kernel
theorem dX10_init_4 : decode cX10_init 4 = .ok (.aload_n 0, 1) := by decide +kernel
theorem dX10_init_5 : decode cX10_init 5 = .ok (.sipush 340, 3) := by decide +kernel
theorem dX10_init_8 : decode cX10_init 8 = .ok (.newarray .long, 2) := by decide +kernel
theorem dX10_init_10 : decode cX10_init 10 = .ok (.putfield 11, 3) := by decide +kernel
theorem dX10_init_13 : decode cX10_init 13 = .ok (.aload_n 0, 1) := by decide +kernel
theorem dX10_init_14 : decode cX10_init 14 = .ok (.sipush 3264, 3) := by decide +kernel
theorem dX10_init_17 : decode cX10_init 17 = .ok (.newarray .long, 2) := by decide +kernel
theorem dX10_init_19 : decode cX10_init 19 = .ok (.putfield 15, 3) := by decide +kernel
theorem dX10_init_22 : decode cX10_init 22 = .ok (.aload_n 0, 1) := by decide +kernel
theorem dX10_init_23 : decode cX10_init 23 = .ok (.bipush 68, 2) := by decide +kernel
theorem dX10_init_25 : decode cX10_init 25 = .ok (.newarray .long, 2) := by decide +kernel
theorem dX10_init_27 : decode cX10_init 27 = .ok (.putfield 18, 3) := by decide +kernel
theorem dX10_init_30 : decode cX10_init 30 = .ok (.aload_n 0, 1) := by decide +kernel
theorem dX10_init_31 : decode cX10_init 31 = .ok (.bipush 7, 2) := by decide +kernel
theorem dX10_init_33 : decode cX10_init 33 = .ok (.newarray .int, 2) := by decide +kernel
theorem dX10_init_35 : decode cX10_init 35 = .ok (.putfield 21, 3) := by decide +kernel
theorem dX10_init_38 : decode cX10_init 38 = .ok (.aload_n 0, 1) := by decide +kernel
theorem dX10_init_39 : decode cX10_init 39 = .ok (.bipush 7, 2) := by decide +kernel
theorem dX10_init_41 : decode cX10_init 41 = .ok (.newarray .int, 2) := by decide +kernel
theorem dX10_init_43 : decode cX10_init 43 = .ok (.putfield 25, 3) := by decide +kernel
theorem dX10_init_46 : decode cX10_init 46 = .ok (.aload_n 0, 1) := by decide +kernel
theorem dX10_init_47 : decode cX10_init 47 = .ok (.sipush 180, 3) := by decide +kernel
theorem dX10_init_50 : decode cX10_init 50 = .ok (.newarray .int, 2) := by decide +kernel
theorem dX10_init_52 : decode cX10_init 52 = .ok (.putfield 28, 3) := by decide +kernel
theorem dX10_init_55 : decode cX10_init 55 = .ok (.aload_n 0, 1) := by decide +kernel
theorem dX10_init_56 : decode cX10_init 56 = .ok (.iconst 3, 1) := by decide +kernel
theorem dX10_init_57 : decode cX10_init 57 = .ok (.newarray .int, 2) := by decide +kernel
theorem dX10_init_59 : decode cX10_init 59 = .ok (.putfield 31, 3) := by decide +kernel
theorem dX10_init_62 : decode cX10_init 62 = .ok (.aload_n 0, 1) := by decide +kernel
theorem dX10_init_63 : decode cX10_init 63 = .ok (.sipush 180, 3) := by decide +kernel
theorem dX10_init_66 : decode cX10_init 66 = .ok (.newarray .int, 2) := by decide +kernel
theorem dX10_init_68 : decode cX10_init 68 = .ok (.putfield 34, 3) := by decide +kernel
theorem dX10_init_71 : decode cX10_init 71 = .ok (.aload_n 0, 1) := by decide +kernel
theorem dX10_init_72 : decode cX10_init 72 = .ok (.iconst 3, 1) := by decide +kernel
theorem dX10_init_73 : decode cX10_init 73 = .ok (.newarray .int, 2) := by decide +kernel
theorem dX10_init_75 : decode cX10_init 75 = .ok (.putfield 37, 3) := by decide +kernel
theorem dX10_init_78 : decode cX10_init 78 = .ok (.aload_n 0, 1) := by decide +kernel
theorem dX10_init_79 : decode cX10_init 79 = .ok (.bipush 9, 2) := by decide +kernel
theorem dX10_init_81 : decode cX10_init 81 = .ok (.newarray .long, 2) := by decide +kernel
theorem dX10_init_83 : decode cX10_init 83 = .ok (.putfield 40, 3) := by decide +kernel
theorem dX10_init_86 : decode cX10_init 86 = .ok (.aload_n 0, 1) := by decide +kernel
theorem dX10_init_87 : decode cX10_init 87 = .ok (.bipush 9, 2) := by decide +kernel
theorem dX10_init_89 : decode cX10_init 89 = .ok (.newarray .long, 2) := by decide +kernel
theorem dX10_init_91 : decode cX10_init 91 = .ok (.putfield 43, 3) := by decide +kernel
theorem dX10_init_94 : decode cX10_init 94 = .ok (.aload_n 0, 1) := by decide +kernel
theorem dX10_init_95 : decode cX10_init 95 = .ok (.sipush 1344, 3) := by decide +kernel
theorem dX10_init_98 : decode cX10_init 98 = .ok (.newarray .int, 2) := by decide +kernel
theorem dX10_init_100 : decode cX10_init 100 = .ok (.putfield 46, 3) := by decide +kernel
theorem dX10_init_103 : decode cX10_init 103 = .ok (.aload_n 0, 1) := by decide +kernel
theorem dX10_init_104 : decode cX10_init 104 = .ok (.sipush 1344, 3) := by decide +kernel
theorem dX10_init_107 : decode cX10_init 107 = .ok (.newarray .int, 2) := by decide +kernel
theorem dX10_init_109 : decode cX10_init 109 = .ok (.putfield 49, 3) := by decide +kernel
theorem dX10_init_112 : decode cX10_init 112 = .ok (.aload_n 0, 1) := by decide +kernel
theorem dX10_init_113 : decode cX10_init 113 = .ok (.sipush 192, 3) := by decide +kernel
theorem dX10_init_116 : decode cX10_init 116 = .ok (.newarray .int, 2) := by decide +kernel
theorem dX10_init_118 : decode cX10_init 118 = .ok (.putfield 52, 3) := by decide +kernel
theorem dX10_init_121 : decode cX10_init 121 = .ok (.aload_n 0, 1) := by decide +kernel
theorem dX10_init_122 : decode cX10_init 122 = .ok (.sipush 192, 3) := by decide +kernel
theorem dX10_init_125 : decode cX10_init 125 = .ok (.newarray .int, 2) := by decide +kernel
theorem dX10_init_127 : decode cX10_init 127 = .ok (.putfield 55, 3) := by decide +kernel
theorem dX10_init_130 : decode cX10_init 130 = .ok (.aload_n 0, 1) := by decide +kernel
theorem dX10_init_131 : decode cX10_init 131 = .ok (.sipush 600, 3) := by decide +kernel
theorem dX10_init_134 : decode cX10_init 134 = .ok (.newarray .int, 2) := by decide +kernel
theorem dX10_init_136 : decode cX10_init 136 = .ok (.putfield 58, 3) := by decide +kernel
theorem dX10_init_139 : decode cX10_init 139 = .ok (.aload_n 0, 1) := by decide +kernel
theorem dX10_init_140 : decode cX10_init 140 = .ok (.sipush 480, 3) := by decide +kernel
theorem dX10_init_143 : decode cX10_init 143 = .ok (.newarray .int, 2) := by decide +kernel
theorem dX10_init_145 : decode cX10_init 145 = .ok (.putfield 61, 3) := by decide +kernel
theorem dX10_init_148 : decode cX10_init 148 = .ok (.aload_n 0, 1) := by decide +kernel
theorem dX10_init_149 : decode cX10_init 149 = .ok (.bipush 8, 2) := by decide +kernel
theorem dX10_init_151 : decode cX10_init 151 = .ok (.newarray .int, 2) := by decide +kernel
theorem dX10_init_153 : decode cX10_init 153 = .ok (.putfield 64, 3) := by decide +kernel
theorem dX10_init_156 : decode cX10_init 156 = .ok (.aload_n 0, 1) := by decide +kernel
theorem dX10_init_157 : decode cX10_init 157 = .ok (.bipush 8, 2) := by decide +kernel
theorem dX10_init_159 : decode cX10_init 159 = .ok (.newarray .int, 2) := by decide +kernel
theorem dX10_init_161 : decode cX10_init 161 = .ok (.putfield 67, 3) := by decide +kernel
theorem dX10_init_164 : decode cX10_init 164 = .ok (.aload_n 0, 1) := by decide +kernel
theorem dX10_init_165 : decode cX10_init 165 = .ok (.bipush 80, 2) := by decide +kernel
theorem dX10_init_167 : decode cX10_init 167 = .ok (.newarray .int, 2) := by decide +kernel
theorem dX10_init_169 : decode cX10_init 169 = .ok (.putfield 70, 3) := by decide +kernel
theorem dX10_init_172 : decode cX10_init 172 = .ok (.aload_n 0, 1) := by decide +kernel
theorem dX10_init_173 : decode cX10_init 173 = .ok (.bipush 120, 2) := by decide +kernel
theorem dX10_init_175 : decode cX10_init 175 = .ok (.newarray .int, 2) := by decide +kernel
theorem dX10_init_177 : decode cX10_init 177 = .ok (.putfield 73, 3) := by decide +kernel
theorem dX10_init_180 : decode cX10_init 180 = .ok (.iconst 0, 1) := by decide +kernel
theorem dX10_init_181 : decode cX10_init 181 = .ok (.istore_n 1, 1) := by decide +kernel
theorem dX10_init_182 : decode cX10_init 182 = .ok (.iload_n 1, 1) := by decide +kernel
theorem dX10_init_183 : decode cX10_init 183 = .ok (.bipush 7, 2) := by decide +kernel
theorem dX10_init_185 : decode cX10_init 185 = .ok (.if_icmp .ge 16, 3) := by decide +kernel
theorem dX10_init_188 : decode cX10_init 188 = .ok (.aload_n 0, 1) := by decide +kernel
theorem dX10_init_189 : decode cX10_init 189 = .ok (.getfield 21, 3) := by decide +kernel
theorem dX10_init_192 : decode cX10_init 192 = .ok (.iload_n 1, 1) := by decide +kernel
theorem dX10_init_193 : decode cX10_init 193 = .ok (.iconst 1, 1) := by decide +kernel
theorem dX10_init_194 : decode cX10_init 194 = .ok (.iastore, 1) := by decide +kernel
theorem dX10_init_195 : decode cX10_init 195 = .ok (.iinc 1 1, 3) := by decide +kernel
theorem dX10_init_198 : decode cX10_init 198 = .ok (.goto (-16), 3) := by decide +kernel
theorem dX10_init_201 : decode cX10_init 201 = .ok (.aload_n 0, 1) := by decide +kernel
theorem dX10_init_202 : decode cX10_init 202 = .ok (.bipush 14, 2) := by decide +kernel
theorem dX10_init_204 : decode cX10_init 204 = .ok (.iconst 0, 1) := by decide +kernel
theorem dX10_init_205 : decode cX10_init 205 = .ok (.iconst 0, 1) := by decide +kernel
theorem dX10_init_206 : decode cX10_init 206 = .ok (.lconst 1, 1) := by decide +kernel
theorem dX10_init_207 : decode cX10_init 207 = .ok (.invokevirtual 76, 3) := by decide +kernel
theorem dX10_init_210 : decode cX10_init 210 = .ok (.aload_n 0, 1) := by decide +kernel
theorem dX10_init_211 : decode cX10_init 211 = .ok (.bipush 14, 2) := by decide +kernel
theorem dX10_init_213 : decode cX10_init 213 = .ok (.iconst 3, 1) := by decide +kernel
theorem dX10_init_214 : decode cX10_init 214 = .ok (.iconst 0, 1) := by decide +kernel
theorem dX10_init_215 : decode cX10_init 215 = .ok (.lconst 1, 1) := by decide +kernel
theorem dX10_init_216 : decode cX10_init 216 = .ok (.invokevirtual 76, 3) := by decide +kernel
theorem dX10_init_219 : decode cX10_init 219 = .ok (.aload_n 0, 1) := by decide +kernel
theorem dX10_init_220 : decode cX10_init 220 = .ok (.invokevirtual 80, 3) := by decide +kernel
theorem dX10_init_223 : decode cX10_init 223 = .ok (.iconst 0, 1) := by decide +kernel
theorem dX10_init_224 : decode cX10_init 224 = .ok (.istore_n 1, 1) := by decide +kernel
theorem dX10_init_225 : decode cX10_init 225 = .ok (.iload_n 1, 1) := by decide +kernel
theorem dX10_init_226 : decode cX10_init 226 = .ok (.iconst 4, 1) := by decide +kernel
theorem dX10_init_227 : decode cX10_init 227 = .ok (.if_icmp .ge 16, 3) := by decide +kernel
theorem dX10_init_230 : decode cX10_init 230 = .ok (.aload_n 0, 1) := by decide +kernel
theorem dX10_init_231 : decode cX10_init 231 = .ok (.bipush 14, 2) := by decide +kernel
theorem dX10_init_233 : decode cX10_init 233 = .ok (.iload_n 1, 1) := by decide +kernel
theorem dX10_init_234 : decode cX10_init 234 = .ok (.invokevirtual 83, 3) := by decide +kernel
theorem dX10_init_237 : decode cX10_init 237 = .ok (.iinc 1 1, 3) := by decide +kernel
theorem dX10_init_240 : decode cX10_init 240 = .ok (.goto (-15), 3) := by decide +kernel
theorem dX10_init_243 : decode cX10_init 243 = .ok (.aload_n 0, 1) := by decide +kernel
theorem dX10_init_244 : decode cX10_init 244 = .ok (.invokevirtual 87, 3) := by decide +kernel
theorem dX10_init_247 : decode cX10_init 247 = .ok (.return_, 1) := by decide +kernel
theorem dX10_isIn_0 : decode cX10_isIn 0 = .ok (.lload_n 0, 1) := by decide +kernel
theorem dX10_isIn_1 : decode cX10_isIn 1 = .ok (.lload_n 2, 1) := by decide +kernel
theorem dX10_isIn_2 : decode cX10_isIn 2 = .ok (.lcmp, 1) := by decide +kernel
theorem dX10_isIn_3 : decode cX10_isIn 3 = .ok (.ifCond .lt 14, 3) := by decide +kernel
theorem dX10_isIn_6 : decode cX10_isIn 6 = .ok (.lload_n 0, 1) := by decide +kernel
theorem dX10_isIn_7 : decode cX10_isIn 7 = .ok (.lload 4, 2) := by decide +kernel
theorem dX10_isIn_9 : decode cX10_isIn 9 = .ok (.lcmp, 1) := by decide +kernel
theorem dX10_isIn_10 : decode cX10_isIn 10 = .ok (.ifCond .gt 7, 3) := by decide +kernel
theorem dX10_isIn_13 : decode cX10_isIn 13 = .ok (.iconst 1, 1) := by decide +kernel
theorem dX10_isIn_14 : decode cX10_isIn 14 = .ok (.goto 4, 3) := by decide +kernel
theorem dX10_isIn_17 : decode cX10_isIn 17 = .ok (.iconst 0, 1) := by decide +kernel
theorem dX10_isIn_18 : decode cX10_isIn 18 = .ok (.ireturn, 1) := by decide +kernel
theorem dX10_number_0 : decode cX10_number 0 = .ok (.aload_n 0, 1) := by decide +kernel
theorem dX10_number_1 : decode cX10_number 1 = .ok (.getfield 11, 3) := by decide +kernel
theorem dX10_number_4 : decode cX10_number 4 = .ok (.bipush 17, 2) := by decide +kernel
theorem dX10_number_6 : decode cX10_number 6 = .ok (.iload_n 1, 1) := by decide +kernel
theorem dX10_number_7 : decode cX10_number 7 = .ok (.imul, 1) := by decide +kernel
theorem dX10_number_8 : decode cX10_number 8 = .ok (.iconst 4, 1) := by decide +kernel
theorem dX10_number_9 : decode cX10_number 9 = .ok (.iload_n 2, 1) := by decide +kernel
theorem dX10_number_10 : decode cX10_number 10 = .ok (.imul, 1) := by decide +kernel
theorem dX10_number_11 : decode cX10_number 11 = .ok (.iadd, 1) := by decide +kernel
theorem dX10_number_12 : decode cX10_number 12 = .ok (.iload_n 3, 1) := by decide +kernel
theorem dX10_number_13 : decode cX10_number 13 = .ok (.iadd, 1) := by decide +kernel
theorem dX10_number_14 : decode cX10_number 14 = .ok (.lload 4, 2) := by decide +kernel
theorem dX10_number_16 : decode cX10_number 16 = .ok (.lastore, 1) := by decide +kernel
theorem dX10_number_17 : decode cX10_number 17 = .ok (.return_, 1) := by decide +kernel
theorem dX10_at_0 : decode cX10_at 0 = .ok (.aload_n 0, 1) := by decide +kernel
theorem dX10_at_1 : decode cX10_at 1 = .ok (.getfield 11, 3) := by decide +kernel
theorem dX10_at_4 : decode cX10_at 4 = .ok (.bipush 17, 2) := by decide +kernel
theorem dX10_at_6 : decode cX10_at 6 = .ok (.iload_n 1, 1) := by decide +kernel
theorem dX10_at_7 : decode cX10_at 7 = .ok (.imul, 1) := by decide +kernel
theorem dX10_at_8 : decode cX10_at 8 = .ok (.iconst 4, 1) := by decide +kernel
theorem dX10_at_9 : decode cX10_at 9 = .ok (.iload_n 2, 1) := by decide +kernel
theorem dX10_at_10 : decode cX10_at 10 = .ok (.imul, 1) := by decide +kernel
theorem dX10_at_11 : decode cX10_at 11 = .ok (.iadd, 1) := by decide +kernel
theorem dX10_at_12 : decode cX10_at 12 = .ok (.iload_n 3, 1) := by decide +kernel
theorem dX10_at_13 : decode cX10_at 13 = .ok (.iadd, 1) := by decide +kernel
theorem dX10_at_14 : decode cX10_at 14 = .ok (.laload, 1) := by decide +kernel
theorem dX10_at_15 : decode cX10_at 15 = .ok (.lreturn, 1) := by decide +kernel
theorem dX10_eOf_0 : decode cX10_eOf 0 = .ok (.aload_n 0, 1) := by decide +kernel
theorem dX10_eOf_1 : decode cX10_eOf 1 = .ok (.getfield 11, 3) := by decide +kernel
theorem dX10_eOf_4 : decode cX10_eOf 4 = .ok (.bipush 17, 2) := by decide +kernel
theorem dX10_eOf_6 : decode cX10_eOf 6 = .ok (.iload_n 1, 1) := by decide +kernel
theorem dX10_eOf_7 : decode cX10_eOf 7 = .ok (.imul, 1) := by decide +kernel
theorem dX10_eOf_8 : decode cX10_eOf 8 = .ok (.bipush 16, 2) := by decide +kernel
theorem dX10_eOf_10 : decode cX10_eOf 10 = .ok (.iadd, 1) := by decide +kernel
theorem dX10_eOf_11 : decode cX10_eOf 11 = .ok (.laload, 1) := by decide +kernel
theorem dX10_eOf_12 : decode cX10_eOf 12 = .ok (.l2i, 1) := by decide +kernel
theorem dX10_eOf_13 : decode cX10_eOf 13 = .ok (.ireturn, 1) := by decide +kernel
theorem dX10_copies_0 : decode cX10_copies 0 = .ok (.iconst 0, 1) := by decide +kernel
theorem dX10_copies_1 : decode cX10_copies 1 = .ok (.istore_n 3, 1) := by decide +kernel
theorem dX10_copies_2 : decode cX10_copies 2 = .ok (.iload_n 3, 1) := by decide +kernel
theorem dX10_copies_3 : decode cX10_copies 3 = .ok (.bipush 17, 2) := by decide +kernel
theorem dX10_copies_5 : decode cX10_copies 5 = .ok (.if_icmp .ge 31, 3) := by decide +kernel
theorem dX10_copies_8 : decode cX10_copies 8 = .ok (.aload_n 0, 1) := by decide +kernel
theorem dX10_copies_9 : decode cX10_copies 9 = .ok (.getfield 11, 3) := by decide +kernel
theorem dX10_copies_12 : decode cX10_copies 12 = .ok (.bipush 17, 2) := by decide +kernel
theorem dX10_copies_14 : decode cX10_copies 14 = .ok (.iload_n 2, 1) := by decide +kernel
theorem dX10_copies_15 : decode cX10_copies 15 = .ok (.imul, 1) := by decide +kernel
theorem dX10_copies_16 : decode cX10_copies 16 = .ok (.iload_n 3, 1) := by decide +kernel
theorem dX10_copies_17 : decode cX10_copies 17 = .ok (.iadd, 1) := by decide +kernel
theorem dX10_copies_18 : decode cX10_copies 18 = .ok (.aload_n 0, 1) := by decide +kernel
theorem dX10_copies_19 : decode cX10_copies 19 = .ok (.getfield 11, 3) := by decide +kernel
theorem dX10_copies_22 : decode cX10_copies 22 = .ok (.bipush 17, 2) := by decide +kernel
theorem dX10_copies_24 : decode cX10_copies 24 = .ok (.iload_n 1, 1) := by decide +kernel
theorem dX10_copies_25 : decode cX10_copies 25 = .ok (.imul, 1) := by decide +kernel
theorem dX10_copies_26 : decode cX10_copies 26 = .ok (.iload_n 3, 1) := by decide +kernel
theorem dX10_copies_27 : decode cX10_copies 27 = .ok (.iadd, 1) := by decide +kernel
theorem dX10_copies_28 : decode cX10_copies 28 = .ok (.laload, 1) := by decide +kernel
theorem dX10_copies_29 : decode cX10_copies 29 = .ok (.lastore, 1) := by decide +kernel
theorem dX10_copies_30 : decode cX10_copies 30 = .ok (.iinc 3 1, 3) := by decide +kernel
theorem dX10_copies_33 : decode cX10_copies 33 = .ok (.goto (-31), 3) := by decide +kernel
theorem dX10_copies_36 : decode cX10_copies 36 = .ok (.return_, 1) := by decide +kernel
theorem dX10_gates_0 : decode cX10_gates 0 = .ok (.iconst 0, 1) := by decide +kernel
end
section
theorem dX10_gates_1 : decode cX10_gates 1 = .ok (.istore_n 1, 1) := by decide +kernel
theorem dX10_gates_2 : decode cX10_gates 2 = .ok (.iload_n 1, 1) := by decide +kernel
theorem dX10_gates_3 : decode cX10_gates 3 = .ok (.iconst 4, 1) := by decide +kernel
theorem dX10_gates_4 : decode cX10_gates 4 = .ok (.if_icmp .ge 28, 3) := by decide +kernel
theorem dX10_gates_7 : decode cX10_gates 7 = .ok (.aload_n 0, 1) := by decide +kernel
theorem dX10_gates_8 : decode cX10_gates 8 = .ok (.iconst 4, 1) := by decide +kernel
theorem dX10_gates_9 : decode cX10_gates 9 = .ok (.iload_n 1, 1) := by decide +kernel
theorem dX10_gates_10 : decode cX10_gates 10 = .ok (.iconst 0, 1) := by decide +kernel
theorem dX10_gates_11 : decode cX10_gates 11 = .ok (.iload_n 1, 1) := by decide +kernel
theorem dX10_gates_12 : decode cX10_gates 12 = .ok (.iconst 3, 1) := by decide +kernel
theorem dX10_gates_13 : decode cX10_gates 13 = .ok (.if_icmp .ne 9, 3) := by decide +kernel
theorem dX10_gates_16 : decode cX10_gates 16 = .ok (.ldc2_w 90, 3) := by decide +kernel
theorem dX10_gates_19 : decode cX10_gates 19 = .ok (.goto 4, 3) := by decide +kernel
theorem dX10_gates_22 : decode cX10_gates 22 = .ok (.lconst 1, 1) := by decide +kernel
theorem dX10_gates_23 : decode cX10_gates 23 = .ok (.invokevirtual 76, 3) := by decide +kernel
theorem dX10_gates_26 : decode cX10_gates 26 = .ok (.iinc 1 1, 3) := by decide +kernel
theorem dX10_gates_29 : decode cX10_gates 29 = .ok (.goto (-27), 3) := by decide +kernel
theorem dX10_gates_32 : decode cX10_gates 32 = .ok (.aload_n 0, 1) := by decide +kernel
theorem dX10_gates_33 : decode cX10_gates 33 = .ok (.getfield 11, 3) := by decide +kernel
theorem dX10_gates_36 : decode cX10_gates 36 = .ok (.bipush 84, 2) := by decide +kernel
theorem dX10_gates_38 : decode cX10_gates 38 = .ok (.lconst 1, 1) := by decide +kernel
theorem dX10_gates_39 : decode cX10_gates 39 = .ok (.lastore, 1) := by decide +kernel
theorem dX10_gates_40 : decode cX10_gates 40 = .ok (.aload_n 0, 1) := by decide +kernel
theorem dX10_gates_41 : decode cX10_gates 41 = .ok (.bipush 7, 2) := by decide +kernel
theorem dX10_gates_43 : decode cX10_gates 43 = .ok (.iconst 1, 1) := by decide +kernel
theorem dX10_gates_44 : decode cX10_gates 44 = .ok (.iconst 0, 1) := by decide +kernel
theorem dX10_gates_45 : decode cX10_gates 45 = .ok (.lconst 1, 1) := by decide +kernel
theorem dX10_gates_46 : decode cX10_gates 46 = .ok (.invokevirtual 76, 3) := by decide +kernel
theorem dX10_gates_49 : decode cX10_gates 49 = .ok (.aload_n 0, 1) := by decide +kernel
theorem dX10_gates_50 : decode cX10_gates 50 = .ok (.bipush 7, 2) := by decide +kernel
theorem dX10_gates_52 : decode cX10_gates 52 = .ok (.iconst 2, 1) := by decide +kernel
theorem dX10_gates_53 : decode cX10_gates 53 = .ok (.iconst 0, 1) := by decide +kernel
theorem dX10_gates_54 : decode cX10_gates 54 = .ok (.lconst 1, 1) := by decide +kernel
theorem dX10_gates_55 : decode cX10_gates 55 = .ok (.invokevirtual 76, 3) := by decide +kernel
theorem dX10_gates_58 : decode cX10_gates 58 = .ok (.iconst 0, 1) := by decide +kernel
theorem dX10_gates_59 : decode cX10_gates 59 = .ok (.istore_n 1, 1) := by decide +kernel
theorem dX10_gates_60 : decode cX10_gates 60 = .ok (.iload_n 1, 1) := by decide +kernel
theorem dX10_gates_61 : decode cX10_gates 61 = .ok (.bipush 7, 2) := by decide +kernel
theorem dX10_gates_63 : decode cX10_gates 63 = .ok (.if_icmp .ge 33, 3) := by decide +kernel
theorem dX10_gates_66 : decode cX10_gates 66 = .ok (.iload_n 1, 1) := by decide +kernel
theorem dX10_gates_67 : decode cX10_gates 67 = .ok (.ifCond .eq 23, 3) := by decide +kernel
theorem dX10_gates_70 : decode cX10_gates 70 = .ok (.iload_n 1, 1) := by decide +kernel
theorem dX10_gates_71 : decode cX10_gates 71 = .ok (.iconst 3, 1) := by decide +kernel
theorem dX10_gates_72 : decode cX10_gates 72 = .ok (.if_icmp .eq 18, 3) := by decide +kernel
theorem dX10_gates_75 : decode cX10_gates 75 = .ok (.iload_n 1, 1) := by decide +kernel
theorem dX10_gates_76 : decode cX10_gates 76 = .ok (.iconst 5, 1) := by decide +kernel
theorem dX10_gates_77 : decode cX10_gates 77 = .ok (.if_icmp .eq 13, 3) := by decide +kernel
theorem dX10_gates_80 : decode cX10_gates 80 = .ok (.aload_n 0, 1) := by decide +kernel
theorem dX10_gates_81 : decode cX10_gates 81 = .ok (.iconst 4, 1) := by decide +kernel
theorem dX10_gates_82 : decode cX10_gates 82 = .ok (.iload_n 1, 1) := by decide +kernel
theorem dX10_gates_83 : decode cX10_gates 83 = .ok (.iadd, 1) := by decide +kernel
theorem dX10_gates_84 : decode cX10_gates 84 = .ok (.iconst 0, 1) := by decide +kernel
theorem dX10_gates_85 : decode cX10_gates 85 = .ok (.iconst 0, 1) := by decide +kernel
theorem dX10_gates_86 : decode cX10_gates 86 = .ok (.lconst 1, 1) := by decide +kernel
theorem dX10_gates_87 : decode cX10_gates 87 = .ok (.invokevirtual 76, 3) := by decide +kernel
theorem dX10_gates_90 : decode cX10_gates 90 = .ok (.iinc 1 1, 3) := by decide +kernel
theorem dX10_gates_93 : decode cX10_gates 93 = .ok (.goto (-33), 3) := by decide +kernel
theorem dX10_gates_96 : decode cX10_gates 96 = .ok (.aload_n 0, 1) := by decide +kernel
theorem dX10_gates_97 : decode cX10_gates 97 = .ok (.iconst 5, 1) := by decide +kernel
theorem dX10_gates_98 : decode cX10_gates 98 = .ok (.iconst 3, 1) := by decide +kernel
theorem dX10_gates_99 : decode cX10_gates 99 = .ok (.iconst 1, 1) := by decide +kernel
theorem dX10_gates_100 : decode cX10_gates 100 = .ok (.lconst 1, 1) := by decide +kernel
theorem dX10_gates_101 : decode cX10_gates 101 = .ok (.invokevirtual 76, 3) := by decide +kernel
theorem dX10_gates_104 : decode cX10_gates 104 = .ok (.aload_n 0, 1) := by decide +kernel
theorem dX10_gates_105 : decode cX10_gates 105 = .ok (.bipush 6, 2) := by decide +kernel
theorem dX10_gates_107 : decode cX10_gates 107 = .ok (.iconst 3, 1) := by decide +kernel
theorem dX10_gates_108 : decode cX10_gates 108 = .ok (.iconst 2, 1) := by decide +kernel
theorem dX10_gates_109 : decode cX10_gates 109 = .ok (.lconst 1, 1) := by decide +kernel
theorem dX10_gates_110 : decode cX10_gates 110 = .ok (.invokevirtual 76, 3) := by decide +kernel
theorem dX10_gates_113 : decode cX10_gates 113 = .ok (.aload_n 0, 1) := by decide +kernel
theorem dX10_gates_114 : decode cX10_gates 114 = .ok (.bipush 8, 2) := by decide +kernel
theorem dX10_gates_116 : decode cX10_gates 116 = .ok (.iconst 3, 1) := by decide +kernel
theorem dX10_gates_117 : decode cX10_gates 117 = .ok (.iconst 0, 1) := by decide +kernel
theorem dX10_gates_118 : decode cX10_gates 118 = .ok (.ldc2_w 90, 3) := by decide +kernel
theorem dX10_gates_121 : decode cX10_gates 121 = .ok (.invokevirtual 76, 3) := by decide +kernel
theorem dX10_gates_124 : decode cX10_gates 124 = .ok (.aload_n 0, 1) := by decide +kernel
theorem dX10_gates_125 : decode cX10_gates 125 = .ok (.bipush 9, 2) := by decide +kernel
theorem dX10_gates_127 : decode cX10_gates 127 = .ok (.iconst 0, 1) := by decide +kernel
theorem dX10_gates_128 : decode cX10_gates 128 = .ok (.iconst 1, 1) := by decide +kernel
theorem dX10_gates_129 : decode cX10_gates 129 = .ok (.lconst 1, 1) := by decide +kernel
theorem dX10_gates_130 : decode cX10_gates 130 = .ok (.invokevirtual 76, 3) := by decide +kernel
theorem dX10_gates_133 : decode cX10_gates 133 = .ok (.aload_n 0, 1) := by decide +kernel
theorem dX10_gates_134 : decode cX10_gates 134 = .ok (.bipush 9, 2) := by decide +kernel
theorem dX10_gates_136 : decode cX10_gates 136 = .ok (.iconst 3, 1) := by decide +kernel
theorem dX10_gates_137 : decode cX10_gates 137 = .ok (.iconst 1, 1) := by decide +kernel
theorem dX10_gates_138 : decode cX10_gates 138 = .ok (.lconst 1, 1) := by decide +kernel
theorem dX10_gates_139 : decode cX10_gates 139 = .ok (.invokevirtual 76, 3) := by decide +kernel
theorem dX10_gates_142 : decode cX10_gates 142 = .ok (.aload_n 0, 1) := by decide +kernel
theorem dX10_gates_143 : decode cX10_gates 143 = .ok (.bipush 10, 2) := by decide +kernel
theorem dX10_gates_145 : decode cX10_gates 145 = .ok (.iconst 3, 1) := by decide +kernel
theorem dX10_gates_146 : decode cX10_gates 146 = .ok (.iconst 3, 1) := by decide +kernel
theorem dX10_gates_147 : decode cX10_gates 147 = .ok (.ldc2_w 90, 3) := by decide +kernel
theorem dX10_gates_150 : decode cX10_gates 150 = .ok (.invokevirtual 76, 3) := by decide +kernel
theorem dX10_gates_153 : decode cX10_gates 153 = .ok (.aload_n 0, 1) := by decide +kernel
theorem dX10_gates_154 : decode cX10_gates 154 = .ok (.bipush 7, 2) := by decide +kernel
theorem dX10_gates_156 : decode cX10_gates 156 = .ok (.bipush 11, 2) := by decide +kernel
theorem dX10_gates_158 : decode cX10_gates 158 = .ok (.invokevirtual 83, 3) := by decide +kernel
theorem dX10_gates_161 : decode cX10_gates 161 = .ok (.aload_n 0, 1) := by decide +kernel
theorem dX10_gates_162 : decode cX10_gates 162 = .ok (.bipush 12, 2) := by decide +kernel
theorem dX10_gates_164 : decode cX10_gates 164 = .ok (.iconst 1, 1) := by decide +kernel
theorem dX10_gates_165 : decode cX10_gates 165 = .ok (.iconst 2, 1) := by decide +kernel
theorem dX10_gates_166 : decode cX10_gates 166 = .ok (.ldc2_w 90, 3) := by decide +kernel
theorem dX10_gates_169 : decode cX10_gates 169 = .ok (.invokevirtual 76, 3) := by decide +kernel
theorem dX10_gates_172 : decode cX10_gates 172 = .ok (.aload_n 0, 1) := by decide +kernel
theorem dX10_gates_173 : decode cX10_gates 173 = .ok (.bipush 12, 2) := by decide +kernel
theorem dX10_gates_175 : decode cX10_gates 175 = .ok (.iconst 2, 1) := by decide +kernel
theorem dX10_gates_176 : decode cX10_gates 176 = .ok (.iconst 2, 1) := by decide +kernel
theorem dX10_gates_177 : decode cX10_gates 177 = .ok (.lconst 1, 1) := by decide +kernel
theorem dX10_gates_178 : decode cX10_gates 178 = .ok (.invokevirtual 76, 3) := by decide +kernel
theorem dX10_gates_181 : decode cX10_gates 181 = .ok (.aload_n 0, 1) := by decide +kernel
theorem dX10_gates_182 : decode cX10_gates 182 = .ok (.bipush 8, 2) := by decide +kernel
theorem dX10_gates_184 : decode cX10_gates 184 = .ok (.bipush 13, 2) := by decide +kernel
theorem dX10_gates_186 : decode cX10_gates 186 = .ok (.invokevirtual 83, 3) := by decide +kernel
theorem dX10_gates_189 : decode cX10_gates 189 = .ok (.return_, 1) := by decide +kernel
theorem dX10_isOver_0 : decode cX10_isOver 0 = .ok (.iconst 1, 1) := by decide +kernel
theorem dX10_isOver_1 : decode cX10_isOver 1 = .ok (.istore_n 2, 1) := by decide +kernel
theorem dX10_isOver_2 : decode cX10_isOver 2 = .ok (.iconst 0, 1) := by decide +kernel
theorem dX10_isOver_3 : decode cX10_isOver 3 = .ok (.istore_n 3, 1) := by decide +kernel
theorem dX10_isOver_4 : decode cX10_isOver 4 = .ok (.iload_n 3, 1) := by decide +kernel
theorem dX10_isOver_5 : decode cX10_isOver 5 = .ok (.iconst 4, 1) := by decide +kernel
theorem dX10_isOver_6 : decode cX10_isOver 6 = .ok (.if_icmp .ge 65, 3) := by decide +kernel
theorem dX10_isOver_9 : decode cX10_isOver 9 = .ok (.iload_n 2, 1) := by decide +kernel
theorem dX10_isOver_10 : decode cX10_isOver 10 = .ok (.aload_n 0, 1) := by decide +kernel
theorem dX10_isOver_11 : decode cX10_isOver 11 = .ok (.iload_n 1, 1) := by decide +kernel
theorem dX10_isOver_12 : decode cX10_isOver 12 = .ok (.iload_n 3, 1) := by decide +kernel
theorem dX10_isOver_13 : decode cX10_isOver 13 = .ok (.iconst 0, 1) := by decide +kernel
theorem dX10_isOver_14 : decode cX10_isOver 14 = .ok (.invokevirtual 92, 3) := by decide +kernel
theorem dX10_isOver_17 : decode cX10_isOver 17 = .ok (.aload_n 0, 1) := by decide +kernel
theorem dX10_isOver_18 : decode cX10_isOver 18 = .ok (.iload_n 1, 1) := by decide +kernel
theorem dX10_isOver_19 : decode cX10_isOver 19 = .ok (.iload_n 3, 1) := by decide +kernel
theorem dX10_isOver_20 : decode cX10_isOver 20 = .ok (.iconst 2, 1) := by decide +kernel
theorem dX10_isOver_21 : decode cX10_isOver 21 = .ok (.invokevirtual 92, 3) := by decide +kernel
theorem dX10_isOver_24 : decode cX10_isOver 24 = .ok (.ladd, 1) := by decide +kernel
theorem dX10_isOver_25 : decode cX10_isOver 25 = .ok (.ldc2_w 96, 3) := by decide +kernel
theorem dX10_isOver_28 : decode cX10_isOver 28 = .ok (.lrem, 1) := by decide +kernel
theorem dX10_isOver_29 : decode cX10_isOver 29 = .ok (.lconst 0, 1) := by decide +kernel
theorem dX10_isOver_30 : decode cX10_isOver 30 = .ok (.lcmp, 1) := by decide +kernel
theorem dX10_isOver_31 : decode cX10_isOver 31 = .ok (.ifCond .ne 31, 3) := by decide +kernel
theorem dX10_isOver_34 : decode cX10_isOver 34 = .ok (.aload_n 0, 1) := by decide +kernel
theorem dX10_isOver_35 : decode cX10_isOver 35 = .ok (.iload_n 1, 1) := by decide +kernel
theorem dX10_isOver_36 : decode cX10_isOver 36 = .ok (.iload_n 3, 1) := by decide +kernel
theorem dX10_isOver_37 : decode cX10_isOver 37 = .ok (.iconst 1, 1) := by decide +kernel
theorem dX10_isOver_38 : decode cX10_isOver 38 = .ok (.invokevirtual 92, 3) := by decide +kernel
theorem dX10_isOver_41 : decode cX10_isOver 41 = .ok (.aload_n 0, 1) := by decide +kernel
theorem dX10_isOver_42 : decode cX10_isOver 42 = .ok (.iload_n 1, 1) := by decide +kernel
theorem dX10_isOver_43 : decode cX10_isOver 43 = .ok (.iload_n 3, 1) := by decide +kernel
theorem dX10_isOver_44 : decode cX10_isOver 44 = .ok (.iconst 3, 1) := by decide +kernel
theorem dX10_isOver_45 : decode cX10_isOver 45 = .ok (.invokevirtual 92, 3) := by decide +kernel
theorem dX10_isOver_48 : decode cX10_isOver 48 = .ok (.ladd, 1) := by decide +kernel
theorem dX10_isOver_49 : decode cX10_isOver 49 = .ok (.ldc2_w 96, 3) := by decide +kernel
theorem dX10_isOver_52 : decode cX10_isOver 52 = .ok (.lrem, 1) := by decide +kernel
theorem dX10_isOver_53 : decode cX10_isOver 53 = .ok (.lconst 0, 1) := by decide +kernel
theorem dX10_isOver_54 : decode cX10_isOver 54 = .ok (.lcmp, 1) := by decide +kernel
theorem dX10_isOver_55 : decode cX10_isOver 55 = .ok (.ifCond .ne 7, 3) := by decide +kernel
theorem dX10_isOver_58 : decode cX10_isOver 58 = .ok (.iconst 1, 1) := by decide +kernel
theorem dX10_isOver_59 : decode cX10_isOver 59 = .ok (.goto 4, 3) := by decide +kernel
theorem dX10_isOver_62 : decode cX10_isOver 62 = .ok (.iconst 0, 1) := by decide +kernel
theorem dX10_isOver_63 : decode cX10_isOver 63 = .ok (.iand, 1) := by decide +kernel
theorem dX10_isOver_64 : decode cX10_isOver 64 = .ok (.istore_n 2, 1) := by decide +kernel
theorem dX10_isOver_65 : decode cX10_isOver 65 = .ok (.iinc 3 1, 3) := by decide +kernel
theorem dX10_isOver_68 : decode cX10_isOver 68 = .ok (.goto (-64), 3) := by decide +kernel
theorem dX10_isOver_71 : decode cX10_isOver 71 = .ok (.iload_n 2, 1) := by decide +kernel
theorem dX10_isOver_72 : decode cX10_isOver 72 = .ok (.ireturn, 1) := by decide +kernel
theorem dX10_lowers_0 : decode cX10_lowers 0 = .ok (.aload_n 0, 1) := by decide +kernel
theorem dX10_lowers_1 : decode cX10_lowers 1 = .ok (.iload_n 1, 1) := by decide +kernel
theorem dX10_lowers_2 : decode cX10_lowers 2 = .ok (.invokevirtual 98, 3) := by decide +kernel
theorem dX10_lowers_5 : decode cX10_lowers 5 = .ok (.ifCond .le 140, 3) := by decide +kernel
theorem dX10_lowers_8 : decode cX10_lowers 8 = .ok (.aload_n 0, 1) := by decide +kernel
theorem dX10_lowers_9 : decode cX10_lowers 9 = .ok (.iload_n 1, 1) := by decide +kernel
theorem dX10_lowers_10 : decode cX10_lowers 10 = .ok (.invokevirtual 102, 3) := by decide +kernel
theorem dX10_lowers_13 : decode cX10_lowers 13 = .ok (.ifCond .eq 132, 3) := by decide +kernel
theorem dX10_lowers_16 : decode cX10_lowers 16 = .ok (.iconst 0, 1) := by decide +kernel
theorem dX10_lowers_17 : decode cX10_lowers 17 = .ok (.istore_n 2, 1) := by decide +kernel
theorem dX10_lowers_18 : decode cX10_lowers 18 = .ok (.iload_n 2, 1) := by decide +kernel
theorem dX10_lowers_19 : decode cX10_lowers 19 = .ok (.iconst 4, 1) := by decide +kernel
theorem dX10_lowers_20 : decode cX10_lowers 20 = .ok (.if_icmp .ge 106, 3) := by decide +kernel
theorem dX10_lowers_23 : decode cX10_lowers 23 = .ok (.aload_n 0, 1) := by decide +kernel
theorem dX10_lowers_24 : decode cX10_lowers 24 = .ok (.iload_n 1, 1) := by decide +kernel
theorem dX10_lowers_25 : decode cX10_lowers 25 = .ok (.iload_n 2, 1) := by decide +kernel
theorem dX10_lowers_26 : decode cX10_lowers 26 = .ok (.iconst 0, 1) := by decide +kernel
theorem dX10_lowers_27 : decode cX10_lowers 27 = .ok (.invokevirtual 92, 3) := by decide +kernel
theorem dX10_lowers_30 : decode cX10_lowers 30 = .ok (.lstore_n 3, 1) := by decide +kernel
theorem dX10_lowers_31 : decode cX10_lowers 31 = .ok (.aload_n 0, 1) := by decide +kernel
theorem dX10_lowers_32 : decode cX10_lowers 32 = .ok (.iload_n 1, 1) := by decide +kernel
theorem dX10_lowers_33 : decode cX10_lowers 33 = .ok (.iload_n 2, 1) := by decide +kernel
theorem dX10_lowers_34 : decode cX10_lowers 34 = .ok (.iconst 1, 1) := by decide +kernel
theorem dX10_lowers_35 : decode cX10_lowers 35 = .ok (.invokevirtual 92, 3) := by decide +kernel
theorem dX10_lowers_38 : decode cX10_lowers 38 = .ok (.lstore 5, 2) := by decide +kernel
theorem dX10_lowers_40 : decode cX10_lowers 40 = .ok (.aload_n 0, 1) := by decide +kernel
theorem dX10_lowers_41 : decode cX10_lowers 41 = .ok (.iload_n 1, 1) := by decide +kernel
theorem dX10_lowers_42 : decode cX10_lowers 42 = .ok (.iload_n 2, 1) := by decide +kernel
theorem dX10_lowers_43 : decode cX10_lowers 43 = .ok (.iconst 2, 1) := by decide +kernel
theorem dX10_lowers_44 : decode cX10_lowers 44 = .ok (.invokevirtual 92, 3) := by decide +kernel
theorem dX10_lowers_47 : decode cX10_lowers 47 = .ok (.lstore 7, 2) := by decide +kernel
theorem dX10_lowers_49 : decode cX10_lowers 49 = .ok (.aload_n 0, 1) := by decide +kernel
theorem dX10_lowers_50 : decode cX10_lowers 50 = .ok (.iload_n 1, 1) := by decide +kernel
theorem dX10_lowers_51 : decode cX10_lowers 51 = .ok (.iload_n 2, 1) := by decide +kernel
theorem dX10_lowers_52 : decode cX10_lowers 52 = .ok (.iconst 3, 1) := by decide +kernel
theorem dX10_lowers_53 : decode cX10_lowers 53 = .ok (.invokevirtual 92, 3) := by decide +kernel
theorem dX10_lowers_56 : decode cX10_lowers 56 = .ok (.lstore 9, 2) := by decide +kernel
theorem dX10_lowers_58 : decode cX10_lowers 58 = .ok (.aload_n 0, 1) := by decide +kernel
theorem dX10_lowers_59 : decode cX10_lowers 59 = .ok (.iload_n 1, 1) := by decide +kernel
theorem dX10_lowers_60 : decode cX10_lowers 60 = .ok (.iload_n 2, 1) := by decide +kernel
theorem dX10_lowers_61 : decode cX10_lowers 61 = .ok (.iconst 0, 1) := by decide +kernel
theorem dX10_lowers_62 : decode cX10_lowers 62 = .ok (.lload 5, 2) := by decide +kernel
theorem dX10_lowers_64 : decode cX10_lowers 64 = .ok (.lload 9, 2) := by decide +kernel
theorem dX10_lowers_66 : decode cX10_lowers 66 = .ok (.lsub, 1) := by decide +kernel
theorem dX10_lowers_67 : decode cX10_lowers 67 = .ok (.ldc2_w 96, 3) := by decide +kernel
theorem dX10_lowers_70 : decode cX10_lowers 70 = .ok (.ldiv, 1) := by decide +kernel
theorem dX10_lowers_71 : decode cX10_lowers 71 = .ok (.invokevirtual 76, 3) := by decide +kernel
theorem dX10_lowers_74 : decode cX10_lowers 74 = .ok (.aload_n 0, 1) := by decide +kernel
theorem dX10_lowers_75 : decode cX10_lowers 75 = .ok (.iload_n 1, 1) := by decide +kernel
theorem dX10_lowers_76 : decode cX10_lowers 76 = .ok (.iload_n 2, 1) := by decide +kernel
theorem dX10_lowers_77 : decode cX10_lowers 77 = .ok (.iconst 1, 1) := by decide +kernel
theorem dX10_lowers_78 : decode cX10_lowers 78 = .ok (.lload_n 3, 1) := by decide +kernel
theorem dX10_lowers_79 : decode cX10_lowers 79 = .ok (.lload 7, 2) := by decide +kernel
theorem dX10_lowers_81 : decode cX10_lowers 81 = .ok (.ladd, 1) := by decide +kernel
theorem dX10_lowers_82 : decode cX10_lowers 82 = .ok (.ldc2_w 96, 3) := by decide +kernel
theorem dX10_lowers_85 : decode cX10_lowers 85 = .ok (.ldiv, 1) := by decide +kernel
theorem dX10_lowers_86 : decode cX10_lowers 86 = .ok (.invokevirtual 76, 3) := by decide +kernel
theorem dX10_lowers_89 : decode cX10_lowers 89 = .ok (.aload_n 0, 1) := by decide +kernel
theorem dX10_lowers_90 : decode cX10_lowers 90 = .ok (.iload_n 1, 1) := by decide +kernel
theorem dX10_lowers_91 : decode cX10_lowers 91 = .ok (.iload_n 2, 1) := by decide +kernel
theorem dX10_lowers_92 : decode cX10_lowers 92 = .ok (.iconst 2, 1) := by decide +kernel
theorem dX10_lowers_93 : decode cX10_lowers 93 = .ok (.lload 5, 2) := by decide +kernel
theorem dX10_lowers_95 : decode cX10_lowers 95 = .ok (.lload 9, 2) := by decide +kernel
theorem dX10_lowers_97 : decode cX10_lowers 97 = .ok (.ladd, 1) := by decide +kernel
theorem dX10_lowers_98 : decode cX10_lowers 98 = .ok (.ldc2_w 96, 3) := by decide +kernel
theorem dX10_lowers_101 : decode cX10_lowers 101 = .ok (.ldiv, 1) := by decide +kernel
theorem dX10_lowers_102 : decode cX10_lowers 102 = .ok (.invokevirtual 76, 3) := by decide +kernel
theorem dX10_lowers_105 : decode cX10_lowers 105 = .ok (.aload_n 0, 1) := by decide +kernel
theorem dX10_lowers_106 : decode cX10_lowers 106 = .ok (.iload_n 1, 1) := by decide +kernel
theorem dX10_lowers_107 : decode cX10_lowers 107 = .ok (.iload_n 2, 1) := by decide +kernel
theorem dX10_lowers_108 : decode cX10_lowers 108 = .ok (.iconst 3, 1) := by decide +kernel
theorem dX10_lowers_109 : decode cX10_lowers 109 = .ok (.lload 7, 2) := by decide +kernel
theorem dX10_lowers_111 : decode cX10_lowers 111 = .ok (.lload_n 3, 1) := by decide +kernel
theorem dX10_lowers_112 : decode cX10_lowers 112 = .ok (.lsub, 1) := by decide +kernel
theorem dX10_lowers_113 : decode cX10_lowers 113 = .ok (.ldc2_w 96, 3) := by decide +kernel
theorem dX10_lowers_116 : decode cX10_lowers 116 = .ok (.ldiv, 1) := by decide +kernel
theorem dX10_lowers_117 : decode cX10_lowers 117 = .ok (.invokevirtual 76, 3) := by decide +kernel
theorem dX10_lowers_120 : decode cX10_lowers 120 = .ok (.iinc 2 1, 3) := by decide +kernel
theorem dX10_lowers_123 : decode cX10_lowers 123 = .ok (.goto (-105), 3) := by decide +kernel
theorem dX10_lowers_126 : decode cX10_lowers 126 = .ok (.aload_n 0, 1) := by decide +kernel
theorem dX10_lowers_127 : decode cX10_lowers 127 = .ok (.getfield 11, 3) := by decide +kernel
theorem dX10_lowers_130 : decode cX10_lowers 130 = .ok (.bipush 17, 2) := by decide +kernel
theorem dX10_lowers_132 : decode cX10_lowers 132 = .ok (.iload_n 1, 1) := by decide +kernel
theorem dX10_lowers_133 : decode cX10_lowers 133 = .ok (.imul, 1) := by decide +kernel
theorem dX10_lowers_134 : decode cX10_lowers 134 = .ok (.bipush 16, 2) := by decide +kernel
theorem dX10_lowers_136 : decode cX10_lowers 136 = .ok (.iadd, 1) := by decide +kernel
theorem dX10_lowers_137 : decode cX10_lowers 137 = .ok (.dup2, 1) := by decide +kernel
theorem dX10_lowers_138 : decode cX10_lowers 138 = .ok (.laload, 1) := by decide +kernel
theorem dX10_lowers_139 : decode cX10_lowers 139 = .ok (.lconst 1, 1) := by decide +kernel
theorem dX10_lowers_140 : decode cX10_lowers 140 = .ok (.lsub, 1) := by decide +kernel
theorem dX10_lowers_141 : decode cX10_lowers 141 = .ok (.lastore, 1) := by decide +kernel
theorem dX10_lowers_142 : decode cX10_lowers 142 = .ok (.goto (-142), 3) := by decide +kernel
theorem dX10_lowers_145 : decode cX10_lowers 145 = .ok (.return_, 1) := by decide +kernel
theorem dX10_adds_0 : decode cX10_adds 0 = .ok (.iconst 0, 1) := by decide +kernel
theorem dX10_adds_1 : decode cX10_adds 1 = .ok (.istore 7, 2) := by decide +kernel
theorem dX10_adds_3 : decode cX10_adds 3 = .ok (.iload 7, 2) := by decide +kernel
theorem dX10_adds_5 : decode cX10_adds 5 = .ok (.iconst 4, 1) := by decide +kernel
theorem dX10_adds_6 : decode cX10_adds 6 = .ok (.if_icmp .ge 91, 3) := by decide +kernel
theorem dX10_adds_9 : decode cX10_adds 9 = .ok (.iconst 0, 1) := by decide +kernel
theorem dX10_adds_10 : decode cX10_adds 10 = .ok (.istore 8, 2) := by decide +kernel
theorem dX10_adds_12 : decode cX10_adds 12 = .ok (.iload 8, 2) := by decide +kernel
theorem dX10_adds_14 : decode cX10_adds 14 = .ok (.iconst 4, 1) := by decide +kernel
theorem dX10_adds_15 : decode cX10_adds 15 = .ok (.if_icmp .ge 76, 3) := by decide +kernel
theorem dX10_adds_18 : decode cX10_adds 18 = .ok (.aload_n 0, 1) := by decide +kernel
theorem dX10_adds_19 : decode cX10_adds 19 = .ok (.iload_n 3, 1) := by decide +kernel
theorem dX10_adds_20 : decode cX10_adds 20 = .ok (.iload 4, 2) := by decide +kernel
theorem dX10_adds_22 : decode cX10_adds 22 = .ok (.iload 7, 2) := by decide +kernel
theorem dX10_adds_24 : decode cX10_adds 24 = .ok (.invokevirtual 92, 3) := by decide +kernel
theorem dX10_adds_27 : decode cX10_adds 27 = .ok (.aload_n 0, 1) := by decide +kernel
theorem dX10_adds_28 : decode cX10_adds 28 = .ok (.iload 5, 2) := by decide +kernel
theorem dX10_adds_30 : decode cX10_adds 30 = .ok (.iload 6, 2) := by decide +kernel
theorem dX10_adds_32 : decode cX10_adds 32 = .ok (.iload 8, 2) := by decide +kernel
theorem dX10_adds_34 : decode cX10_adds 34 = .ok (.invokevirtual 92, 3) := by decide +kernel
theorem dX10_adds_37 : decode cX10_adds 37 = .ok (.lmul, 1) := by decide +kernel
theorem dX10_adds_38 : decode cX10_adds 38 = .ok (.lstore 9, 2) := by decide +kernel
theorem dX10_adds_40 : decode cX10_adds 40 = .ok (.iload 7, 2) := by decide +kernel
theorem dX10_adds_42 : decode cX10_adds 42 = .ok (.iload 8, 2) := by decide +kernel
theorem dX10_adds_44 : decode cX10_adds 44 = .ok (.iadd, 1) := by decide +kernel
theorem dX10_adds_45 : decode cX10_adds 45 = .ok (.iconst 4, 1) := by decide +kernel
theorem dX10_adds_46 : decode cX10_adds 46 = .ok (.irem, 1) := by decide +kernel
theorem dX10_adds_47 : decode cX10_adds 47 = .ok (.istore 11, 2) := by decide +kernel
theorem dX10_adds_49 : decode cX10_adds 49 = .ok (.aload_n 0, 1) := by decide +kernel
theorem dX10_adds_50 : decode cX10_adds 50 = .ok (.getfield 11, 3) := by decide +kernel
theorem dX10_adds_53 : decode cX10_adds 53 = .ok (.bipush 17, 2) := by decide +kernel
theorem dX10_adds_55 : decode cX10_adds 55 = .ok (.iload_n 1, 1) := by decide +kernel
theorem dX10_adds_56 : decode cX10_adds 56 = .ok (.imul, 1) := by decide +kernel
theorem dX10_adds_57 : decode cX10_adds 57 = .ok (.iconst 4, 1) := by decide +kernel
theorem dX10_adds_58 : decode cX10_adds 58 = .ok (.iload_n 2, 1) := by decide +kernel
theorem dX10_adds_59 : decode cX10_adds 59 = .ok (.imul, 1) := by decide +kernel
theorem dX10_adds_60 : decode cX10_adds 60 = .ok (.iadd, 1) := by decide +kernel
theorem dX10_adds_61 : decode cX10_adds 61 = .ok (.iload 11, 2) := by decide +kernel
theorem dX10_adds_63 : decode cX10_adds 63 = .ok (.iadd, 1) := by decide +kernel
theorem dX10_adds_64 : decode cX10_adds 64 = .ok (.dup2, 1) := by decide +kernel
theorem dX10_adds_65 : decode cX10_adds 65 = .ok (.laload, 1) := by decide +kernel
theorem dX10_adds_66 : decode cX10_adds 66 = .ok (.iload 7, 2) := by decide +kernel
theorem dX10_adds_68 : decode cX10_adds 68 = .ok (.iload 8, 2) := by decide +kernel
theorem dX10_adds_70 : decode cX10_adds 70 = .ok (.iadd, 1) := by decide +kernel
theorem dX10_adds_71 : decode cX10_adds 71 = .ok (.iconst 4, 1) := by decide +kernel
theorem dX10_adds_72 : decode cX10_adds 72 = .ok (.if_icmp .ge 8, 3) := by decide +kernel
theorem dX10_adds_75 : decode cX10_adds 75 = .ok (.lload 9, 2) := by decide +kernel
theorem dX10_adds_77 : decode cX10_adds 77 = .ok (.goto 6, 3) := by decide +kernel
theorem dX10_adds_80 : decode cX10_adds 80 = .ok (.lload 9, 2) := by decide +kernel
theorem dX10_adds_82 : decode cX10_adds 82 = .ok (.lneg, 1) := by decide +kernel
theorem dX10_adds_83 : decode cX10_adds 83 = .ok (.ladd, 1) := by decide +kernel
theorem dX10_adds_84 : decode cX10_adds 84 = .ok (.lastore, 1) := by decide +kernel
theorem dX10_adds_85 : decode cX10_adds 85 = .ok (.iinc 8 1, 3) := by decide +kernel
theorem dX10_adds_88 : decode cX10_adds 88 = .ok (.goto (-76), 3) := by decide +kernel
theorem dX10_adds_91 : decode cX10_adds 91 = .ok (.iinc 7 1, 3) := by decide +kernel
theorem dX10_adds_94 : decode cX10_adds 94 = .ok (.goto (-91), 3) := by decide +kernel
theorem dX10_adds_97 : decode cX10_adds 97 = .ok (.return_, 1) := by decide +kernel
theorem dX10_plainly_0 : decode cX10_plainly 0 = .ok (.iconst 0, 1) := by decide +kernel
theorem dX10_plainly_1 : decode cX10_plainly 1 = .ok (.istore 4, 2) := by decide +kernel
theorem dX10_plainly_3 : decode cX10_plainly 3 = .ok (.iload 4, 2) := by decide +kernel
theorem dX10_plainly_5 : decode cX10_plainly 5 = .ok (.bipush 17, 2) := by decide +kernel
theorem dX10_plainly_7 : decode cX10_plainly 7 = .ok (.if_icmp .ge 21, 3) := by decide +kernel
theorem dX10_plainly_10 : decode cX10_plainly 10 = .ok (.aload_n 0, 1) := by decide +kernel
theorem dX10_plainly_11 : decode cX10_plainly 11 = .ok (.getfield 11, 3) := by decide +kernel
theorem dX10_plainly_14 : decode cX10_plainly 14 = .ok (.sipush 323, 3) := by decide +kernel
theorem dX10_plainly_17 : decode cX10_plainly 17 = .ok (.iload 4, 2) := by decide +kernel
theorem dX10_plainly_19 : decode cX10_plainly 19 = .ok (.iadd, 1) := by decide +kernel
theorem dX10_plainly_20 : decode cX10_plainly 20 = .ok (.lconst 0, 1) := by decide +kernel
theorem dX10_plainly_21 : decode cX10_plainly 21 = .ok (.lastore, 1) := by decide +kernel
theorem dX10_plainly_22 : decode cX10_plainly 22 = .ok (.iinc 4 1, 3) := by decide +kernel
theorem dX10_plainly_25 : decode cX10_plainly 25 = .ok (.goto (-22), 3) := by decide +kernel
theorem dX10_plainly_28 : decode cX10_plainly 28 = .ok (.iconst 0, 1) := by decide +kernel
theorem dX10_plainly_29 : decode cX10_plainly 29 = .ok (.istore 4, 2) := by decide +kernel
theorem dX10_plainly_31 : decode cX10_plainly 31 = .ok (.iload 4, 2) := by decide +kernel
theorem dX10_plainly_33 : decode cX10_plainly 33 = .ok (.iconst 2, 1) := by decide +kernel
theorem dX10_plainly_34 : decode cX10_plainly 34 = .ok (.if_icmp .ge 70, 3) := by decide +kernel
theorem dX10_plainly_37 : decode cX10_plainly 37 = .ok (.iconst 0, 1) := by decide +kernel
theorem dX10_plainly_38 : decode cX10_plainly 38 = .ok (.istore 5, 2) := by decide +kernel
theorem dX10_plainly_40 : decode cX10_plainly 40 = .ok (.iload 5, 2) := by decide +kernel
theorem dX10_plainly_42 : decode cX10_plainly 42 = .ok (.iconst 2, 1) := by decide +kernel
theorem dX10_plainly_43 : decode cX10_plainly 43 = .ok (.if_icmp .ge 55, 3) := by decide +kernel
theorem dX10_plainly_46 : decode cX10_plainly 46 = .ok (.aload_n 0, 1) := by decide +kernel
theorem dX10_plainly_47 : decode cX10_plainly 47 = .ok (.bipush 19, 2) := by decide +kernel
theorem dX10_plainly_49 : decode cX10_plainly 49 = .ok (.iconst 2, 1) := by decide +kernel
theorem dX10_plainly_50 : decode cX10_plainly 50 = .ok (.iload 4, 2) := by decide +kernel
theorem dX10_plainly_52 : decode cX10_plainly 52 = .ok (.imul, 1) := by decide +kernel
theorem dX10_plainly_53 : decode cX10_plainly 53 = .ok (.iload 5, 2) := by decide +kernel
theorem dX10_plainly_55 : decode cX10_plainly 55 = .ok (.iadd, 1) := by decide +kernel
theorem dX10_plainly_56 : decode cX10_plainly 56 = .ok (.iload_n 2, 1) := by decide +kernel
theorem dX10_plainly_57 : decode cX10_plainly 57 = .ok (.iconst 2, 1) := by decide +kernel
theorem dX10_plainly_58 : decode cX10_plainly 58 = .ok (.iload 4, 2) := by decide +kernel
theorem dX10_plainly_60 : decode cX10_plainly 60 = .ok (.imul, 1) := by decide +kernel
theorem dX10_plainly_61 : decode cX10_plainly 61 = .ok (.iload_n 3, 1) := by decide +kernel
theorem dX10_plainly_62 : decode cX10_plainly 62 = .ok (.iload 5, 2) := by decide +kernel
theorem dX10_plainly_64 : decode cX10_plainly 64 = .ok (.invokevirtual 106, 3) := by decide +kernel
theorem dX10_plainly_67 : decode cX10_plainly 67 = .ok (.aload_n 0, 1) := by decide +kernel
theorem dX10_plainly_68 : decode cX10_plainly 68 = .ok (.bipush 19, 2) := by decide +kernel
theorem dX10_plainly_70 : decode cX10_plainly 70 = .ok (.iconst 2, 1) := by decide +kernel
theorem dX10_plainly_71 : decode cX10_plainly 71 = .ok (.iload 4, 2) := by decide +kernel
theorem dX10_plainly_73 : decode cX10_plainly 73 = .ok (.imul, 1) := by decide +kernel
theorem dX10_plainly_74 : decode cX10_plainly 74 = .ok (.iload 5, 2) := by decide +kernel
theorem dX10_plainly_76 : decode cX10_plainly 76 = .ok (.iadd, 1) := by decide +kernel
theorem dX10_plainly_77 : decode cX10_plainly 77 = .ok (.iload_n 2, 1) := by decide +kernel
theorem dX10_plainly_78 : decode cX10_plainly 78 = .ok (.iconst 2, 1) := by decide +kernel
theorem dX10_plainly_79 : decode cX10_plainly 79 = .ok (.iload 4, 2) := by decide +kernel
theorem dX10_plainly_81 : decode cX10_plainly 81 = .ok (.imul, 1) := by decide +kernel
theorem dX10_plainly_82 : decode cX10_plainly 82 = .ok (.iconst 1, 1) := by decide +kernel
theorem dX10_plainly_83 : decode cX10_plainly 83 = .ok (.iadd, 1) := by decide +kernel
theorem dX10_plainly_84 : decode cX10_plainly 84 = .ok (.iload_n 3, 1) := by decide +kernel
theorem dX10_plainly_85 : decode cX10_plainly 85 = .ok (.iconst 2, 1) := by decide +kernel
theorem dX10_plainly_86 : decode cX10_plainly 86 = .ok (.iload 5, 2) := by decide +kernel
theorem dX10_plainly_88 : decode cX10_plainly 88 = .ok (.iadd, 1) := by decide +kernel
theorem dX10_plainly_89 : decode cX10_plainly 89 = .ok (.invokevirtual 106, 3) := by decide +kernel
theorem dX10_plainly_92 : decode cX10_plainly 92 = .ok (.iinc 5 1, 3) := by decide +kernel
theorem dX10_plainly_95 : decode cX10_plainly 95 = .ok (.goto (-55), 3) := by decide +kernel
theorem dX10_plainly_98 : decode cX10_plainly 98 = .ok (.iinc 4 1, 3) := by decide +kernel
theorem dX10_plainly_101 : decode cX10_plainly 101 = .ok (.goto (-70), 3) := by decide +kernel
theorem dX10_plainly_104 : decode cX10_plainly 104 = .ok (.aload_n 0, 1) := by decide +kernel
theorem dX10_plainly_105 : decode cX10_plainly 105 = .ok (.getfield 11, 3) := by decide +kernel
theorem dX10_plainly_108 : decode cX10_plainly 108 = .ok (.sipush 339, 3) := by decide +kernel
theorem dX10_plainly_111 : decode cX10_plainly 111 = .ok (.aload_n 0, 1) := by decide +kernel
theorem dX10_plainly_112 : decode cX10_plainly 112 = .ok (.iload_n 2, 1) := by decide +kernel
theorem dX10_plainly_113 : decode cX10_plainly 113 = .ok (.invokevirtual 98, 3) := by decide +kernel
theorem dX10_plainly_116 : decode cX10_plainly 116 = .ok (.aload_n 0, 1) := by decide +kernel
theorem dX10_plainly_117 : decode cX10_plainly 117 = .ok (.iload_n 3, 1) := by decide +kernel
theorem dX10_plainly_118 : decode cX10_plainly 118 = .ok (.invokevirtual 98, 3) := by decide +kernel
theorem dX10_plainly_121 : decode cX10_plainly 121 = .ok (.iadd, 1) := by decide +kernel
theorem dX10_plainly_122 : decode cX10_plainly 122 = .ok (.i2l, 1) := by decide +kernel
theorem dX10_plainly_123 : decode cX10_plainly 123 = .ok (.lastore, 1) := by decide +kernel
theorem dX10_plainly_124 : decode cX10_plainly 124 = .ok (.aload_n 0, 1) := by decide +kernel
theorem dX10_plainly_125 : decode cX10_plainly 125 = .ok (.bipush 19, 2) := by decide +kernel
theorem dX10_plainly_127 : decode cX10_plainly 127 = .ok (.iload_n 1, 1) := by decide +kernel
theorem dX10_plainly_128 : decode cX10_plainly 128 = .ok (.invokevirtual 83, 3) := by decide +kernel
theorem dX10_plainly_131 : decode cX10_plainly 131 = .ok (.return_, 1) := by decide +kernel
theorem dX10_product_0 : decode cX10_product 0 = .ok (.aload_n 0, 1) := by decide +kernel
theorem dX10_product_1 : decode cX10_product 1 = .ok (.iload_n 1, 1) := by decide +kernel
theorem dX10_product_2 : decode cX10_product 2 = .ok (.iload_n 2, 1) := by decide +kernel
theorem dX10_product_3 : decode cX10_product 3 = .ok (.iload_n 3, 1) := by decide +kernel
theorem dX10_product_4 : decode cX10_product 4 = .ok (.invokevirtual 110, 3) := by decide +kernel
theorem dX10_product_7 : decode cX10_product 7 = .ok (.aload_n 0, 1) := by decide +kernel
theorem dX10_product_8 : decode cX10_product 8 = .ok (.iload_n 1, 1) := by decide +kernel
theorem dX10_product_9 : decode cX10_product 9 = .ok (.invokevirtual 114, 3) := by decide +kernel
theorem dX10_product_12 : decode cX10_product 12 = .ok (.return_, 1) := by decide +kernel
theorem dX10_turns_0 : decode cX10_turns 0 = .ok (.iconst 0, 1) := by decide +kernel
theorem dX10_turns_1 : decode cX10_turns 1 = .ok (.istore_n 3, 1) := by decide +kernel
theorem dX10_turns_2 : decode cX10_turns 2 = .ok (.iload_n 3, 1) := by decide +kernel
theorem dX10_turns_3 : decode cX10_turns 3 = .ok (.iconst 4, 1) := by decide +kernel
theorem dX10_turns_4 : decode cX10_turns 4 = .ok (.if_icmp .ge 97, 3) := by decide +kernel
theorem dX10_turns_7 : decode cX10_turns 7 = .ok (.iload_n 3, 1) := by decide +kernel
theorem dX10_turns_8 : decode cX10_turns 8 = .ok (.iconst 1, 1) := by decide +kernel
theorem dX10_turns_9 : decode cX10_turns 9 = .ok (.if_icmp .ne 7, 3) := by decide +kernel
theorem dX10_turns_12 : decode cX10_turns 12 = .ok (.iconst 2, 1) := by decide +kernel
theorem dX10_turns_13 : decode cX10_turns 13 = .ok (.goto 13, 3) := by decide +kernel
theorem dX10_turns_16 : decode cX10_turns 16 = .ok (.iload_n 3, 1) := by decide +kernel
theorem dX10_turns_17 : decode cX10_turns 17 = .ok (.iconst 2, 1) := by decide +kernel
theorem dX10_turns_18 : decode cX10_turns 18 = .ok (.if_icmp .ne 7, 3) := by decide +kernel
theorem dX10_turns_21 : decode cX10_turns 21 = .ok (.iconst 1, 1) := by decide +kernel
theorem dX10_turns_22 : decode cX10_turns 22 = .ok (.goto 4, 3) := by decide +kernel
theorem dX10_turns_25 : decode cX10_turns 25 = .ok (.iload_n 3, 1) := by decide +kernel
theorem dX10_turns_26 : decode cX10_turns 26 = .ok (.istore 4, 2) := by decide +kernel
theorem dX10_turns_28 : decode cX10_turns 28 = .ok (.aload_n 0, 1) := by decide +kernel
theorem dX10_turns_29 : decode cX10_turns 29 = .ok (.bipush 19, 2) := by decide +kernel
theorem dX10_turns_31 : decode cX10_turns 31 = .ok (.iload_n 3, 1) := by decide +kernel
theorem dX10_turns_32 : decode cX10_turns 32 = .ok (.iconst 0, 1) := by decide +kernel
theorem dX10_turns_33 : decode cX10_turns 33 = .ok (.aload_n 0, 1) := by decide +kernel
theorem dX10_turns_34 : decode cX10_turns 34 = .ok (.iload_n 1, 1) := by decide +kernel
theorem dX10_turns_35 : decode cX10_turns 35 = .ok (.iload 4, 2) := by decide +kernel
theorem dX10_turns_37 : decode cX10_turns 37 = .ok (.iconst 0, 1) := by decide +kernel
theorem dX10_turns_38 : decode cX10_turns 38 = .ok (.invokevirtual 92, 3) := by decide +kernel
theorem dX10_turns_41 : decode cX10_turns 41 = .ok (.invokevirtual 76, 3) := by decide +kernel
theorem dX10_turns_44 : decode cX10_turns 44 = .ok (.aload_n 0, 1) := by decide +kernel
theorem dX10_turns_45 : decode cX10_turns 45 = .ok (.bipush 19, 2) := by decide +kernel
theorem dX10_turns_47 : decode cX10_turns 47 = .ok (.iload_n 3, 1) := by decide +kernel
theorem dX10_turns_48 : decode cX10_turns 48 = .ok (.iconst 1, 1) := by decide +kernel
theorem dX10_turns_49 : decode cX10_turns 49 = .ok (.aload_n 0, 1) := by decide +kernel
theorem dX10_turns_50 : decode cX10_turns 50 = .ok (.iload_n 1, 1) := by decide +kernel
theorem dX10_turns_51 : decode cX10_turns 51 = .ok (.iload 4, 2) := by decide +kernel
theorem dX10_turns_53 : decode cX10_turns 53 = .ok (.iconst 3, 1) := by decide +kernel
theorem dX10_turns_54 : decode cX10_turns 54 = .ok (.invokevirtual 92, 3) := by decide +kernel
theorem dX10_turns_57 : decode cX10_turns 57 = .ok (.lneg, 1) := by decide +kernel
theorem dX10_turns_58 : decode cX10_turns 58 = .ok (.invokevirtual 76, 3) := by decide +kernel
theorem dX10_turns_61 : decode cX10_turns 61 = .ok (.aload_n 0, 1) := by decide +kernel
theorem dX10_turns_62 : decode cX10_turns 62 = .ok (.bipush 19, 2) := by decide +kernel
theorem dX10_turns_64 : decode cX10_turns 64 = .ok (.iload_n 3, 1) := by decide +kernel
theorem dX10_turns_65 : decode cX10_turns 65 = .ok (.iconst 2, 1) := by decide +kernel
theorem dX10_turns_66 : decode cX10_turns 66 = .ok (.aload_n 0, 1) := by decide +kernel
theorem dX10_turns_67 : decode cX10_turns 67 = .ok (.iload_n 1, 1) := by decide +kernel
theorem dX10_turns_68 : decode cX10_turns 68 = .ok (.iload 4, 2) := by decide +kernel
theorem dX10_turns_70 : decode cX10_turns 70 = .ok (.iconst 2, 1) := by decide +kernel
theorem dX10_turns_71 : decode cX10_turns 71 = .ok (.invokevirtual 92, 3) := by decide +kernel
theorem dX10_turns_74 : decode cX10_turns 74 = .ok (.lneg, 1) := by decide +kernel
theorem dX10_turns_75 : decode cX10_turns 75 = .ok (.invokevirtual 76, 3) := by decide +kernel
theorem dX10_turns_78 : decode cX10_turns 78 = .ok (.aload_n 0, 1) := by decide +kernel
theorem dX10_turns_79 : decode cX10_turns 79 = .ok (.bipush 19, 2) := by decide +kernel
theorem dX10_turns_81 : decode cX10_turns 81 = .ok (.iload_n 3, 1) := by decide +kernel
theorem dX10_turns_82 : decode cX10_turns 82 = .ok (.iconst 3, 1) := by decide +kernel
theorem dX10_turns_83 : decode cX10_turns 83 = .ok (.aload_n 0, 1) := by decide +kernel
theorem dX10_turns_84 : decode cX10_turns 84 = .ok (.iload_n 1, 1) := by decide +kernel
theorem dX10_turns_85 : decode cX10_turns 85 = .ok (.iload 4, 2) := by decide +kernel
theorem dX10_turns_87 : decode cX10_turns 87 = .ok (.iconst 1, 1) := by decide +kernel
theorem dX10_turns_88 : decode cX10_turns 88 = .ok (.invokevirtual 92, 3) := by decide +kernel
theorem dX10_turns_91 : decode cX10_turns 91 = .ok (.lneg, 1) := by decide +kernel
theorem dX10_turns_92 : decode cX10_turns 92 = .ok (.invokevirtual 76, 3) := by decide +kernel
theorem dX10_turns_95 : decode cX10_turns 95 = .ok (.iinc 3 1, 3) := by decide +kernel
theorem dX10_turns_98 : decode cX10_turns 98 = .ok (.goto (-96), 3) := by decide +kernel
theorem dX10_turns_101 : decode cX10_turns 101 = .ok (.aload_n 0, 1) := by decide +kernel
theorem dX10_turns_102 : decode cX10_turns 102 = .ok (.getfield 11, 3) := by decide +kernel
theorem dX10_turns_105 : decode cX10_turns 105 = .ok (.sipush 339, 3) := by decide +kernel
theorem dX10_turns_108 : decode cX10_turns 108 = .ok (.aload_n 0, 1) := by decide +kernel
theorem dX10_turns_109 : decode cX10_turns 109 = .ok (.iload_n 1, 1) := by decide +kernel
theorem dX10_turns_110 : decode cX10_turns 110 = .ok (.invokevirtual 98, 3) := by decide +kernel
theorem dX10_turns_113 : decode cX10_turns 113 = .ok (.i2l, 1) := by decide +kernel
theorem dX10_turns_114 : decode cX10_turns 114 = .ok (.lastore, 1) := by decide +kernel
theorem dX10_turns_115 : decode cX10_turns 115 = .ok (.aload_n 0, 1) := by decide +kernel
theorem dX10_turns_116 : decode cX10_turns 116 = .ok (.bipush 19, 2) := by decide +kernel
theorem dX10_turns_118 : decode cX10_turns 118 = .ok (.iload_n 2, 1) := by decide +kernel
theorem dX10_turns_119 : decode cX10_turns 119 = .ok (.invokevirtual 83, 3) := by decide +kernel
theorem dX10_turns_122 : decode cX10_turns 122 = .ok (.return_, 1) := by decide +kernel
theorem dX10_areSame_0 : decode cX10_areSame 0 = .ok (.iconst 1, 1) := by decide +kernel
theorem dX10_areSame_1 : decode cX10_areSame 1 = .ok (.istore_n 3, 1) := by decide +kernel
theorem dX10_areSame_2 : decode cX10_areSame 2 = .ok (.iconst 0, 1) := by decide +kernel
theorem dX10_areSame_3 : decode cX10_areSame 3 = .ok (.istore 4, 2) := by decide +kernel
theorem dX10_areSame_5 : decode cX10_areSame 5 = .ok (.iload 4, 2) := by decide +kernel
theorem dX10_areSame_7 : decode cX10_areSame 7 = .ok (.bipush 17, 2) := by decide +kernel
theorem dX10_areSame_9 : decode cX10_areSame 9 = .ok (.if_icmp .ge 45, 3) := by decide +kernel
theorem dX10_areSame_12 : decode cX10_areSame 12 = .ok (.iload_n 3, 1) := by decide +kernel
theorem dX10_areSame_13 : decode cX10_areSame 13 = .ok (.aload_n 0, 1) := by decide +kernel
theorem dX10_areSame_14 : decode cX10_areSame 14 = .ok (.getfield 11, 3) := by decide +kernel
theorem dX10_areSame_17 : decode cX10_areSame 17 = .ok (.bipush 17, 2) := by decide +kernel
theorem dX10_areSame_19 : decode cX10_areSame 19 = .ok (.iload_n 1, 1) := by decide +kernel
theorem dX10_areSame_20 : decode cX10_areSame 20 = .ok (.imul, 1) := by decide +kernel
theorem dX10_areSame_21 : decode cX10_areSame 21 = .ok (.iload 4, 2) := by decide +kernel
theorem dX10_areSame_23 : decode cX10_areSame 23 = .ok (.iadd, 1) := by decide +kernel
theorem dX10_areSame_24 : decode cX10_areSame 24 = .ok (.laload, 1) := by decide +kernel
theorem dX10_areSame_25 : decode cX10_areSame 25 = .ok (.aload_n 0, 1) := by decide +kernel
theorem dX10_areSame_26 : decode cX10_areSame 26 = .ok (.getfield 11, 3) := by decide +kernel
theorem dX10_areSame_29 : decode cX10_areSame 29 = .ok (.bipush 17, 2) := by decide +kernel
theorem dX10_areSame_31 : decode cX10_areSame 31 = .ok (.iload_n 2, 1) := by decide +kernel
theorem dX10_areSame_32 : decode cX10_areSame 32 = .ok (.imul, 1) := by decide +kernel
theorem dX10_areSame_33 : decode cX10_areSame 33 = .ok (.iload 4, 2) := by decide +kernel
theorem dX10_areSame_35 : decode cX10_areSame 35 = .ok (.iadd, 1) := by decide +kernel
theorem dX10_areSame_36 : decode cX10_areSame 36 = .ok (.laload, 1) := by decide +kernel
theorem dX10_areSame_37 : decode cX10_areSame 37 = .ok (.lcmp, 1) := by decide +kernel
theorem dX10_areSame_38 : decode cX10_areSame 38 = .ok (.ifCond .ne 7, 3) := by decide +kernel
theorem dX10_areSame_41 : decode cX10_areSame 41 = .ok (.iconst 1, 1) := by decide +kernel
theorem dX10_areSame_42 : decode cX10_areSame 42 = .ok (.goto 4, 3) := by decide +kernel
theorem dX10_areSame_45 : decode cX10_areSame 45 = .ok (.iconst 0, 1) := by decide +kernel
theorem dX10_areSame_46 : decode cX10_areSame 46 = .ok (.iand, 1) := by decide +kernel
theorem dX10_areSame_47 : decode cX10_areSame 47 = .ok (.istore_n 3, 1) := by decide +kernel
theorem dX10_areSame_48 : decode cX10_areSame 48 = .ok (.iinc 4 1, 3) := by decide +kernel
theorem dX10_areSame_51 : decode cX10_areSame 51 = .ok (.goto (-46), 3) := by decide +kernel
theorem dX10_areSame_54 : decode cX10_areSame 54 = .ok (.iload_n 3, 1) := by decide +kernel
theorem dX10_areSame_55 : decode cX10_areSame 55 = .ok (.ireturn, 1) := by decide +kernel
theorem dX10_isRegister_0 : decode cX10_isRegister 0 = .ok (.iload_n 0, 1) := by decide +kernel
theorem dX10_isRegister_1 : decode cX10_isRegister 1 = .ok (.i2l, 1) := by decide +kernel
theorem dX10_isRegister_2 : decode cX10_isRegister 2 = .ok (.lconst 0, 1) := by decide +kernel
theorem dX10_isRegister_3 : decode cX10_isRegister 3 = .ok (.ldc2_w 118, 3) := by decide +kernel
theorem dX10_isRegister_6 : decode cX10_isRegister 6 = .ok (.invokestatic 120, 3) := by decide +kernel
theorem dX10_isRegister_9 : decode cX10_isRegister 9 = .ok (.ireturn, 1) := by decide +kernel
theorem dX10_isGate_0 : decode cX10_isGate 0 = .ok (.iload_n 0, 1) := by decide +kernel
theorem dX10_isGate_1 : decode cX10_isGate 1 = .ok (.i2l, 1) := by decide +kernel
theorem dX10_isGate_2 : decode cX10_isGate 2 = .ok (.lconst 0, 1) := by decide +kernel
theorem dX10_isGate_3 : decode cX10_isGate 3 = .ok (.ldc2_w 124, 3) := by decide +kernel
theorem dX10_isGate_6 : decode cX10_isGate 6 = .ok (.invokestatic 120, 3) := by decide +kernel
theorem dX10_isGate_9 : decode cX10_isGate 9 = .ok (.ireturn, 1) := by decide +kernel
theorem dX10_one_0 : decode cX10_one 0 = .ok (.iload_n 1, 1) := by decide +kernel
theorem dX10_one_1 : decode cX10_one 1 = .ok (.invokestatic 126, 3) := by decide +kernel
theorem dX10_one_4 : decode cX10_one 4 = .ok (.ifCond .ne 5, 3) := by decide +kernel
theorem dX10_one_7 : decode cX10_one 7 = .ok (.iconst (-1), 1) := by decide +kernel
theorem dX10_one_8 : decode cX10_one 8 = .ok (.ireturn, 1) := by decide +kernel
theorem dX10_one_9 : decode cX10_one 9 = .ok (.aload_n 0, 1) := by decide +kernel
theorem dX10_one_10 : decode cX10_one 10 = .ok (.iload_n 1, 1) := by decide +kernel
theorem dX10_one_11 : decode cX10_one 11 = .ok (.invokevirtual 98, 3) := by decide +kernel
theorem dX10_one_14 : decode cX10_one 14 = .ok (.istore_n 2, 1) := by decide +kernel
theorem dX10_one_15 : decode cX10_one 15 = .ok (.aload_n 0, 1) := by decide +kernel
theorem dX10_one_16 : decode cX10_one 16 = .ok (.bipush 14, 2) := by decide +kernel
theorem dX10_one_18 : decode cX10_one 18 = .ok (.iload_n 1, 1) := by decide +kernel
theorem dX10_one_19 : decode cX10_one 19 = .ok (.invokevirtual 83, 3) := by decide +kernel
theorem dX10_one_22 : decode cX10_one 22 = .ok (.iload_n 2, 1) := by decide +kernel
theorem dX10_one_23 : decode cX10_one 23 = .ok (.ireturn, 1) := by decide +kernel
theorem dX10_comes_0 : decode cX10_comes 0 = .ok (.aload_n 0, 1) := by decide +kernel
theorem dX10_comes_1 : decode cX10_comes 1 = .ok (.bipush 15, 2) := by decide +kernel
theorem dX10_comes_3 : decode cX10_comes 3 = .ok (.invokevirtual 98, 3) := by decide +kernel
theorem dX10_comes_6 : decode cX10_comes 6 = .ok (.bipush 40, 2) := by decide +kernel
theorem dX10_comes_8 : decode cX10_comes 8 = .ok (.if_icmp .le 6, 3) := by decide +kernel
theorem dX10_comes_11 : decode cX10_comes 11 = .ok (.bipush (-5), 2) := by decide +kernel
theorem dX10_comes_13 : decode cX10_comes 13 = .ok (.ireturn, 1) := by decide +kernel
theorem dX10_comes_14 : decode cX10_comes 14 = .ok (.aload_n 0, 1) := by decide +kernel
theorem dX10_comes_15 : decode cX10_comes 15 = .ok (.bipush 15, 2) := by decide +kernel
theorem dX10_comes_17 : decode cX10_comes 17 = .ok (.iload_n 1, 1) := by decide +kernel
theorem dX10_comes_18 : decode cX10_comes 18 = .ok (.invokevirtual 83, 3) := by decide +kernel
theorem dX10_comes_21 : decode cX10_comes 21 = .ok (.aload_n 0, 1) := by decide +kernel
theorem dX10_comes_22 : decode cX10_comes 22 = .ok (.iload_n 1, 1) := by decide +kernel
theorem dX10_comes_23 : decode cX10_comes 23 = .ok (.invokevirtual 98, 3) := by decide +kernel
theorem dX10_comes_26 : decode cX10_comes 26 = .ok (.ireturn, 1) := by decide +kernel
theorem dX10_gate_0 : decode cX10_gate 0 = .ok (.iload_n 1, 1) := by decide +kernel
theorem dX10_gate_1 : decode cX10_gate 1 = .ok (.invokestatic 126, 3) := by decide +kernel
theorem dX10_gate_4 : decode cX10_gate 4 = .ok (.ifCond .eq 10, 3) := by decide +kernel
theorem dX10_gate_7 : decode cX10_gate 7 = .ok (.iload_n 2, 1) := by decide +kernel
theorem dX10_gate_8 : decode cX10_gate 8 = .ok (.invokestatic 129, 3) := by decide +kernel
theorem dX10_gate_11 : decode cX10_gate 11 = .ok (.ifCond .ne 5, 3) := by decide +kernel
theorem dX10_gate_14 : decode cX10_gate 14 = .ok (.iconst (-1), 1) := by decide +kernel
theorem dX10_gate_15 : decode cX10_gate 15 = .ok (.ireturn, 1) := by decide +kernel
theorem dX10_gate_16 : decode cX10_gate 16 = .ok (.aload_n 0, 1) := by decide +kernel
theorem dX10_gate_17 : decode cX10_gate 17 = .ok (.bipush 15, 2) := by decide +kernel
theorem dX10_gate_19 : decode cX10_gate 19 = .ok (.iload_n 1, 1) := by decide +kernel
theorem dX10_gate_20 : decode cX10_gate 20 = .ok (.iconst 4, 1) := by decide +kernel
theorem dX10_gate_21 : decode cX10_gate 21 = .ok (.iload_n 2, 1) := by decide +kernel
theorem dX10_gate_22 : decode cX10_gate 22 = .ok (.iadd, 1) := by decide +kernel
theorem dX10_gate_23 : decode cX10_gate 23 = .ok (.invokevirtual 132, 3) := by decide +kernel
theorem dX10_gate_26 : decode cX10_gate 26 = .ok (.aload_n 0, 1) := by decide +kernel
theorem dX10_gate_27 : decode cX10_gate 27 = .ok (.iload_n 1, 1) := by decide +kernel
theorem dX10_gate_28 : decode cX10_gate 28 = .ok (.invokevirtual 135, 3) := by decide +kernel
theorem dX10_gate_31 : decode cX10_gate 31 = .ok (.ireturn, 1) := by decide +kernel
theorem dX10_ahead_0 : decode cX10_ahead 0 = .ok (.iload_n 1, 1) := by decide +kernel
theorem dX10_ahead_1 : decode cX10_ahead 1 = .ok (.invokestatic 126, 3) := by decide +kernel
theorem dX10_ahead_4 : decode cX10_ahead 4 = .ok (.ifCond .eq 10, 3) := by decide +kernel
theorem dX10_ahead_7 : decode cX10_ahead 7 = .ok (.iload_n 2, 1) := by decide +kernel
theorem dX10_ahead_8 : decode cX10_ahead 8 = .ok (.invokestatic 129, 3) := by decide +kernel
theorem dX10_ahead_11 : decode cX10_ahead 11 = .ok (.ifCond .ne 5, 3) := by decide +kernel
theorem dX10_ahead_14 : decode cX10_ahead 14 = .ok (.iconst (-1), 1) := by decide +kernel
theorem dX10_ahead_15 : decode cX10_ahead 15 = .ok (.ireturn, 1) := by decide +kernel
theorem dX10_ahead_16 : decode cX10_ahead 16 = .ok (.aload_n 0, 1) := by decide +kernel
theorem dX10_ahead_17 : decode cX10_ahead 17 = .ok (.bipush 15, 2) := by decide +kernel
theorem dX10_ahead_19 : decode cX10_ahead 19 = .ok (.iconst 4, 1) := by decide +kernel
theorem dX10_ahead_20 : decode cX10_ahead 20 = .ok (.iload_n 2, 1) := by decide +kernel
theorem dX10_ahead_21 : decode cX10_ahead 21 = .ok (.iadd, 1) := by decide +kernel
theorem dX10_ahead_22 : decode cX10_ahead 22 = .ok (.iload_n 1, 1) := by decide +kernel
theorem dX10_ahead_23 : decode cX10_ahead 23 = .ok (.invokevirtual 132, 3) := by decide +kernel
theorem dX10_ahead_26 : decode cX10_ahead 26 = .ok (.aload_n 0, 1) := by decide +kernel
theorem dX10_ahead_27 : decode cX10_ahead 27 = .ok (.iload_n 1, 1) := by decide +kernel
theorem dX10_ahead_28 : decode cX10_ahead 28 = .ok (.invokevirtual 135, 3) := by decide +kernel
theorem dX10_ahead_31 : decode cX10_ahead 31 = .ok (.ireturn, 1) := by decide +kernel
theorem dX10_times_0 : decode cX10_times 0 = .ok (.iload_n 1, 1) := by decide +kernel
theorem dX10_times_1 : decode cX10_times 1 = .ok (.invokestatic 126, 3) := by decide +kernel
theorem dX10_times_4 : decode cX10_times 4 = .ok (.ifCond .eq 17, 3) := by decide +kernel
theorem dX10_times_7 : decode cX10_times 7 = .ok (.iload_n 2, 1) := by decide +kernel
theorem dX10_times_8 : decode cX10_times 8 = .ok (.invokestatic 126, 3) := by decide +kernel
theorem dX10_times_11 : decode cX10_times 11 = .ok (.ifCond .eq 10, 3) := by decide +kernel
theorem dX10_times_14 : decode cX10_times 14 = .ok (.iload_n 3, 1) := by decide +kernel
theorem dX10_times_15 : decode cX10_times 15 = .ok (.invokestatic 126, 3) := by decide +kernel
theorem dX10_times_18 : decode cX10_times 18 = .ok (.ifCond .ne 5, 3) := by decide +kernel
theorem dX10_times_21 : decode cX10_times 21 = .ok (.iconst (-1), 1) := by decide +kernel
theorem dX10_times_22 : decode cX10_times 22 = .ok (.ireturn, 1) := by decide +kernel
theorem dX10_times_23 : decode cX10_times 23 = .ok (.aload_n 0, 1) := by decide +kernel
theorem dX10_times_24 : decode cX10_times 24 = .ok (.bipush 15, 2) := by decide +kernel
theorem dX10_times_26 : decode cX10_times 26 = .ok (.iload_n 2, 1) := by decide +kernel
theorem dX10_times_27 : decode cX10_times 27 = .ok (.iload_n 3, 1) := by decide +kernel
theorem dX10_times_28 : decode cX10_times 28 = .ok (.invokevirtual 132, 3) := by decide +kernel
theorem dX10_times_31 : decode cX10_times 31 = .ok (.aload_n 0, 1) := by decide +kernel
theorem dX10_times_32 : decode cX10_times 32 = .ok (.iload_n 1, 1) := by decide +kernel
theorem dX10_times_33 : decode cX10_times 33 = .ok (.invokevirtual 135, 3) := by decide +kernel
theorem dX10_times_36 : decode cX10_times 36 = .ok (.ireturn, 1) := by decide +kernel
theorem dX10_turn_0 : decode cX10_turn 0 = .ok (.iload_n 1, 1) := by decide +kernel
theorem dX10_turn_1 : decode cX10_turn 1 = .ok (.invokestatic 126, 3) := by decide +kernel
theorem dX10_turn_4 : decode cX10_turn 4 = .ok (.ifCond .ne 5, 3) := by decide +kernel
theorem dX10_turn_7 : decode cX10_turn 7 = .ok (.iconst (-1), 1) := by decide +kernel
theorem dX10_turn_8 : decode cX10_turn 8 = .ok (.ireturn, 1) := by decide +kernel
theorem dX10_turn_9 : decode cX10_turn 9 = .ok (.aload_n 0, 1) := by decide +kernel
theorem dX10_turn_10 : decode cX10_turn 10 = .ok (.iload_n 1, 1) := by decide +kernel
theorem dX10_turn_11 : decode cX10_turn 11 = .ok (.iload_n 1, 1) := by decide +kernel
theorem dX10_turn_12 : decode cX10_turn 12 = .ok (.invokevirtual 138, 3) := by decide +kernel
theorem dX10_turn_15 : decode cX10_turn 15 = .ok (.aload_n 0, 1) := by decide +kernel
theorem dX10_turn_16 : decode cX10_turn 16 = .ok (.iload_n 1, 1) := by decide +kernel
theorem dX10_turn_17 : decode cX10_turn 17 = .ok (.invokevirtual 98, 3) := by decide +kernel
theorem dX10_turn_20 : decode cX10_turn 20 = .ok (.ireturn, 1) := by decide +kernel
theorem dX10_part_0 : decode cX10_part 0 = .ok (.iload_n 1, 1) := by decide +kernel
theorem dX10_part_1 : decode cX10_part 1 = .ok (.invokestatic 126, 3) := by decide +kernel
theorem dX10_part_4 : decode cX10_part 4 = .ok (.ifCond .eq 51, 3) := by decide +kernel
theorem dX10_part_7 : decode cX10_part 7 = .ok (.iload_n 2, 1) := by decide +kernel
theorem dX10_part_8 : decode cX10_part 8 = .ok (.i2l, 1) := by decide +kernel
theorem dX10_part_9 : decode cX10_part 9 = .ok (.lconst 0, 1) := by decide +kernel
theorem dX10_part_10 : decode cX10_part 10 = .ok (.lconst 1, 1) := by decide +kernel
theorem dX10_part_11 : decode cX10_part 11 = .ok (.invokestatic 120, 3) := by decide +kernel
theorem dX10_part_14 : decode cX10_part 14 = .ok (.ifCond .eq 41, 3) := by decide +kernel
theorem dX10_part_17 : decode cX10_part 17 = .ok (.iload_n 3, 1) := by decide +kernel
theorem dX10_part_18 : decode cX10_part 18 = .ok (.i2l, 1) := by decide +kernel
theorem dX10_part_19 : decode cX10_part 19 = .ok (.lconst 0, 1) := by decide +kernel
theorem dX10_part_20 : decode cX10_part 20 = .ok (.lconst 1, 1) := by decide +kernel
theorem dX10_part_21 : decode cX10_part 21 = .ok (.invokestatic 120, 3) := by decide +kernel
theorem dX10_part_24 : decode cX10_part 24 = .ok (.ifCond .eq 31, 3) := by decide +kernel
theorem dX10_part_27 : decode cX10_part 27 = .ok (.iload 4, 2) := by decide +kernel
theorem dX10_part_29 : decode cX10_part 29 = .ok (.i2l, 1) := by decide +kernel
theorem dX10_part_30 : decode cX10_part 30 = .ok (.lconst 0, 1) := by decide +kernel
theorem dX10_part_31 : decode cX10_part 31 = .ok (.ldc2_w 118, 3) := by decide +kernel
theorem dX10_part_34 : decode cX10_part 34 = .ok (.invokestatic 120, 3) := by decide +kernel
theorem dX10_part_37 : decode cX10_part 37 = .ok (.ifCond .eq 18, 3) := by decide +kernel
theorem dX10_part_40 : decode cX10_part 40 = .ok (.aload_n 0, 1) := by decide +kernel
theorem dX10_part_41 : decode cX10_part 41 = .ok (.iload_n 1, 1) := by decide +kernel
theorem dX10_part_42 : decode cX10_part 42 = .ok (.iconst 2, 1) := by decide +kernel
theorem dX10_part_43 : decode cX10_part 43 = .ok (.iload_n 2, 1) := by decide +kernel
theorem dX10_part_44 : decode cX10_part 44 = .ok (.imul, 1) := by decide +kernel
theorem dX10_part_45 : decode cX10_part 45 = .ok (.iload_n 3, 1) := by decide +kernel
theorem dX10_part_46 : decode cX10_part 46 = .ok (.iadd, 1) := by decide +kernel
theorem dX10_part_47 : decode cX10_part 47 = .ok (.iload 4, 2) := by decide +kernel
theorem dX10_part_49 : decode cX10_part 49 = .ok (.invokevirtual 92, 3) := by decide +kernel
theorem dX10_part_52 : decode cX10_part 52 = .ok (.goto 6, 3) := by decide +kernel
theorem dX10_part_55 : decode cX10_part 55 = .ok (.ldc2_w 141, 3) := by decide +kernel
theorem dX10_part_58 : decode cX10_part 58 = .ok (.lreturn, 1) := by decide +kernel
theorem dX10_e_0 : decode cX10_e 0 = .ok (.iload_n 1, 1) := by decide +kernel
theorem dX10_e_1 : decode cX10_e 1 = .ok (.invokestatic 126, 3) := by decide +kernel
theorem dX10_e_4 : decode cX10_e 4 = .ok (.ifCond .eq 11, 3) := by decide +kernel
theorem dX10_e_7 : decode cX10_e 7 = .ok (.aload_n 0, 1) := by decide +kernel
theorem dX10_e_8 : decode cX10_e 8 = .ok (.iload_n 1, 1) := by decide +kernel
theorem dX10_e_9 : decode cX10_e 9 = .ok (.invokevirtual 98, 3) := by decide +kernel
theorem dX10_e_12 : decode cX10_e 12 = .ok (.goto 4, 3) := by decide +kernel
theorem dX10_e_15 : decode cX10_e 15 = .ok (.iconst (-1), 1) := by decide +kernel
theorem dX10_e_16 : decode cX10_e 16 = .ok (.ireturn, 1) := by decide +kernel
theorem dX10_phase_0 : decode cX10_phase 0 = .ok (.iload_n 1, 1) := by decide +kernel
theorem dX10_phase_1 : decode cX10_phase 1 = .ok (.invokestatic 126, 3) := by decide +kernel
theorem dX10_phase_4 : decode cX10_phase 4 = .ok (.ifCond .eq 10, 3) := by decide +kernel
theorem dX10_phase_7 : decode cX10_phase 7 = .ok (.iload_n 2, 1) := by decide +kernel
theorem dX10_phase_8 : decode cX10_phase 8 = .ok (.invokestatic 126, 3) := by decide +kernel
theorem dX10_phase_11 : decode cX10_phase 11 = .ok (.ifCond .ne 5, 3) := by decide +kernel
theorem dX10_phase_14 : decode cX10_phase 14 = .ok (.iconst (-1), 1) := by decide +kernel
theorem dX10_phase_15 : decode cX10_phase 15 = .ok (.ireturn, 1) := by decide +kernel
theorem dX10_phase_16 : decode cX10_phase 16 = .ok (.aload_n 0, 1) := by decide +kernel
theorem dX10_phase_17 : decode cX10_phase 17 = .ok (.iload_n 2, 1) := by decide +kernel
theorem dX10_phase_18 : decode cX10_phase 18 = .ok (.bipush 15, 2) := by decide +kernel
theorem dX10_phase_20 : decode cX10_phase 20 = .ok (.invokevirtual 83, 3) := by decide +kernel
theorem dX10_phase_23 : decode cX10_phase 23 = .ok (.iconst 0, 1) := by decide +kernel
theorem dX10_phase_24 : decode cX10_phase 24 = .ok (.istore_n 3, 1) := by decide +kernel
theorem dX10_phase_25 : decode cX10_phase 25 = .ok (.iload_n 3, 1) := by decide +kernel
theorem dX10_phase_26 : decode cX10_phase 26 = .ok (.bipush 8, 2) := by decide +kernel
theorem dX10_phase_28 : decode cX10_phase 28 = .ok (.if_icmp .ge 31, 3) := by decide +kernel
theorem dX10_phase_31 : decode cX10_phase 31 = .ok (.aload_n 0, 1) := by decide +kernel
theorem dX10_phase_32 : decode cX10_phase 32 = .ok (.bipush 15, 2) := by decide +kernel
theorem dX10_phase_34 : decode cX10_phase 34 = .ok (.iload_n 1, 1) := by decide +kernel
theorem dX10_phase_35 : decode cX10_phase 35 = .ok (.invokevirtual 143, 3) := by decide +kernel
theorem dX10_phase_38 : decode cX10_phase 38 = .ok (.ifCond .eq 5, 3) := by decide +kernel
theorem dX10_phase_41 : decode cX10_phase 41 = .ok (.iload_n 3, 1) := by decide +kernel
theorem dX10_phase_42 : decode cX10_phase 42 = .ok (.ireturn, 1) := by decide +kernel
theorem dX10_phase_43 : decode cX10_phase 43 = .ok (.aload_n 0, 1) := by decide +kernel
theorem dX10_phase_44 : decode cX10_phase 44 = .ok (.bipush 15, 2) := by decide +kernel
theorem dX10_phase_46 : decode cX10_phase 46 = .ok (.bipush 9, 2) := by decide +kernel
theorem dX10_phase_48 : decode cX10_phase 48 = .ok (.bipush 15, 2) := by decide +kernel
theorem dX10_phase_50 : decode cX10_phase 50 = .ok (.invokevirtual 132, 3) := by decide +kernel
theorem dX10_phase_53 : decode cX10_phase 53 = .ok (.iinc 3 1, 3) := by decide +kernel
theorem dX10_phase_56 : decode cX10_phase 56 = .ok (.goto (-31), 3) := by decide +kernel
theorem dX10_phase_59 : decode cX10_phase 59 = .ok (.bipush (-2), 2) := by decide +kernel
theorem dX10_phase_61 : decode cX10_phase 61 = .ok (.ireturn, 1) := by decide +kernel
theorem dX10_channels_0 : decode cX10_channels 0 = .ok (.aload_n 0, 1) := by decide +kernel
theorem dX10_channels_1 : decode cX10_channels 1 = .ok (.iload_n 1, 1) := by decide +kernel
theorem dX10_channels_2 : decode cX10_channels 2 = .ok (.bipush 16, 2) := by decide +kernel
theorem dX10_channels_4 : decode cX10_channels 4 = .ok (.invokevirtual 138, 3) := by decide +kernel
theorem dX10_channels_7 : decode cX10_channels 7 = .ok (.iconst 0, 1) := by decide +kernel
theorem dX10_channels_8 : decode cX10_channels 8 = .ok (.istore_n 2, 1) := by decide +kernel
theorem dX10_channels_9 : decode cX10_channels 9 = .ok (.iload_n 2, 1) := by decide +kernel
theorem dX10_channels_10 : decode cX10_channels 10 = .ok (.bipush 9, 2) := by decide +kernel
theorem dX10_channels_12 : decode cX10_channels 12 = .ok (.if_icmp .ge 92, 3) := by decide +kernel
theorem dX10_channels_15 : decode cX10_channels 15 = .ok (.aload_n 0, 1) := by decide +kernel
theorem dX10_channels_16 : decode cX10_channels 16 = .ok (.bipush 17, 2) := by decide +kernel
theorem dX10_channels_18 : decode cX10_channels 18 = .ok (.bipush 11, 2) := by decide +kernel
theorem dX10_channels_20 : decode cX10_channels 20 = .ok (.iload_n 2, 1) := by decide +kernel
theorem dX10_channels_21 : decode cX10_channels 21 = .ok (.iconst 3, 1) := by decide +kernel
theorem dX10_channels_22 : decode cX10_channels 22 = .ok (.idiv, 1) := by decide +kernel
theorem dX10_channels_23 : decode cX10_channels 23 = .ok (.iadd, 1) := by decide +kernel
theorem dX10_channels_24 : decode cX10_channels 24 = .ok (.iload_n 1, 1) := by decide +kernel
theorem dX10_channels_25 : decode cX10_channels 25 = .ok (.invokevirtual 110, 3) := by decide +kernel
theorem dX10_channels_28 : decode cX10_channels 28 = .ok (.aload_n 0, 1) := by decide +kernel
theorem dX10_channels_29 : decode cX10_channels 29 = .ok (.bipush 17, 2) := by decide +kernel
theorem dX10_channels_31 : decode cX10_channels 31 = .ok (.bipush 17, 2) := by decide +kernel
theorem dX10_channels_33 : decode cX10_channels 33 = .ok (.bipush 11, 2) := by decide +kernel
theorem dX10_channels_35 : decode cX10_channels 35 = .ok (.iload_n 2, 1) := by decide +kernel
theorem dX10_channels_36 : decode cX10_channels 36 = .ok (.iconst 3, 1) := by decide +kernel
theorem dX10_channels_37 : decode cX10_channels 37 = .ok (.irem, 1) := by decide +kernel
theorem dX10_channels_38 : decode cX10_channels 38 = .ok (.iadd, 1) := by decide +kernel
theorem dX10_channels_39 : decode cX10_channels 39 = .ok (.invokevirtual 110, 3) := by decide +kernel
theorem dX10_channels_42 : decode cX10_channels 42 = .ok (.aload_n 0, 1) := by decide +kernel
theorem dX10_channels_43 : decode cX10_channels 43 = .ok (.bipush 17, 2) := by decide +kernel
theorem dX10_channels_45 : decode cX10_channels 45 = .ok (.bipush 17, 2) := by decide +kernel
theorem dX10_channels_47 : decode cX10_channels 47 = .ok (.bipush 16, 2) := by decide +kernel
theorem dX10_channels_49 : decode cX10_channels 49 = .ok (.invokevirtual 110, 3) := by decide +kernel
theorem dX10_channels_52 : decode cX10_channels 52 = .ok (.aload_n 0, 1) := by decide +kernel
theorem dX10_channels_53 : decode cX10_channels 53 = .ok (.getfield 40, 3) := by decide +kernel
theorem dX10_channels_56 : decode cX10_channels 56 = .ok (.iload_n 2, 1) := by decide +kernel
theorem dX10_channels_57 : decode cX10_channels 57 = .ok (.aload_n 0, 1) := by decide +kernel
theorem dX10_channels_58 : decode cX10_channels 58 = .ok (.bipush 17, 2) := by decide +kernel
theorem dX10_channels_60 : decode cX10_channels 60 = .ok (.iconst 0, 1) := by decide +kernel
theorem dX10_channels_61 : decode cX10_channels 61 = .ok (.iconst 0, 1) := by decide +kernel
theorem dX10_channels_62 : decode cX10_channels 62 = .ok (.invokevirtual 92, 3) := by decide +kernel
theorem dX10_channels_65 : decode cX10_channels 65 = .ok (.aload_n 0, 1) := by decide +kernel
theorem dX10_channels_66 : decode cX10_channels 66 = .ok (.bipush 17, 2) := by decide +kernel
theorem dX10_channels_68 : decode cX10_channels 68 = .ok (.iconst 3, 1) := by decide +kernel
theorem dX10_channels_69 : decode cX10_channels 69 = .ok (.iconst 0, 1) := by decide +kernel
theorem dX10_channels_70 : decode cX10_channels 70 = .ok (.invokevirtual 92, 3) := by decide +kernel
theorem dX10_channels_73 : decode cX10_channels 73 = .ok (.ladd, 1) := by decide +kernel
theorem dX10_channels_74 : decode cX10_channels 74 = .ok (.lastore, 1) := by decide +kernel
theorem dX10_channels_75 : decode cX10_channels 75 = .ok (.aload_n 0, 1) := by decide +kernel
theorem dX10_channels_76 : decode cX10_channels 76 = .ok (.getfield 43, 3) := by decide +kernel
theorem dX10_channels_79 : decode cX10_channels 79 = .ok (.iload_n 2, 1) := by decide +kernel
theorem dX10_channels_80 : decode cX10_channels 80 = .ok (.aload_n 0, 1) := by decide +kernel
theorem dX10_channels_81 : decode cX10_channels 81 = .ok (.bipush 17, 2) := by decide +kernel
theorem dX10_channels_83 : decode cX10_channels 83 = .ok (.iconst 0, 1) := by decide +kernel
theorem dX10_channels_84 : decode cX10_channels 84 = .ok (.iconst 1, 1) := by decide +kernel
theorem dX10_channels_85 : decode cX10_channels 85 = .ok (.invokevirtual 92, 3) := by decide +kernel
theorem dX10_channels_88 : decode cX10_channels 88 = .ok (.aload_n 0, 1) := by decide +kernel
theorem dX10_channels_89 : decode cX10_channels 89 = .ok (.bipush 17, 2) := by decide +kernel
theorem dX10_channels_91 : decode cX10_channels 91 = .ok (.iconst 3, 1) := by decide +kernel
theorem dX10_channels_92 : decode cX10_channels 92 = .ok (.iconst 1, 1) := by decide +kernel
theorem dX10_channels_93 : decode cX10_channels 93 = .ok (.invokevirtual 92, 3) := by decide +kernel
theorem dX10_channels_96 : decode cX10_channels 96 = .ok (.ladd, 1) := by decide +kernel
theorem dX10_channels_97 : decode cX10_channels 97 = .ok (.lastore, 1) := by decide +kernel
theorem dX10_channels_98 : decode cX10_channels 98 = .ok (.iinc 2 1, 3) := by decide +kernel
theorem dX10_channels_101 : decode cX10_channels 101 = .ok (.goto (-92), 3) := by decide +kernel
theorem dX10_channels_104 : decode cX10_channels 104 = .ok (.iconst 2, 1) := by decide +kernel
theorem dX10_channels_105 : decode cX10_channels 105 = .ok (.aload_n 0, 1) := by decide +kernel
theorem dX10_channels_106 : decode cX10_channels 106 = .ok (.iload_n 1, 1) := by decide +kernel
theorem dX10_channels_107 : decode cX10_channels 107 = .ok (.invokevirtual 98, 3) := by decide +kernel
theorem dX10_channels_110 : decode cX10_channels 110 = .ok (.imul, 1) := by decide +kernel
theorem dX10_channels_111 : decode cX10_channels 111 = .ok (.iconst 2, 1) := by decide +kernel
theorem dX10_channels_112 : decode cX10_channels 112 = .ok (.iadd, 1) := by decide +kernel
theorem dX10_channels_113 : decode cX10_channels 113 = .ok (.istore_n 2, 1) := by decide +kernel
theorem dX10_channels_114 : decode cX10_channels 114 = .ok (.iconst 1, 1) := by decide +kernel
theorem dX10_channels_115 : decode cX10_channels 115 = .ok (.istore_n 3, 1) := by decide +kernel
theorem dX10_channels_116 : decode cX10_channels 116 = .ok (.iload_n 3, 1) := by decide +kernel
theorem dX10_channels_117 : decode cX10_channels 117 = .ok (.ifCond .eq 118, 3) := by decide +kernel
theorem dX10_channels_120 : decode cX10_channels 120 = .ok (.iload_n 2, 1) := by decide +kernel
theorem dX10_channels_121 : decode cX10_channels 121 = .ok (.ifCond .le 114, 3) := by decide +kernel
theorem dX10_channels_124 : decode cX10_channels 124 = .ok (.iconst 0, 1) := by decide +kernel
theorem dX10_channels_125 : decode cX10_channels 125 = .ok (.istore 4, 2) := by decide +kernel
theorem dX10_channels_127 : decode cX10_channels 127 = .ok (.iload 4, 2) := by decide +kernel
theorem dX10_channels_129 : decode cX10_channels 129 = .ok (.bipush 9, 2) := by decide +kernel
theorem dX10_channels_131 : decode cX10_channels 131 = .ok (.if_icmp .ge 33, 3) := by decide +kernel
theorem dX10_channels_134 : decode cX10_channels 134 = .ok (.iload_n 3, 1) := by decide +kernel
theorem dX10_channels_135 : decode cX10_channels 135 = .ok (.aload_n 0, 1) := by decide +kernel
theorem dX10_channels_136 : decode cX10_channels 136 = .ok (.getfield 40, 3) := by decide +kernel
theorem dX10_channels_139 : decode cX10_channels 139 = .ok (.iload 4, 2) := by decide +kernel
theorem dX10_channels_141 : decode cX10_channels 141 = .ok (.laload, 1) := by decide +kernel
theorem dX10_channels_142 : decode cX10_channels 142 = .ok (.ldc2_w 96, 3) := by decide +kernel
theorem dX10_channels_145 : decode cX10_channels 145 = .ok (.lrem, 1) := by decide +kernel
theorem dX10_channels_146 : decode cX10_channels 146 = .ok (.lconst 0, 1) := by decide +kernel
theorem dX10_channels_147 : decode cX10_channels 147 = .ok (.lcmp, 1) := by decide +kernel
theorem dX10_channels_148 : decode cX10_channels 148 = .ok (.ifCond .ne 7, 3) := by decide +kernel
theorem dX10_channels_151 : decode cX10_channels 151 = .ok (.iconst 1, 1) := by decide +kernel
theorem dX10_channels_152 : decode cX10_channels 152 = .ok (.goto 4, 3) := by decide +kernel
theorem dX10_channels_155 : decode cX10_channels 155 = .ok (.iconst 0, 1) := by decide +kernel
theorem dX10_channels_156 : decode cX10_channels 156 = .ok (.iand, 1) := by decide +kernel
theorem dX10_channels_157 : decode cX10_channels 157 = .ok (.istore_n 3, 1) := by decide +kernel
theorem dX10_channels_158 : decode cX10_channels 158 = .ok (.iinc 4 1, 3) := by decide +kernel
theorem dX10_channels_161 : decode cX10_channels 161 = .ok (.goto (-34), 3) := by decide +kernel
theorem dX10_channels_164 : decode cX10_channels 164 = .ok (.iconst 0, 1) := by decide +kernel
theorem dX10_channels_165 : decode cX10_channels 165 = .ok (.istore 4, 2) := by decide +kernel
theorem dX10_channels_167 : decode cX10_channels 167 = .ok (.iload 4, 2) := by decide +kernel
theorem dX10_channels_169 : decode cX10_channels 169 = .ok (.bipush 9, 2) := by decide +kernel
theorem dX10_channels_171 : decode cX10_channels 171 = .ok (.if_icmp .ge 49, 3) := by decide +kernel
theorem dX10_channels_174 : decode cX10_channels 174 = .ok (.iload_n 3, 1) := by decide +kernel
theorem dX10_channels_175 : decode cX10_channels 175 = .ok (.ifCond .eq 45, 3) := by decide +kernel
theorem dX10_channels_178 : decode cX10_channels 178 = .ok (.aload_n 0, 1) := by decide +kernel
theorem dX10_channels_179 : decode cX10_channels 179 = .ok (.getfield 40, 3) := by decide +kernel
theorem dX10_channels_182 : decode cX10_channels 182 = .ok (.iload 4, 2) := by decide +kernel
theorem dX10_channels_184 : decode cX10_channels 184 = .ok (.laload, 1) := by decide +kernel
theorem dX10_channels_185 : decode cX10_channels 185 = .ok (.lstore 5, 2) := by decide +kernel
theorem dX10_channels_187 : decode cX10_channels 187 = .ok (.aload_n 0, 1) := by decide +kernel
theorem dX10_channels_188 : decode cX10_channels 188 = .ok (.getfield 40, 3) := by decide +kernel
theorem dX10_channels_191 : decode cX10_channels 191 = .ok (.iload 4, 2) := by decide +kernel
theorem dX10_channels_193 : decode cX10_channels 193 = .ok (.aload_n 0, 1) := by decide +kernel
theorem dX10_channels_194 : decode cX10_channels 194 = .ok (.getfield 43, 3) := by decide +kernel
theorem dX10_channels_197 : decode cX10_channels 197 = .ok (.iload 4, 2) := by decide +kernel
theorem dX10_channels_199 : decode cX10_channels 199 = .ok (.laload, 1) := by decide +kernel
theorem dX10_channels_200 : decode cX10_channels 200 = .ok (.lastore, 1) := by decide +kernel
theorem dX10_channels_201 : decode cX10_channels 201 = .ok (.aload_n 0, 1) := by decide +kernel
theorem dX10_channels_202 : decode cX10_channels 202 = .ok (.getfield 43, 3) := by decide +kernel
theorem dX10_channels_205 : decode cX10_channels 205 = .ok (.iload 4, 2) := by decide +kernel
theorem dX10_channels_207 : decode cX10_channels 207 = .ok (.lload 5, 2) := by decide +kernel
theorem dX10_channels_209 : decode cX10_channels 209 = .ok (.ldc2_w 96, 3) := by decide +kernel
theorem dX10_channels_212 : decode cX10_channels 212 = .ok (.ldiv, 1) := by decide +kernel
theorem dX10_channels_213 : decode cX10_channels 213 = .ok (.lastore, 1) := by decide +kernel
theorem dX10_channels_214 : decode cX10_channels 214 = .ok (.iinc 4 1, 3) := by decide +kernel
theorem dX10_channels_217 : decode cX10_channels 217 = .ok (.goto (-50), 3) := by decide +kernel
theorem dX10_channels_220 : decode cX10_channels 220 = .ok (.iload_n 2, 1) := by decide +kernel
theorem dX10_channels_221 : decode cX10_channels 221 = .ok (.iload_n 3, 1) := by decide +kernel
theorem dX10_channels_222 : decode cX10_channels 222 = .ok (.ifCond .eq 7, 3) := by decide +kernel
theorem dX10_channels_225 : decode cX10_channels 225 = .ok (.iconst 1, 1) := by decide +kernel
theorem dX10_channels_226 : decode cX10_channels 226 = .ok (.goto 4, 3) := by decide +kernel
theorem dX10_channels_229 : decode cX10_channels 229 = .ok (.iconst 0, 1) := by decide +kernel
theorem dX10_channels_230 : decode cX10_channels 230 = .ok (.isub, 1) := by decide +kernel
theorem dX10_channels_231 : decode cX10_channels 231 = .ok (.istore_n 2, 1) := by decide +kernel
theorem dX10_channels_232 : decode cX10_channels 232 = .ok (.goto (-116), 3) := by decide +kernel
theorem dX10_channels_235 : decode cX10_channels 235 = .ok (.iload_n 2, 1) := by decide +kernel
theorem dX10_channels_236 : decode cX10_channels 236 = .ok (.ireturn, 1) := by decide +kernel
theorem dX10_channel_0 : decode cX10_channel 0 = .ok (.iload_n 1, 1) := by decide +kernel
theorem dX10_channel_1 : decode cX10_channel 1 = .ok (.invokestatic 126, 3) := by decide +kernel
theorem dX10_channel_4 : decode cX10_channel 4 = .ok (.ifCond .eq 38, 3) := by decide +kernel
theorem dX10_channel_7 : decode cX10_channel 7 = .ok (.iload_n 2, 1) := by decide +kernel
theorem dX10_channel_8 : decode cX10_channel 8 = .ok (.i2l, 1) := by decide +kernel
theorem dX10_channel_9 : decode cX10_channel 9 = .ok (.lconst 0, 1) := by decide +kernel
theorem dX10_channel_10 : decode cX10_channel 10 = .ok (.ldc2_w 96, 3) := by decide +kernel
theorem dX10_channel_13 : decode cX10_channel 13 = .ok (.invokestatic 120, 3) := by decide +kernel
theorem dX10_channel_16 : decode cX10_channel 16 = .ok (.ifCond .eq 26, 3) := by decide +kernel
theorem dX10_channel_19 : decode cX10_channel 19 = .ok (.iload_n 3, 1) := by decide +kernel
theorem dX10_channel_20 : decode cX10_channel 20 = .ok (.i2l, 1) := by decide +kernel
theorem dX10_channel_21 : decode cX10_channel 21 = .ok (.lconst 0, 1) := by decide +kernel
theorem dX10_channel_22 : decode cX10_channel 22 = .ok (.ldc2_w 96, 3) := by decide +kernel
theorem dX10_channel_25 : decode cX10_channel 25 = .ok (.invokestatic 120, 3) := by decide +kernel
theorem dX10_channel_28 : decode cX10_channel 28 = .ok (.ifCond .eq 14, 3) := by decide +kernel
theorem dX10_channel_31 : decode cX10_channel 31 = .ok (.iload 4, 2) := by decide +kernel
theorem dX10_channel_33 : decode cX10_channel 33 = .ok (.i2l, 1) := by decide +kernel
theorem dX10_channel_34 : decode cX10_channel 34 = .ok (.lconst 0, 1) := by decide +kernel
theorem dX10_channel_35 : decode cX10_channel 35 = .ok (.lconst 1, 1) := by decide +kernel
theorem dX10_channel_36 : decode cX10_channel 36 = .ok (.invokestatic 120, 3) := by decide +kernel
theorem dX10_channel_39 : decode cX10_channel 39 = .ok (.ifCond .ne 7, 3) := by decide +kernel
theorem dX10_channel_42 : decode cX10_channel 42 = .ok (.ldc2_w 141, 3) := by decide +kernel
theorem dX10_channel_45 : decode cX10_channel 45 = .ok (.lreturn, 1) := by decide +kernel
theorem dX10_channel_46 : decode cX10_channel 46 = .ok (.aload_n 0, 1) := by decide +kernel
theorem dX10_channel_47 : decode cX10_channel 47 = .ok (.iload_n 1, 1) := by decide +kernel
theorem dX10_channel_48 : decode cX10_channel 48 = .ok (.invokevirtual 147, 3) := by decide +kernel
theorem dX10_channel_51 : decode cX10_channel 51 = .ok (.istore 5, 2) := by decide +kernel
theorem dX10_channel_53 : decode cX10_channel 53 = .ok (.iload 4, 2) := by decide +kernel
theorem dX10_channel_55 : decode cX10_channel 55 = .ok (.ifCond .ne 16, 3) := by decide +kernel
theorem dX10_channel_58 : decode cX10_channel 58 = .ok (.aload_n 0, 1) := by decide +kernel
theorem dX10_channel_59 : decode cX10_channel 59 = .ok (.getfield 40, 3) := by decide +kernel
theorem dX10_channel_62 : decode cX10_channel 62 = .ok (.iconst 3, 1) := by decide +kernel
theorem dX10_channel_63 : decode cX10_channel 63 = .ok (.iload_n 2, 1) := by decide +kernel
theorem dX10_channel_64 : decode cX10_channel 64 = .ok (.imul, 1) := by decide +kernel
theorem dX10_channel_65 : decode cX10_channel 65 = .ok (.iload_n 3, 1) := by decide +kernel
theorem dX10_channel_66 : decode cX10_channel 66 = .ok (.iadd, 1) := by decide +kernel
theorem dX10_channel_67 : decode cX10_channel 67 = .ok (.laload, 1) := by decide +kernel
theorem dX10_channel_68 : decode cX10_channel 68 = .ok (.goto 13, 3) := by decide +kernel
theorem dX10_channel_71 : decode cX10_channel 71 = .ok (.aload_n 0, 1) := by decide +kernel
theorem dX10_channel_72 : decode cX10_channel 72 = .ok (.getfield 43, 3) := by decide +kernel
theorem dX10_channel_75 : decode cX10_channel 75 = .ok (.iconst 3, 1) := by decide +kernel
theorem dX10_channel_76 : decode cX10_channel 76 = .ok (.iload_n 2, 1) := by decide +kernel
theorem dX10_channel_77 : decode cX10_channel 77 = .ok (.imul, 1) := by decide +kernel
theorem dX10_channel_78 : decode cX10_channel 78 = .ok (.iload_n 3, 1) := by decide +kernel
theorem dX10_channel_79 : decode cX10_channel 79 = .ok (.iadd, 1) := by decide +kernel
theorem dX10_channel_80 : decode cX10_channel 80 = .ok (.laload, 1) := by decide +kernel
theorem dX10_channel_81 : decode cX10_channel 81 = .ok (.lreturn, 1) := by decide +kernel
theorem dX10_count_0 : decode cX10_count 0 = .ok (.iload_n 1, 1) := by decide +kernel
theorem dX10_count_1 : decode cX10_count 1 = .ok (.invokestatic 126, 3) := by decide +kernel
theorem dX10_count_4 : decode cX10_count 4 = .ok (.ifCond .eq 11, 3) := by decide +kernel
theorem dX10_count_7 : decode cX10_count 7 = .ok (.aload_n 0, 1) := by decide +kernel
theorem dX10_count_8 : decode cX10_count 8 = .ok (.iload_n 1, 1) := by decide +kernel
theorem dX10_count_9 : decode cX10_count 9 = .ok (.invokevirtual 147, 3) := by decide +kernel
theorem dX10_count_12 : decode cX10_count 12 = .ok (.goto 4, 3) := by decide +kernel
theorem dX10_count_15 : decode cX10_count 15 = .ok (.iconst (-1), 1) := by decide +kernel
theorem dX10_count_16 : decode cX10_count 16 = .ok (.ireturn, 1) := by decide +kernel
theorem dX10_cliffordOf_0 : decode cX10_cliffordOf 0 = .ok (.iconst 0, 1) := by decide +kernel
theorem dX10_cliffordOf_1 : decode cX10_cliffordOf 1 = .ok (.istore_n 2, 1) := by decide +kernel
theorem dX10_cliffordOf_2 : decode cX10_cliffordOf 2 = .ok (.iload_n 2, 1) := by decide +kernel
theorem dX10_cliffordOf_3 : decode cX10_cliffordOf 3 = .ok (.aload_n 0, 1) := by decide +kernel
theorem dX10_cliffordOf_4 : decode cX10_cliffordOf 4 = .ok (.getfield 150, 3) := by decide +kernel
theorem dX10_cliffordOf_7 : decode cX10_cliffordOf 7 = .ok (.if_icmp .ge 71, 3) := by decide +kernel
theorem dX10_cliffordOf_10 : decode cX10_cliffordOf 10 = .ok (.iconst 1, 1) := by decide +kernel
theorem dX10_cliffordOf_11 : decode cX10_cliffordOf 11 = .ok (.istore_n 3, 1) := by decide +kernel
theorem dX10_cliffordOf_12 : decode cX10_cliffordOf 12 = .ok (.iconst 0, 1) := by decide +kernel
theorem dX10_cliffordOf_13 : decode cX10_cliffordOf 13 = .ok (.istore 4, 2) := by decide +kernel
theorem dX10_cliffordOf_15 : decode cX10_cliffordOf 15 = .ok (.iload 4, 2) := by decide +kernel
theorem dX10_cliffordOf_17 : decode cX10_cliffordOf 17 = .ok (.bipush 17, 2) := by decide +kernel
theorem dX10_cliffordOf_19 : decode cX10_cliffordOf 19 = .ok (.if_icmp .ge 47, 3) := by decide +kernel
theorem dX10_cliffordOf_22 : decode cX10_cliffordOf 22 = .ok (.iload_n 3, 1) := by decide +kernel
theorem dX10_cliffordOf_23 : decode cX10_cliffordOf 23 = .ok (.ifCond .eq 43, 3) := by decide +kernel
theorem dX10_cliffordOf_26 : decode cX10_cliffordOf 26 = .ok (.aload_n 0, 1) := by decide +kernel
theorem dX10_cliffordOf_27 : decode cX10_cliffordOf 27 = .ok (.getfield 15, 3) := by decide +kernel
theorem dX10_cliffordOf_30 : decode cX10_cliffordOf 30 = .ok (.bipush 17, 2) := by decide +kernel
theorem dX10_cliffordOf_32 : decode cX10_cliffordOf 32 = .ok (.iload_n 2, 1) := by decide +kernel
theorem dX10_cliffordOf_33 : decode cX10_cliffordOf 33 = .ok (.imul, 1) := by decide +kernel
theorem dX10_cliffordOf_34 : decode cX10_cliffordOf 34 = .ok (.iload 4, 2) := by decide +kernel
theorem dX10_cliffordOf_36 : decode cX10_cliffordOf 36 = .ok (.iadd, 1) := by decide +kernel
theorem dX10_cliffordOf_37 : decode cX10_cliffordOf 37 = .ok (.laload, 1) := by decide +kernel
theorem dX10_cliffordOf_38 : decode cX10_cliffordOf 38 = .ok (.aload_n 0, 1) := by decide +kernel
theorem dX10_cliffordOf_39 : decode cX10_cliffordOf 39 = .ok (.getfield 11, 3) := by decide +kernel
theorem dX10_cliffordOf_42 : decode cX10_cliffordOf 42 = .ok (.bipush 17, 2) := by decide +kernel
theorem dX10_cliffordOf_44 : decode cX10_cliffordOf 44 = .ok (.iload_n 1, 1) := by decide +kernel
theorem dX10_cliffordOf_45 : decode cX10_cliffordOf 45 = .ok (.imul, 1) := by decide +kernel
theorem dX10_cliffordOf_46 : decode cX10_cliffordOf 46 = .ok (.iload 4, 2) := by decide +kernel
theorem dX10_cliffordOf_48 : decode cX10_cliffordOf 48 = .ok (.iadd, 1) := by decide +kernel
theorem dX10_cliffordOf_49 : decode cX10_cliffordOf 49 = .ok (.laload, 1) := by decide +kernel
theorem dX10_cliffordOf_50 : decode cX10_cliffordOf 50 = .ok (.lcmp, 1) := by decide +kernel
theorem dX10_cliffordOf_51 : decode cX10_cliffordOf 51 = .ok (.ifCond .ne 7, 3) := by decide +kernel
theorem dX10_cliffordOf_54 : decode cX10_cliffordOf 54 = .ok (.iconst 1, 1) := by decide +kernel
theorem dX10_cliffordOf_55 : decode cX10_cliffordOf 55 = .ok (.goto 4, 3) := by decide +kernel
theorem dX10_cliffordOf_58 : decode cX10_cliffordOf 58 = .ok (.iconst 0, 1) := by decide +kernel
theorem dX10_cliffordOf_59 : decode cX10_cliffordOf 59 = .ok (.istore_n 3, 1) := by decide +kernel
theorem dX10_cliffordOf_60 : decode cX10_cliffordOf 60 = .ok (.iinc 4 1, 3) := by decide +kernel
theorem dX10_cliffordOf_63 : decode cX10_cliffordOf 63 = .ok (.goto (-48), 3) := by decide +kernel
theorem dX10_cliffordOf_66 : decode cX10_cliffordOf 66 = .ok (.iload_n 3, 1) := by decide +kernel
theorem dX10_cliffordOf_67 : decode cX10_cliffordOf 67 = .ok (.ifCond .eq 5, 3) := by decide +kernel
theorem dX10_cliffordOf_70 : decode cX10_cliffordOf 70 = .ok (.iload_n 2, 1) := by decide +kernel
theorem dX10_cliffordOf_71 : decode cX10_cliffordOf 71 = .ok (.ireturn, 1) := by decide +kernel
theorem dX10_cliffordOf_72 : decode cX10_cliffordOf 72 = .ok (.iinc 2 1, 3) := by decide +kernel
theorem dX10_cliffordOf_75 : decode cX10_cliffordOf 75 = .ok (.goto (-73), 3) := by decide +kernel
theorem dX10_cliffordOf_78 : decode cX10_cliffordOf 78 = .ok (.bipush (-2), 2) := by decide +kernel
theorem dX10_cliffordOf_80 : decode cX10_cliffordOf 80 = .ok (.ireturn, 1) := by decide +kernel
theorem dX10_loads_0 : decode cX10_loads 0 = .ok (.iconst 0, 1) := by decide +kernel
theorem dX10_loads_1 : decode cX10_loads 1 = .ok (.istore_n 3, 1) := by decide +kernel
theorem dX10_loads_2 : decode cX10_loads 2 = .ok (.iload_n 3, 1) := by decide +kernel
theorem dX10_loads_3 : decode cX10_loads 3 = .ok (.bipush 17, 2) := by decide +kernel
theorem dX10_loads_5 : decode cX10_loads 5 = .ok (.if_icmp .ge 31, 3) := by decide +kernel
theorem dX10_loads_8 : decode cX10_loads 8 = .ok (.aload_n 0, 1) := by decide +kernel
theorem dX10_loads_9 : decode cX10_loads 9 = .ok (.getfield 11, 3) := by decide +kernel
theorem dX10_loads_12 : decode cX10_loads 12 = .ok (.bipush 17, 2) := by decide +kernel
theorem dX10_loads_14 : decode cX10_loads 14 = .ok (.iload_n 2, 1) := by decide +kernel
theorem dX10_loads_15 : decode cX10_loads 15 = .ok (.imul, 1) := by decide +kernel
theorem dX10_loads_16 : decode cX10_loads 16 = .ok (.iload_n 3, 1) := by decide +kernel
theorem dX10_loads_17 : decode cX10_loads 17 = .ok (.iadd, 1) := by decide +kernel
theorem dX10_loads_18 : decode cX10_loads 18 = .ok (.aload_n 0, 1) := by decide +kernel
theorem dX10_loads_19 : decode cX10_loads 19 = .ok (.getfield 15, 3) := by decide +kernel
theorem dX10_loads_22 : decode cX10_loads 22 = .ok (.bipush 17, 2) := by decide +kernel
theorem dX10_loads_24 : decode cX10_loads 24 = .ok (.iload_n 1, 1) := by decide +kernel
theorem dX10_loads_25 : decode cX10_loads 25 = .ok (.imul, 1) := by decide +kernel
theorem dX10_loads_26 : decode cX10_loads 26 = .ok (.iload_n 3, 1) := by decide +kernel
theorem dX10_loads_27 : decode cX10_loads 27 = .ok (.iadd, 1) := by decide +kernel
theorem dX10_loads_28 : decode cX10_loads 28 = .ok (.laload, 1) := by decide +kernel
theorem dX10_loads_29 : decode cX10_loads 29 = .ok (.lastore, 1) := by decide +kernel
theorem dX10_loads_30 : decode cX10_loads 30 = .ok (.iinc 3 1, 3) := by decide +kernel
theorem dX10_loads_33 : decode cX10_loads 33 = .ok (.goto (-31), 3) := by decide +kernel
theorem dX10_loads_36 : decode cX10_loads 36 = .ok (.return_, 1) := by decide +kernel
theorem dX10_saves_0 : decode cX10_saves 0 = .ok (.iconst 0, 1) := by decide +kernel
theorem dX10_saves_1 : decode cX10_saves 1 = .ok (.istore_n 2, 1) := by decide +kernel
theorem dX10_saves_2 : decode cX10_saves 2 = .ok (.iload_n 2, 1) := by decide +kernel
theorem dX10_saves_3 : decode cX10_saves 3 = .ok (.bipush 17, 2) := by decide +kernel
theorem dX10_saves_5 : decode cX10_saves 5 = .ok (.if_icmp .ge 34, 3) := by decide +kernel
theorem dX10_saves_8 : decode cX10_saves 8 = .ok (.aload_n 0, 1) := by decide +kernel
theorem dX10_saves_9 : decode cX10_saves 9 = .ok (.getfield 15, 3) := by decide +kernel
theorem dX10_saves_12 : decode cX10_saves 12 = .ok (.bipush 17, 2) := by decide +kernel
theorem dX10_saves_14 : decode cX10_saves 14 = .ok (.aload_n 0, 1) := by decide +kernel
theorem dX10_saves_15 : decode cX10_saves 15 = .ok (.getfield 150, 3) := by decide +kernel
theorem dX10_saves_18 : decode cX10_saves 18 = .ok (.imul, 1) := by decide +kernel
theorem dX10_saves_19 : decode cX10_saves 19 = .ok (.iload_n 2, 1) := by decide +kernel
theorem dX10_saves_20 : decode cX10_saves 20 = .ok (.iadd, 1) := by decide +kernel
theorem dX10_saves_21 : decode cX10_saves 21 = .ok (.aload_n 0, 1) := by decide +kernel
theorem dX10_saves_22 : decode cX10_saves 22 = .ok (.getfield 11, 3) := by decide +kernel
theorem dX10_saves_25 : decode cX10_saves 25 = .ok (.bipush 17, 2) := by decide +kernel
theorem dX10_saves_27 : decode cX10_saves 27 = .ok (.iload_n 1, 1) := by decide +kernel
theorem dX10_saves_28 : decode cX10_saves 28 = .ok (.imul, 1) := by decide +kernel
theorem dX10_saves_29 : decode cX10_saves 29 = .ok (.iload_n 2, 1) := by decide +kernel
theorem dX10_saves_30 : decode cX10_saves 30 = .ok (.iadd, 1) := by decide +kernel
theorem dX10_saves_31 : decode cX10_saves 31 = .ok (.laload, 1) := by decide +kernel
theorem dX10_saves_32 : decode cX10_saves 32 = .ok (.lastore, 1) := by decide +kernel
theorem dX10_saves_33 : decode cX10_saves 33 = .ok (.iinc 2 1, 3) := by decide +kernel
theorem dX10_saves_36 : decode cX10_saves 36 = .ok (.goto (-34), 3) := by decide +kernel
theorem dX10_saves_39 : decode cX10_saves 39 = .ok (.aload_n 0, 1) := by decide +kernel
theorem dX10_saves_40 : decode cX10_saves 40 = .ok (.dup, 1) := by decide +kernel
theorem dX10_saves_41 : decode cX10_saves 41 = .ok (.getfield 150, 3) := by decide +kernel
theorem dX10_saves_44 : decode cX10_saves 44 = .ok (.iconst 1, 1) := by decide +kernel
theorem dX10_saves_45 : decode cX10_saves 45 = .ok (.iadd, 1) := by decide +kernel
theorem dX10_saves_46 : decode cX10_saves 46 = .ok (.putfield 150, 3) := by decide +kernel
theorem dX10_saves_49 : decode cX10_saves 49 = .ok (.return_, 1) := by decide +kernel
theorem dX10_isClifford_0 : decode cX10_isClifford 0 = .ok (.iload_n 0, 1) := by decide +kernel
theorem dX10_isClifford_1 : decode cX10_isClifford 1 = .ok (.ifCond .eq 23, 3) := by decide +kernel
theorem dX10_isClifford_4 : decode cX10_isClifford 4 = .ok (.iload_n 0, 1) := by decide +kernel
theorem dX10_isClifford_5 : decode cX10_isClifford 5 = .ok (.iconst 2, 1) := by decide +kernel
theorem dX10_isClifford_6 : decode cX10_isClifford 6 = .ok (.if_icmp .eq 18, 3) := by decide +kernel
theorem dX10_isClifford_9 : decode cX10_isClifford 9 = .ok (.iload_n 0, 1) := by decide +kernel
theorem dX10_isClifford_10 : decode cX10_isClifford 10 = .ok (.iconst 3, 1) := by decide +kernel
theorem dX10_isClifford_11 : decode cX10_isClifford 11 = .ok (.if_icmp .eq 13, 3) := by decide +kernel
theorem dX10_isClifford_14 : decode cX10_isClifford 14 = .ok (.iload_n 0, 1) := by decide +kernel
theorem dX10_isClifford_15 : decode cX10_isClifford 15 = .ok (.iconst 4, 1) := by decide +kernel
theorem dX10_isClifford_16 : decode cX10_isClifford 16 = .ok (.if_icmp .eq 8, 3) := by decide +kernel
theorem dX10_isClifford_19 : decode cX10_isClifford 19 = .ok (.iload_n 0, 1) := by decide +kernel
theorem dX10_isClifford_20 : decode cX10_isClifford 20 = .ok (.iconst 5, 1) := by decide +kernel
theorem dX10_isClifford_21 : decode cX10_isClifford 21 = .ok (.if_icmp .ne 7, 3) := by decide +kernel
theorem dX10_isClifford_24 : decode cX10_isClifford 24 = .ok (.iconst 1, 1) := by decide +kernel
theorem dX10_isClifford_25 : decode cX10_isClifford 25 = .ok (.goto 4, 3) := by decide +kernel
theorem dX10_isClifford_28 : decode cX10_isClifford 28 = .ok (.iconst 0, 1) := by decide +kernel
theorem dX10_isClifford_29 : decode cX10_isClifford 29 = .ok (.ireturn, 1) := by decide +kernel
theorem dX10_walks_0 : decode cX10_walks 0 = .ok (.aload_n 0, 1) := by decide +kernel
theorem dX10_walks_1 : decode cX10_walks 1 = .ok (.bipush 14, 2) := by decide +kernel
theorem dX10_walks_3 : decode cX10_walks 3 = .ok (.invokevirtual 154, 3) := by decide +kernel
theorem dX10_walks_6 : decode cX10_walks 6 = .ok (.iconst 0, 1) := by decide +kernel
theorem dX10_walks_7 : decode cX10_walks 7 = .ok (.istore_n 1, 1) := by decide +kernel
theorem dX10_walks_8 : decode cX10_walks 8 = .ok (.iload_n 1, 1) := by decide +kernel
theorem dX10_walks_9 : decode cX10_walks 9 = .ok (.aload_n 0, 1) := by decide +kernel
theorem dX10_walks_10 : decode cX10_walks 10 = .ok (.getfield 150, 3) := by decide +kernel
theorem dX10_walks_13 : decode cX10_walks 13 = .ok (.if_icmp .ge 74, 3) := by decide +kernel
theorem dX10_walks_16 : decode cX10_walks 16 = .ok (.iconst 0, 1) := by decide +kernel
theorem dX10_walks_17 : decode cX10_walks 17 = .ok (.istore_n 2, 1) := by decide +kernel
theorem dX10_walks_18 : decode cX10_walks 18 = .ok (.iload_n 2, 1) := by decide +kernel
theorem dX10_walks_19 : decode cX10_walks 19 = .ok (.iconst 3, 1) := by decide +kernel
theorem dX10_walks_20 : decode cX10_walks 20 = .ok (.if_icmp .ge 61, 3) := by decide +kernel
theorem dX10_walks_23 : decode cX10_walks 23 = .ok (.aload_n 0, 1) := by decide +kernel
theorem dX10_walks_24 : decode cX10_walks 24 = .ok (.iload_n 1, 1) := by decide +kernel
theorem dX10_walks_25 : decode cX10_walks 25 = .ok (.bipush 15, 2) := by decide +kernel
theorem dX10_walks_27 : decode cX10_walks 27 = .ok (.invokevirtual 157, 3) := by decide +kernel
theorem dX10_walks_30 : decode cX10_walks 30 = .ok (.aload_n 0, 1) := by decide +kernel
theorem dX10_walks_31 : decode cX10_walks 31 = .ok (.bipush 15, 2) := by decide +kernel
theorem dX10_walks_33 : decode cX10_walks 33 = .ok (.bipush 15, 2) := by decide +kernel
theorem dX10_walks_35 : decode cX10_walks 35 = .ok (.iconst 4, 1) := by decide +kernel
theorem dX10_walks_36 : decode cX10_walks 36 = .ok (.iload_n 2, 1) := by decide +kernel
theorem dX10_walks_37 : decode cX10_walks 37 = .ok (.ifCond .ne 7, 3) := by decide +kernel
theorem dX10_walks_40 : decode cX10_walks 40 = .ok (.iconst 0, 1) := by decide +kernel
theorem dX10_walks_41 : decode cX10_walks 41 = .ok (.goto 13, 3) := by decide +kernel
theorem dX10_walks_44 : decode cX10_walks 44 = .ok (.iload_n 2, 1) := by decide +kernel
theorem dX10_walks_45 : decode cX10_walks 45 = .ok (.iconst 1, 1) := by decide +kernel
theorem dX10_walks_46 : decode cX10_walks 46 = .ok (.if_icmp .ne 7, 3) := by decide +kernel
theorem dX10_walks_49 : decode cX10_walks 49 = .ok (.iconst 2, 1) := by decide +kernel
theorem dX10_walks_50 : decode cX10_walks 50 = .ok (.goto 4, 3) := by decide +kernel
theorem dX10_walks_53 : decode cX10_walks 53 = .ok (.iconst 5, 1) := by decide +kernel
theorem dX10_walks_54 : decode cX10_walks 54 = .ok (.iadd, 1) := by decide +kernel
theorem dX10_walks_55 : decode cX10_walks 55 = .ok (.invokevirtual 132, 3) := by decide +kernel
theorem dX10_walks_58 : decode cX10_walks 58 = .ok (.aload_n 0, 1) := by decide +kernel
theorem dX10_walks_59 : decode cX10_walks 59 = .ok (.bipush 15, 2) := by decide +kernel
theorem dX10_walks_61 : decode cX10_walks 61 = .ok (.invokevirtual 160, 3) := by decide +kernel
theorem dX10_walks_64 : decode cX10_walks 64 = .ok (.bipush (-2), 2) := by decide +kernel
theorem dX10_walks_66 : decode cX10_walks 66 = .ok (.if_icmp .ne 9, 3) := by decide +kernel
theorem dX10_walks_69 : decode cX10_walks 69 = .ok (.aload_n 0, 1) := by decide +kernel
theorem dX10_walks_70 : decode cX10_walks 70 = .ok (.bipush 15, 2) := by decide +kernel
theorem dX10_walks_72 : decode cX10_walks 72 = .ok (.invokevirtual 154, 3) := by decide +kernel
theorem dX10_walks_75 : decode cX10_walks 75 = .ok (.iinc 2 1, 3) := by decide +kernel
theorem dX10_walks_78 : decode cX10_walks 78 = .ok (.goto (-60), 3) := by decide +kernel
theorem dX10_walks_81 : decode cX10_walks 81 = .ok (.iinc 1 1, 3) := by decide +kernel
theorem dX10_walks_84 : decode cX10_walks 84 = .ok (.goto (-76), 3) := by decide +kernel
theorem dX10_walks_87 : decode cX10_walks 87 = .ok (.iconst 0, 1) := by decide +kernel
theorem dX10_walks_88 : decode cX10_walks 88 = .ok (.istore_n 1, 1) := by decide +kernel
theorem dX10_walks_89 : decode cX10_walks 89 = .ok (.iload_n 1, 1) := by decide +kernel
theorem dX10_walks_90 : decode cX10_walks 90 = .ok (.aload_n 0, 1) := by decide +kernel
theorem dX10_walks_91 : decode cX10_walks 91 = .ok (.getfield 150, 3) := by decide +kernel
theorem dX10_walks_94 : decode cX10_walks 94 = .ok (.if_icmp .ge 111, 3) := by decide +kernel
theorem dX10_walks_97 : decode cX10_walks 97 = .ok (.iconst 0, 1) := by decide +kernel
theorem dX10_walks_98 : decode cX10_walks 98 = .ok (.istore_n 2, 1) := by decide +kernel
theorem dX10_walks_99 : decode cX10_walks 99 = .ok (.iload_n 2, 1) := by decide +kernel
theorem dX10_walks_100 : decode cX10_walks 100 = .ok (.bipush 7, 2) := by decide +kernel
theorem dX10_walks_102 : decode cX10_walks 102 = .ok (.if_icmp .ge 97, 3) := by decide +kernel
theorem dX10_walks_105 : decode cX10_walks 105 = .ok (.iload_n 2, 1) := by decide +kernel
theorem dX10_walks_106 : decode cX10_walks 106 = .ok (.invokestatic 163, 3) := by decide +kernel
theorem dX10_walks_109 : decode cX10_walks 109 = .ok (.ifCond .ne 6, 3) := by decide +kernel
theorem dX10_walks_112 : decode cX10_walks 112 = .ok (.goto 81, 3) := by decide +kernel
theorem dX10_walks_115 : decode cX10_walks 115 = .ok (.aload_n 0, 1) := by decide +kernel
theorem dX10_walks_116 : decode cX10_walks 116 = .ok (.iload_n 1, 1) := by decide +kernel
theorem dX10_walks_117 : decode cX10_walks 117 = .ok (.bipush 15, 2) := by decide +kernel
theorem dX10_walks_119 : decode cX10_walks 119 = .ok (.invokevirtual 157, 3) := by decide +kernel
theorem dX10_walks_122 : decode cX10_walks 122 = .ok (.aload_n 0, 1) := by decide +kernel
theorem dX10_walks_123 : decode cX10_walks 123 = .ok (.bipush 15, 2) := by decide +kernel
theorem dX10_walks_125 : decode cX10_walks 125 = .ok (.bipush 15, 2) := by decide +kernel
theorem dX10_walks_127 : decode cX10_walks 127 = .ok (.iconst 4, 1) := by decide +kernel
theorem dX10_walks_128 : decode cX10_walks 128 = .ok (.iload_n 2, 1) := by decide +kernel
theorem dX10_walks_129 : decode cX10_walks 129 = .ok (.iadd, 1) := by decide +kernel
theorem dX10_walks_130 : decode cX10_walks 130 = .ok (.invokevirtual 132, 3) := by decide +kernel
theorem dX10_walks_133 : decode cX10_walks 133 = .ok (.aload_n 0, 1) := by decide +kernel
theorem dX10_walks_134 : decode cX10_walks 134 = .ok (.getfield 46, 3) := by decide +kernel
theorem dX10_walks_137 : decode cX10_walks 137 = .ok (.bipush 7, 2) := by decide +kernel
theorem dX10_walks_139 : decode cX10_walks 139 = .ok (.iload_n 1, 1) := by decide +kernel
theorem dX10_walks_140 : decode cX10_walks 140 = .ok (.imul, 1) := by decide +kernel
theorem dX10_walks_141 : decode cX10_walks 141 = .ok (.iload_n 2, 1) := by decide +kernel
theorem dX10_walks_142 : decode cX10_walks 142 = .ok (.iadd, 1) := by decide +kernel
theorem dX10_walks_143 : decode cX10_walks 143 = .ok (.aload_n 0, 1) := by decide +kernel
theorem dX10_walks_144 : decode cX10_walks 144 = .ok (.bipush 15, 2) := by decide +kernel
theorem dX10_walks_146 : decode cX10_walks 146 = .ok (.invokevirtual 160, 3) := by decide +kernel
theorem dX10_walks_149 : decode cX10_walks 149 = .ok (.iastore, 1) := by decide +kernel
theorem dX10_walks_150 : decode cX10_walks 150 = .ok (.aload_n 0, 1) := by decide +kernel
theorem dX10_walks_151 : decode cX10_walks 151 = .ok (.iload_n 1, 1) := by decide +kernel
theorem dX10_walks_152 : decode cX10_walks 152 = .ok (.bipush 15, 2) := by decide +kernel
theorem dX10_walks_154 : decode cX10_walks 154 = .ok (.invokevirtual 157, 3) := by decide +kernel
theorem dX10_walks_157 : decode cX10_walks 157 = .ok (.aload_n 0, 1) := by decide +kernel
theorem dX10_walks_158 : decode cX10_walks 158 = .ok (.iconst 4, 1) := by decide +kernel
theorem dX10_walks_159 : decode cX10_walks 159 = .ok (.iload_n 2, 1) := by decide +kernel
theorem dX10_walks_160 : decode cX10_walks 160 = .ok (.iadd, 1) := by decide +kernel
theorem dX10_walks_161 : decode cX10_walks 161 = .ok (.bipush 16, 2) := by decide +kernel
theorem dX10_walks_163 : decode cX10_walks 163 = .ok (.invokevirtual 138, 3) := by decide +kernel
theorem dX10_walks_166 : decode cX10_walks 166 = .ok (.aload_n 0, 1) := by decide +kernel
theorem dX10_walks_167 : decode cX10_walks 167 = .ok (.bipush 15, 2) := by decide +kernel
theorem dX10_walks_169 : decode cX10_walks 169 = .ok (.bipush 16, 2) := by decide +kernel
theorem dX10_walks_171 : decode cX10_walks 171 = .ok (.bipush 15, 2) := by decide +kernel
theorem dX10_walks_173 : decode cX10_walks 173 = .ok (.invokevirtual 132, 3) := by decide +kernel
theorem dX10_walks_176 : decode cX10_walks 176 = .ok (.aload_n 0, 1) := by decide +kernel
theorem dX10_walks_177 : decode cX10_walks 177 = .ok (.getfield 49, 3) := by decide +kernel
theorem dX10_walks_180 : decode cX10_walks 180 = .ok (.bipush 7, 2) := by decide +kernel
theorem dX10_walks_182 : decode cX10_walks 182 = .ok (.iload_n 1, 1) := by decide +kernel
theorem dX10_walks_183 : decode cX10_walks 183 = .ok (.imul, 1) := by decide +kernel
theorem dX10_walks_184 : decode cX10_walks 184 = .ok (.iload_n 2, 1) := by decide +kernel
theorem dX10_walks_185 : decode cX10_walks 185 = .ok (.iadd, 1) := by decide +kernel
theorem dX10_walks_186 : decode cX10_walks 186 = .ok (.aload_n 0, 1) := by decide +kernel
theorem dX10_walks_187 : decode cX10_walks 187 = .ok (.bipush 15, 2) := by decide +kernel
theorem dX10_walks_189 : decode cX10_walks 189 = .ok (.invokevirtual 160, 3) := by decide +kernel
theorem dX10_walks_192 : decode cX10_walks 192 = .ok (.iastore, 1) := by decide +kernel
theorem dX10_walks_193 : decode cX10_walks 193 = .ok (.iinc 2 1, 3) := by decide +kernel
theorem dX10_walks_196 : decode cX10_walks 196 = .ok (.goto (-97), 3) := by decide +kernel
theorem dX10_walks_199 : decode cX10_walks 199 = .ok (.iinc 1 1, 3) := by decide +kernel
theorem dX10_walks_202 : decode cX10_walks 202 = .ok (.goto (-113), 3) := by decide +kernel
theorem dX10_walks_205 : decode cX10_walks 205 = .ok (.return_, 1) := by decide +kernel
theorem dX10_isNumber_0 : decode cX10_isNumber 0 = .ok (.iload_n 1, 1) := by decide +kernel
theorem dX10_isNumber_1 : decode cX10_isNumber 1 = .ok (.i2l, 1) := by decide +kernel
theorem dX10_isNumber_2 : decode cX10_isNumber 2 = .ok (.lconst 0, 1) := by decide +kernel
theorem dX10_isNumber_3 : decode cX10_isNumber 3 = .ok (.aload_n 0, 1) := by decide +kernel
theorem dX10_isNumber_4 : decode cX10_isNumber 4 = .ok (.getfield 150, 3) := by decide +kernel
theorem dX10_isNumber_7 : decode cX10_isNumber 7 = .ok (.iconst 1, 1) := by decide +kernel
theorem dX10_isNumber_8 : decode cX10_isNumber 8 = .ok (.isub, 1) := by decide +kernel
theorem dX10_isNumber_9 : decode cX10_isNumber 9 = .ok (.i2l, 1) := by decide +kernel
theorem dX10_isNumber_10 : decode cX10_isNumber 10 = .ok (.invokestatic 120, 3) := by decide +kernel
theorem dX10_isNumber_13 : decode cX10_isNumber 13 = .ok (.ireturn, 1) := by decide +kernel
theorem dX10_clifford_0 : decode cX10_clifford 0 = .ok (.iload_n 1, 1) := by decide +kernel
theorem dX10_clifford_1 : decode cX10_clifford 1 = .ok (.invokestatic 126, 3) := by decide +kernel
theorem dX10_clifford_4 : decode cX10_clifford 4 = .ok (.ifCond .eq 11, 3) := by decide +kernel
theorem dX10_clifford_7 : decode cX10_clifford 7 = .ok (.aload_n 0, 1) := by decide +kernel
theorem dX10_clifford_8 : decode cX10_clifford 8 = .ok (.iload_n 1, 1) := by decide +kernel
theorem dX10_clifford_9 : decode cX10_clifford 9 = .ok (.invokevirtual 160, 3) := by decide +kernel
theorem dX10_clifford_12 : decode cX10_clifford 12 = .ok (.goto 4, 3) := by decide +kernel
theorem dX10_clifford_15 : decode cX10_clifford 15 = .ok (.iconst (-1), 1) := by decide +kernel
theorem dX10_clifford_16 : decode cX10_clifford 16 = .ok (.ireturn, 1) := by decide +kernel
theorem dX10_take_0 : decode cX10_take 0 = .ok (.iload_n 1, 1) := by decide +kernel
theorem dX10_take_1 : decode cX10_take 1 = .ok (.invokestatic 126, 3) := by decide +kernel
theorem dX10_take_4 : decode cX10_take 4 = .ok (.ifCond .eq 11, 3) := by decide +kernel
theorem dX10_take_7 : decode cX10_take 7 = .ok (.aload_n 0, 1) := by decide +kernel
theorem dX10_take_8 : decode cX10_take 8 = .ok (.iload_n 2, 1) := by decide +kernel
theorem dX10_take_9 : decode cX10_take 9 = .ok (.invokevirtual 166, 3) := by decide +kernel
theorem dX10_take_12 : decode cX10_take 12 = .ok (.ifCond .ne 5, 3) := by decide +kernel
theorem dX10_take_15 : decode cX10_take 15 = .ok (.iconst (-1), 1) := by decide +kernel
theorem dX10_take_16 : decode cX10_take 16 = .ok (.ireturn, 1) := by decide +kernel
theorem dX10_take_17 : decode cX10_take 17 = .ok (.aload_n 0, 1) := by decide +kernel
theorem dX10_take_18 : decode cX10_take 18 = .ok (.iload_n 2, 1) := by decide +kernel
theorem dX10_take_19 : decode cX10_take 19 = .ok (.iload_n 1, 1) := by decide +kernel
theorem dX10_take_20 : decode cX10_take 20 = .ok (.invokevirtual 157, 3) := by decide +kernel
theorem dX10_take_23 : decode cX10_take 23 = .ok (.aload_n 0, 1) := by decide +kernel
theorem dX10_take_24 : decode cX10_take 24 = .ok (.iload_n 1, 1) := by decide +kernel
theorem dX10_take_25 : decode cX10_take 25 = .ok (.invokevirtual 98, 3) := by decide +kernel
theorem dX10_take_28 : decode cX10_take 28 = .ok (.ireturn, 1) := by decide +kernel
theorem dX10_leads_0 : decode cX10_leads 0 = .ok (.aload_n 0, 1) := by decide +kernel
theorem dX10_leads_1 : decode cX10_leads 1 = .ok (.iload_n 1, 1) := by decide +kernel
theorem dX10_leads_2 : decode cX10_leads 2 = .ok (.invokevirtual 166, 3) := by decide +kernel
theorem dX10_leads_5 : decode cX10_leads 5 = .ok (.ifCond .eq 24, 3) := by decide +kernel
theorem dX10_leads_8 : decode cX10_leads 8 = .ok (.iload_n 2, 1) := by decide +kernel
theorem dX10_leads_9 : decode cX10_leads 9 = .ok (.invokestatic 163, 3) := by decide +kernel
theorem dX10_leads_12 : decode cX10_leads 12 = .ok (.ifCond .eq 17, 3) := by decide +kernel
theorem dX10_leads_15 : decode cX10_leads 15 = .ok (.aload_n 0, 1) := by decide +kernel
theorem dX10_leads_16 : decode cX10_leads 16 = .ok (.getfield 46, 3) := by decide +kernel
theorem dX10_leads_19 : decode cX10_leads 19 = .ok (.bipush 7, 2) := by decide +kernel
theorem dX10_leads_21 : decode cX10_leads 21 = .ok (.iload_n 1, 1) := by decide +kernel
theorem dX10_leads_22 : decode cX10_leads 22 = .ok (.imul, 1) := by decide +kernel
theorem dX10_leads_23 : decode cX10_leads 23 = .ok (.iload_n 2, 1) := by decide +kernel
theorem dX10_leads_24 : decode cX10_leads 24 = .ok (.iadd, 1) := by decide +kernel
theorem dX10_leads_25 : decode cX10_leads 25 = .ok (.iaload, 1) := by decide +kernel
theorem dX10_leads_26 : decode cX10_leads 26 = .ok (.goto 4, 3) := by decide +kernel
theorem dX10_leads_29 : decode cX10_leads 29 = .ok (.iconst (-1), 1) := by decide +kernel
theorem dX10_leads_30 : decode cX10_leads 30 = .ok (.ireturn, 1) := by decide +kernel
theorem dX10_price_0 : decode cX10_price 0 = .ok (.iload_n 1, 1) := by decide +kernel
theorem dX10_price_1 : decode cX10_price 1 = .ok (.invokestatic 129, 3) := by decide +kernel
theorem dX10_price_4 : decode cX10_price 4 = .ok (.ifCond .eq 15, 3) := by decide +kernel
theorem dX10_price_7 : decode cX10_price 7 = .ok (.iload_n 2, 1) := by decide +kernel
theorem dX10_price_8 : decode cX10_price 8 = .ok (.i2l, 1) := by decide +kernel
theorem dX10_price_9 : decode cX10_price 9 = .ok (.lconst 0, 1) := by decide +kernel
theorem dX10_price_10 : decode cX10_price 10 = .ok (.ldc2_w 169, 3) := by decide +kernel
theorem dX10_price_13 : decode cX10_price 13 = .ok (.invokestatic 120, 3) := by decide +kernel
theorem dX10_price_16 : decode cX10_price 16 = .ok (.ifCond .ne 5, 3) := by decide +kernel
theorem dX10_price_19 : decode cX10_price 19 = .ok (.iconst (-1), 1) := by decide +kernel
theorem dX10_price_20 : decode cX10_price 20 = .ok (.ireturn, 1) := by decide +kernel
theorem dX10_price_21 : decode cX10_price 21 = .ok (.aload_n 0, 1) := by decide +kernel
theorem dX10_price_22 : decode cX10_price 22 = .ok (.getfield 21, 3) := by decide +kernel
theorem dX10_price_25 : decode cX10_price 25 = .ok (.iload_n 1, 1) := by decide +kernel
theorem dX10_price_26 : decode cX10_price 26 = .ok (.iaload, 1) := by decide +kernel
theorem dX10_price_27 : decode cX10_price 27 = .ok (.istore_n 3, 1) := by decide +kernel
theorem dX10_price_28 : decode cX10_price 28 = .ok (.aload_n 0, 1) := by decide +kernel
theorem dX10_price_29 : decode cX10_price 29 = .ok (.getfield 21, 3) := by decide +kernel
theorem dX10_price_32 : decode cX10_price 32 = .ok (.iload_n 1, 1) := by decide +kernel
theorem dX10_price_33 : decode cX10_price 33 = .ok (.iload_n 2, 1) := by decide +kernel
theorem dX10_price_34 : decode cX10_price 34 = .ok (.iastore, 1) := by decide +kernel
theorem dX10_price_35 : decode cX10_price 35 = .ok (.iload_n 3, 1) := by decide +kernel
theorem dX10_price_36 : decode cX10_price 36 = .ok (.ireturn, 1) := by decide +kernel
theorem dX10_costs_0 : decode cX10_costs 0 = .ok (.iconst 0, 1) := by decide +kernel
theorem dX10_costs_1 : decode cX10_costs 1 = .ok (.istore_n 1, 1) := by decide +kernel
theorem dX10_costs_2 : decode cX10_costs 2 = .ok (.iload_n 1, 1) := by decide +kernel
theorem dX10_costs_3 : decode cX10_costs 3 = .ok (.aload_n 0, 1) := by decide +kernel
theorem dX10_costs_4 : decode cX10_costs 4 = .ok (.getfield 150, 3) := by decide +kernel
theorem dX10_costs_7 : decode cX10_costs 7 = .ok (.if_icmp .ge 32, 3) := by decide +kernel
theorem dX10_costs_10 : decode cX10_costs 10 = .ok (.aload_n 0, 1) := by decide +kernel
theorem dX10_costs_11 : decode cX10_costs 11 = .ok (.getfield 52, 3) := by decide +kernel
theorem dX10_costs_14 : decode cX10_costs 14 = .ok (.iload_n 1, 1) := by decide +kernel
theorem dX10_costs_15 : decode cX10_costs 15 = .ok (.iload_n 1, 1) := by decide +kernel
theorem dX10_costs_16 : decode cX10_costs 16 = .ok (.ifCond .ne 7, 3) := by decide +kernel
theorem dX10_costs_19 : decode cX10_costs 19 = .ok (.iconst 0, 1) := by decide +kernel
theorem dX10_costs_20 : decode cX10_costs 20 = .ok (.goto 5, 3) := by decide +kernel
theorem dX10_costs_23 : decode cX10_costs 23 = .ok (.ldc 171, 2) := by decide +kernel
theorem dX10_costs_25 : decode cX10_costs 25 = .ok (.iastore, 1) := by decide +kernel
theorem dX10_costs_26 : decode cX10_costs 26 = .ok (.aload_n 0, 1) := by decide +kernel
theorem dX10_costs_27 : decode cX10_costs 27 = .ok (.getfield 55, 3) := by decide +kernel
theorem dX10_costs_30 : decode cX10_costs 30 = .ok (.iload_n 1, 1) := by decide +kernel
theorem dX10_costs_31 : decode cX10_costs 31 = .ok (.iconst 0, 1) := by decide +kernel
theorem dX10_costs_32 : decode cX10_costs 32 = .ok (.iastore, 1) := by decide +kernel
theorem dX10_costs_33 : decode cX10_costs 33 = .ok (.iinc 1 1, 3) := by decide +kernel
theorem dX10_costs_36 : decode cX10_costs 36 = .ok (.goto (-34), 3) := by decide +kernel
theorem dX10_costs_39 : decode cX10_costs 39 = .ok (.iconst 1, 1) := by decide +kernel
theorem dX10_costs_40 : decode cX10_costs 40 = .ok (.istore_n 1, 1) := by decide +kernel
theorem dX10_costs_41 : decode cX10_costs 41 = .ok (.iload_n 1, 1) := by decide +kernel
theorem dX10_costs_42 : decode cX10_costs 42 = .ok (.ifCond .eq 155, 3) := by decide +kernel
theorem dX10_costs_45 : decode cX10_costs 45 = .ok (.iconst 0, 1) := by decide +kernel
theorem dX10_costs_46 : decode cX10_costs 46 = .ok (.istore_n 1, 1) := by decide +kernel
theorem dX10_costs_47 : decode cX10_costs 47 = .ok (.iconst 0, 1) := by decide +kernel
theorem dX10_costs_48 : decode cX10_costs 48 = .ok (.istore_n 2, 1) := by decide +kernel
theorem dX10_costs_49 : decode cX10_costs 49 = .ok (.iload_n 2, 1) := by decide +kernel
theorem dX10_costs_50 : decode cX10_costs 50 = .ok (.aload_n 0, 1) := by decide +kernel
theorem dX10_costs_51 : decode cX10_costs 51 = .ok (.getfield 150, 3) := by decide +kernel
theorem dX10_costs_54 : decode cX10_costs 54 = .ok (.if_icmp .ge 140, 3) := by decide +kernel
theorem dX10_costs_57 : decode cX10_costs 57 = .ok (.iconst 0, 1) := by decide +kernel
theorem dX10_costs_58 : decode cX10_costs 58 = .ok (.istore_n 3, 1) := by decide +kernel
theorem dX10_costs_59 : decode cX10_costs 59 = .ok (.iload_n 3, 1) := by decide +kernel
theorem dX10_costs_60 : decode cX10_costs 60 = .ok (.bipush 7, 2) := by decide +kernel
theorem dX10_costs_62 : decode cX10_costs 62 = .ok (.if_icmp .ge 126, 3) := by decide +kernel
theorem dX10_costs_65 : decode cX10_costs 65 = .ok (.aload_n 0, 1) := by decide +kernel
theorem dX10_costs_66 : decode cX10_costs 66 = .ok (.getfield 52, 3) := by decide +kernel
theorem dX10_costs_69 : decode cX10_costs 69 = .ok (.iload_n 2, 1) := by decide +kernel
theorem dX10_costs_70 : decode cX10_costs 70 = .ok (.iaload, 1) := by decide +kernel
theorem dX10_costs_71 : decode cX10_costs 71 = .ok (.ldc 171, 2) := by decide +kernel
theorem dX10_costs_73 : decode cX10_costs 73 = .ok (.if_icmp .ge 115, 3) := by decide +kernel
theorem dX10_costs_76 : decode cX10_costs 76 = .ok (.iload_n 3, 1) := by decide +kernel
theorem dX10_costs_77 : decode cX10_costs 77 = .ok (.invokestatic 163, 3) := by decide +kernel
theorem dX10_costs_80 : decode cX10_costs 80 = .ok (.ifCond .ne 6, 3) := by decide +kernel
theorem dX10_costs_83 : decode cX10_costs 83 = .ok (.goto 99, 3) := by decide +kernel
theorem dX10_costs_86 : decode cX10_costs 86 = .ok (.aload_n 0, 1) := by decide +kernel
theorem dX10_costs_87 : decode cX10_costs 87 = .ok (.getfield 46, 3) := by decide +kernel
theorem dX10_costs_90 : decode cX10_costs 90 = .ok (.bipush 7, 2) := by decide +kernel
theorem dX10_costs_92 : decode cX10_costs 92 = .ok (.iload_n 2, 1) := by decide +kernel
theorem dX10_costs_93 : decode cX10_costs 93 = .ok (.imul, 1) := by decide +kernel
theorem dX10_costs_94 : decode cX10_costs 94 = .ok (.iload_n 3, 1) := by decide +kernel
theorem dX10_costs_95 : decode cX10_costs 95 = .ok (.iadd, 1) := by decide +kernel
theorem dX10_costs_96 : decode cX10_costs 96 = .ok (.iaload, 1) := by decide +kernel
theorem dX10_costs_97 : decode cX10_costs 97 = .ok (.istore 4, 2) := by decide +kernel
theorem dX10_costs_99 : decode cX10_costs 99 = .ok (.aload_n 0, 1) := by decide +kernel
theorem dX10_costs_100 : decode cX10_costs 100 = .ok (.getfield 52, 3) := by decide +kernel
theorem dX10_costs_103 : decode cX10_costs 103 = .ok (.iload_n 2, 1) := by decide +kernel
theorem dX10_costs_104 : decode cX10_costs 104 = .ok (.iaload, 1) := by decide +kernel
theorem dX10_costs_105 : decode cX10_costs 105 = .ok (.aload_n 0, 1) := by decide +kernel
theorem dX10_costs_106 : decode cX10_costs 106 = .ok (.getfield 21, 3) := by decide +kernel
theorem dX10_costs_109 : decode cX10_costs 109 = .ok (.iload_n 3, 1) := by decide +kernel
theorem dX10_costs_110 : decode cX10_costs 110 = .ok (.iaload, 1) := by decide +kernel
theorem dX10_costs_111 : decode cX10_costs 111 = .ok (.iadd, 1) := by decide +kernel
theorem dX10_costs_112 : decode cX10_costs 112 = .ok (.istore 5, 2) := by decide +kernel
theorem dX10_costs_114 : decode cX10_costs 114 = .ok (.iload 5, 2) := by decide +kernel
theorem dX10_costs_116 : decode cX10_costs 116 = .ok (.aload_n 0, 1) := by decide +kernel
theorem dX10_costs_117 : decode cX10_costs 117 = .ok (.getfield 52, 3) := by decide +kernel
theorem dX10_costs_120 : decode cX10_costs 120 = .ok (.iload 4, 2) := by decide +kernel
theorem dX10_costs_122 : decode cX10_costs 122 = .ok (.iaload, 1) := by decide +kernel
theorem dX10_costs_123 : decode cX10_costs 123 = .ok (.if_icmp .lt 33, 3) := by decide +kernel
theorem dX10_costs_126 : decode cX10_costs 126 = .ok (.iload 5, 2) := by decide +kernel
theorem dX10_costs_128 : decode cX10_costs 128 = .ok (.aload_n 0, 1) := by decide +kernel
theorem dX10_costs_129 : decode cX10_costs 129 = .ok (.getfield 52, 3) := by decide +kernel
theorem dX10_costs_132 : decode cX10_costs 132 = .ok (.iload 4, 2) := by decide +kernel
theorem dX10_costs_134 : decode cX10_costs 134 = .ok (.iaload, 1) := by decide +kernel
theorem dX10_costs_135 : decode cX10_costs 135 = .ok (.if_icmp .ne 47, 3) := by decide +kernel
theorem dX10_costs_138 : decode cX10_costs 138 = .ok (.aload_n 0, 1) := by decide +kernel
theorem dX10_costs_139 : decode cX10_costs 139 = .ok (.getfield 55, 3) := by decide +kernel
theorem dX10_costs_142 : decode cX10_costs 142 = .ok (.iload_n 2, 1) := by decide +kernel
theorem dX10_costs_143 : decode cX10_costs 143 = .ok (.iaload, 1) := by decide +kernel
theorem dX10_costs_144 : decode cX10_costs 144 = .ok (.iconst 1, 1) := by decide +kernel
theorem dX10_costs_145 : decode cX10_costs 145 = .ok (.iadd, 1) := by decide +kernel
theorem dX10_costs_146 : decode cX10_costs 146 = .ok (.aload_n 0, 1) := by decide +kernel
theorem dX10_costs_147 : decode cX10_costs 147 = .ok (.getfield 55, 3) := by decide +kernel
theorem dX10_costs_150 : decode cX10_costs 150 = .ok (.iload 4, 2) := by decide +kernel
theorem dX10_costs_152 : decode cX10_costs 152 = .ok (.iaload, 1) := by decide +kernel
theorem dX10_costs_153 : decode cX10_costs 153 = .ok (.if_icmp .ge 29, 3) := by decide +kernel
theorem dX10_costs_156 : decode cX10_costs 156 = .ok (.aload_n 0, 1) := by decide +kernel
theorem dX10_costs_157 : decode cX10_costs 157 = .ok (.getfield 52, 3) := by decide +kernel
theorem dX10_costs_160 : decode cX10_costs 160 = .ok (.iload 4, 2) := by decide +kernel
theorem dX10_costs_162 : decode cX10_costs 162 = .ok (.iload 5, 2) := by decide +kernel
theorem dX10_costs_164 : decode cX10_costs 164 = .ok (.iastore, 1) := by decide +kernel
theorem dX10_costs_165 : decode cX10_costs 165 = .ok (.aload_n 0, 1) := by decide +kernel
theorem dX10_costs_166 : decode cX10_costs 166 = .ok (.getfield 55, 3) := by decide +kernel
theorem dX10_costs_169 : decode cX10_costs 169 = .ok (.iload 4, 2) := by decide +kernel
theorem dX10_costs_171 : decode cX10_costs 171 = .ok (.aload_n 0, 1) := by decide +kernel
theorem dX10_costs_172 : decode cX10_costs 172 = .ok (.getfield 55, 3) := by decide +kernel
theorem dX10_costs_175 : decode cX10_costs 175 = .ok (.iload_n 2, 1) := by decide +kernel
theorem dX10_costs_176 : decode cX10_costs 176 = .ok (.iaload, 1) := by decide +kernel
theorem dX10_costs_177 : decode cX10_costs 177 = .ok (.iconst 1, 1) := by decide +kernel
theorem dX10_costs_178 : decode cX10_costs 178 = .ok (.iadd, 1) := by decide +kernel
theorem dX10_costs_179 : decode cX10_costs 179 = .ok (.iastore, 1) := by decide +kernel
theorem dX10_costs_180 : decode cX10_costs 180 = .ok (.iconst 1, 1) := by decide +kernel
theorem dX10_costs_181 : decode cX10_costs 181 = .ok (.istore_n 1, 1) := by decide +kernel
theorem dX10_costs_182 : decode cX10_costs 182 = .ok (.iinc 3 1, 3) := by decide +kernel
theorem dX10_costs_185 : decode cX10_costs 185 = .ok (.goto (-126), 3) := by decide +kernel
theorem dX10_costs_188 : decode cX10_costs 188 = .ok (.iinc 2 1, 3) := by decide +kernel
theorem dX10_costs_191 : decode cX10_costs 191 = .ok (.goto (-142), 3) := by decide +kernel
theorem dX10_costs_194 : decode cX10_costs 194 = .ok (.goto (-153), 3) := by decide +kernel
theorem dX10_costs_197 : decode cX10_costs 197 = .ok (.return_, 1) := by decide +kernel
theorem dX10_cheapestBehind_0 : decode cX10_cheapestBehind 0 = .ok (.aload_n 0, 1) := by decide +kernel
theorem dX10_cheapestBehind_1 : decode cX10_cheapestBehind 1 = .ok (.invokevirtual 172, 3) := by decide +kernel
theorem dX10_cheapestBehind_4 : decode cX10_cheapestBehind 4 = .ok (.iload_n 1, 1) := by decide +kernel
theorem dX10_cheapestBehind_5 : decode cX10_cheapestBehind 5 = .ok (.istore_n 2, 1) := by decide +kernel
theorem dX10_cheapestBehind_6 : decode cX10_cheapestBehind 6 = .ok (.aload_n 0, 1) := by decide +kernel
theorem dX10_cheapestBehind_7 : decode cX10_cheapestBehind 7 = .ok (.getfield 55, 3) := by decide +kernel
theorem dX10_cheapestBehind_10 : decode cX10_cheapestBehind 10 = .ok (.iload_n 2, 1) := by decide +kernel
theorem dX10_cheapestBehind_11 : decode cX10_cheapestBehind 11 = .ok (.iaload, 1) := by decide +kernel
theorem dX10_cheapestBehind_12 : decode cX10_cheapestBehind 12 = .ok (.ifCond .le 112, 3) := by decide +kernel
theorem dX10_cheapestBehind_15 : decode cX10_cheapestBehind 15 = .ok (.iconst 0, 1) := by decide +kernel
theorem dX10_cheapestBehind_16 : decode cX10_cheapestBehind 16 = .ok (.istore_n 3, 1) := by decide +kernel
theorem dX10_cheapestBehind_17 : decode cX10_cheapestBehind 17 = .ok (.iload_n 3, 1) := by decide +kernel
theorem dX10_cheapestBehind_18 : decode cX10_cheapestBehind 18 = .ok (.invokestatic 163, 3) := by decide +kernel
theorem dX10_cheapestBehind_21 : decode cX10_cheapestBehind 21 = .ok (.ifCond .eq 62, 3) := by decide +kernel
theorem dX10_cheapestBehind_24 : decode cX10_cheapestBehind 24 = .ok (.aload_n 0, 1) := by decide +kernel
theorem dX10_cheapestBehind_25 : decode cX10_cheapestBehind 25 = .ok (.getfield 52, 3) := by decide +kernel
theorem dX10_cheapestBehind_28 : decode cX10_cheapestBehind 28 = .ok (.aload_n 0, 1) := by decide +kernel
theorem dX10_cheapestBehind_29 : decode cX10_cheapestBehind 29 = .ok (.getfield 49, 3) := by decide +kernel
theorem dX10_cheapestBehind_32 : decode cX10_cheapestBehind 32 = .ok (.bipush 7, 2) := by decide +kernel
theorem dX10_cheapestBehind_34 : decode cX10_cheapestBehind 34 = .ok (.iload_n 2, 1) := by decide +kernel
theorem dX10_cheapestBehind_35 : decode cX10_cheapestBehind 35 = .ok (.imul, 1) := by decide +kernel
theorem dX10_cheapestBehind_36 : decode cX10_cheapestBehind 36 = .ok (.iload_n 3, 1) := by decide +kernel
theorem dX10_cheapestBehind_37 : decode cX10_cheapestBehind 37 = .ok (.iadd, 1) := by decide +kernel
theorem dX10_cheapestBehind_38 : decode cX10_cheapestBehind 38 = .ok (.iaload, 1) := by decide +kernel
theorem dX10_cheapestBehind_39 : decode cX10_cheapestBehind 39 = .ok (.iaload, 1) := by decide +kernel
theorem dX10_cheapestBehind_40 : decode cX10_cheapestBehind 40 = .ok (.aload_n 0, 1) := by decide +kernel
theorem dX10_cheapestBehind_41 : decode cX10_cheapestBehind 41 = .ok (.getfield 21, 3) := by decide +kernel
theorem dX10_cheapestBehind_44 : decode cX10_cheapestBehind 44 = .ok (.iload_n 3, 1) := by decide +kernel
theorem dX10_cheapestBehind_45 : decode cX10_cheapestBehind 45 = .ok (.iaload, 1) := by decide +kernel
theorem dX10_cheapestBehind_46 : decode cX10_cheapestBehind 46 = .ok (.iadd, 1) := by decide +kernel
theorem dX10_cheapestBehind_47 : decode cX10_cheapestBehind 47 = .ok (.aload_n 0, 1) := by decide +kernel
theorem dX10_cheapestBehind_48 : decode cX10_cheapestBehind 48 = .ok (.getfield 52, 3) := by decide +kernel
theorem dX10_cheapestBehind_51 : decode cX10_cheapestBehind 51 = .ok (.iload_n 2, 1) := by decide +kernel
theorem dX10_cheapestBehind_52 : decode cX10_cheapestBehind 52 = .ok (.iaload, 1) := by decide +kernel
theorem dX10_cheapestBehind_53 : decode cX10_cheapestBehind 53 = .ok (.if_icmp .ne 30, 3) := by decide +kernel
theorem dX10_cheapestBehind_56 : decode cX10_cheapestBehind 56 = .ok (.aload_n 0, 1) := by decide +kernel
theorem dX10_cheapestBehind_57 : decode cX10_cheapestBehind 57 = .ok (.getfield 55, 3) := by decide +kernel
theorem dX10_cheapestBehind_60 : decode cX10_cheapestBehind 60 = .ok (.aload_n 0, 1) := by decide +kernel
theorem dX10_cheapestBehind_61 : decode cX10_cheapestBehind 61 = .ok (.getfield 49, 3) := by decide +kernel
theorem dX10_cheapestBehind_64 : decode cX10_cheapestBehind 64 = .ok (.bipush 7, 2) := by decide +kernel
theorem dX10_cheapestBehind_66 : decode cX10_cheapestBehind 66 = .ok (.iload_n 2, 1) := by decide +kernel
theorem dX10_cheapestBehind_67 : decode cX10_cheapestBehind 67 = .ok (.imul, 1) := by decide +kernel
theorem dX10_cheapestBehind_68 : decode cX10_cheapestBehind 68 = .ok (.iload_n 3, 1) := by decide +kernel
theorem dX10_cheapestBehind_69 : decode cX10_cheapestBehind 69 = .ok (.iadd, 1) := by decide +kernel
theorem dX10_cheapestBehind_70 : decode cX10_cheapestBehind 70 = .ok (.iaload, 1) := by decide +kernel
theorem dX10_cheapestBehind_71 : decode cX10_cheapestBehind 71 = .ok (.iaload, 1) := by decide +kernel
theorem dX10_cheapestBehind_72 : decode cX10_cheapestBehind 72 = .ok (.iconst 1, 1) := by decide +kernel
theorem dX10_cheapestBehind_73 : decode cX10_cheapestBehind 73 = .ok (.iadd, 1) := by decide +kernel
theorem dX10_cheapestBehind_74 : decode cX10_cheapestBehind 74 = .ok (.aload_n 0, 1) := by decide +kernel
theorem dX10_cheapestBehind_75 : decode cX10_cheapestBehind 75 = .ok (.getfield 55, 3) := by decide +kernel
theorem dX10_cheapestBehind_78 : decode cX10_cheapestBehind 78 = .ok (.iload_n 2, 1) := by decide +kernel
theorem dX10_cheapestBehind_79 : decode cX10_cheapestBehind 79 = .ok (.iaload, 1) := by decide +kernel
theorem dX10_cheapestBehind_80 : decode cX10_cheapestBehind 80 = .ok (.if_icmp .eq 9, 3) := by decide +kernel
theorem dX10_cheapestBehind_83 : decode cX10_cheapestBehind 83 = .ok (.iinc 3 1, 3) := by decide +kernel
theorem dX10_cheapestBehind_86 : decode cX10_cheapestBehind 86 = .ok (.goto (-69), 3) := by decide +kernel
theorem dX10_cheapestBehind_89 : decode cX10_cheapestBehind 89 = .ok (.aload_n 0, 1) := by decide +kernel
theorem dX10_cheapestBehind_90 : decode cX10_cheapestBehind 90 = .ok (.getfield 58, 3) := by decide +kernel
theorem dX10_cheapestBehind_93 : decode cX10_cheapestBehind 93 = .ok (.aload_n 0, 1) := by decide +kernel
theorem dX10_cheapestBehind_94 : decode cX10_cheapestBehind 94 = .ok (.getfield 175, 3) := by decide +kernel
theorem dX10_cheapestBehind_97 : decode cX10_cheapestBehind 97 = .ok (.iload_n 3, 1) := by decide +kernel
theorem dX10_cheapestBehind_98 : decode cX10_cheapestBehind 98 = .ok (.iastore, 1) := by decide +kernel
theorem dX10_cheapestBehind_99 : decode cX10_cheapestBehind 99 = .ok (.aload_n 0, 1) := by decide +kernel
theorem dX10_cheapestBehind_100 : decode cX10_cheapestBehind 100 = .ok (.dup, 1) := by decide +kernel
theorem dX10_cheapestBehind_101 : decode cX10_cheapestBehind 101 = .ok (.getfield 175, 3) := by decide +kernel
theorem dX10_cheapestBehind_104 : decode cX10_cheapestBehind 104 = .ok (.iconst 1, 1) := by decide +kernel
theorem dX10_cheapestBehind_105 : decode cX10_cheapestBehind 105 = .ok (.iadd, 1) := by decide +kernel
theorem dX10_cheapestBehind_106 : decode cX10_cheapestBehind 106 = .ok (.putfield 175, 3) := by decide +kernel
theorem dX10_cheapestBehind_109 : decode cX10_cheapestBehind 109 = .ok (.aload_n 0, 1) := by decide +kernel
theorem dX10_cheapestBehind_110 : decode cX10_cheapestBehind 110 = .ok (.getfield 49, 3) := by decide +kernel
theorem dX10_cheapestBehind_113 : decode cX10_cheapestBehind 113 = .ok (.bipush 7, 2) := by decide +kernel
theorem dX10_cheapestBehind_115 : decode cX10_cheapestBehind 115 = .ok (.iload_n 2, 1) := by decide +kernel
theorem dX10_cheapestBehind_116 : decode cX10_cheapestBehind 116 = .ok (.imul, 1) := by decide +kernel
theorem dX10_cheapestBehind_117 : decode cX10_cheapestBehind 117 = .ok (.iload_n 3, 1) := by decide +kernel
theorem dX10_cheapestBehind_118 : decode cX10_cheapestBehind 118 = .ok (.iadd, 1) := by decide +kernel
theorem dX10_cheapestBehind_119 : decode cX10_cheapestBehind 119 = .ok (.iaload, 1) := by decide +kernel
theorem dX10_cheapestBehind_120 : decode cX10_cheapestBehind 120 = .ok (.istore_n 2, 1) := by decide +kernel
theorem dX10_cheapestBehind_121 : decode cX10_cheapestBehind 121 = .ok (.goto (-115), 3) := by decide +kernel
theorem dX10_cheapestBehind_124 : decode cX10_cheapestBehind 124 = .ok (.return_, 1) := by decide +kernel
theorem dX10_cheapest_0 : decode cX10_cheapest 0 = .ok (.aload_n 0, 1) := by decide +kernel
theorem dX10_cheapest_1 : decode cX10_cheapest 1 = .ok (.iload_n 1, 1) := by decide +kernel
theorem dX10_cheapest_2 : decode cX10_cheapest 2 = .ok (.invokevirtual 166, 3) := by decide +kernel
theorem dX10_cheapest_5 : decode cX10_cheapest 5 = .ok (.ifCond .eq 9, 3) := by decide +kernel
end
section
theorem dX10_cheapest_8 : decode cX10_cheapest 8 = .ok (.iload_n 2, 1) := by decide +kernel
theorem dX10_cheapest_9 : decode cX10_cheapest 9 = .ok (.bipush (-2), 2) := by decide +kernel
theorem dX10_cheapest_11 : decode cX10_cheapest 11 = .ok (.if_icmp .ge 5, 3) := by decide +kernel
theorem dX10_cheapest_14 : decode cX10_cheapest 14 = .ok (.iconst (-1), 1) := by decide +kernel
theorem dX10_cheapest_15 : decode cX10_cheapest 15 = .ok (.ireturn, 1) := by decide +kernel
theorem dX10_cheapest_16 : decode cX10_cheapest 16 = .ok (.aload_n 0, 1) := by decide +kernel
theorem dX10_cheapest_17 : decode cX10_cheapest 17 = .ok (.iconst 0, 1) := by decide +kernel
theorem dX10_cheapest_18 : decode cX10_cheapest 18 = .ok (.putfield 175, 3) := by decide +kernel
theorem dX10_cheapest_21 : decode cX10_cheapest 21 = .ok (.aload_n 0, 1) := by decide +kernel
theorem dX10_cheapest_22 : decode cX10_cheapest 22 = .ok (.iload_n 1, 1) := by decide +kernel
theorem dX10_cheapest_23 : decode cX10_cheapest 23 = .ok (.invokevirtual 178, 3) := by decide +kernel
theorem dX10_cheapest_26 : decode cX10_cheapest 26 = .ok (.iload_n 2, 1) := by decide +kernel
theorem dX10_cheapest_27 : decode cX10_cheapest 27 = .ok (.bipush (-2), 2) := by decide +kernel
theorem dX10_cheapest_29 : decode cX10_cheapest 29 = .ok (.if_icmp .ne 12, 3) := by decide +kernel
theorem dX10_cheapest_32 : decode cX10_cheapest 32 = .ok (.aload_n 0, 1) := by decide +kernel
theorem dX10_cheapest_33 : decode cX10_cheapest 33 = .ok (.getfield 52, 3) := by decide +kernel
theorem dX10_cheapest_36 : decode cX10_cheapest 36 = .ok (.iload_n 1, 1) := by decide +kernel
theorem dX10_cheapest_37 : decode cX10_cheapest 37 = .ok (.iaload, 1) := by decide +kernel
theorem dX10_cheapest_38 : decode cX10_cheapest 38 = .ok (.goto 34, 3) := by decide +kernel
theorem dX10_cheapest_41 : decode cX10_cheapest 41 = .ok (.iload_n 2, 1) := by decide +kernel
theorem dX10_cheapest_42 : decode cX10_cheapest 42 = .ok (.iconst (-1), 1) := by decide +kernel
theorem dX10_cheapest_43 : decode cX10_cheapest 43 = .ok (.if_icmp .ne 10, 3) := by decide +kernel
theorem dX10_cheapest_46 : decode cX10_cheapest 46 = .ok (.aload_n 0, 1) := by decide +kernel
theorem dX10_cheapest_47 : decode cX10_cheapest 47 = .ok (.getfield 175, 3) := by decide +kernel
theorem dX10_cheapest_50 : decode cX10_cheapest 50 = .ok (.goto 22, 3) := by decide +kernel
theorem dX10_cheapest_53 : decode cX10_cheapest 53 = .ok (.iload_n 2, 1) := by decide +kernel
theorem dX10_cheapest_54 : decode cX10_cheapest 54 = .ok (.aload_n 0, 1) := by decide +kernel
theorem dX10_cheapest_55 : decode cX10_cheapest 55 = .ok (.getfield 175, 3) := by decide +kernel
theorem dX10_cheapest_58 : decode cX10_cheapest 58 = .ok (.if_icmp .ge 12, 3) := by decide +kernel
theorem dX10_cheapest_61 : decode cX10_cheapest 61 = .ok (.aload_n 0, 1) := by decide +kernel
theorem dX10_cheapest_62 : decode cX10_cheapest 62 = .ok (.getfield 58, 3) := by decide +kernel
theorem dX10_cheapest_65 : decode cX10_cheapest 65 = .ok (.iload_n 2, 1) := by decide +kernel
theorem dX10_cheapest_66 : decode cX10_cheapest 66 = .ok (.iaload, 1) := by decide +kernel
theorem dX10_cheapest_67 : decode cX10_cheapest 67 = .ok (.goto 5, 3) := by decide +kernel
theorem dX10_cheapest_70 : decode cX10_cheapest 70 = .ok (.bipush (-2), 2) := by decide +kernel
theorem dX10_cheapest_72 : decode cX10_cheapest 72 = .ok (.ireturn, 1) := by decide +kernel
theorem dX10_isWord_0 : decode cX10_isWord 0 = .ok (.iload_n 0, 1) := by decide +kernel
theorem dX10_isWord_1 : decode cX10_isWord 1 = .ok (.i2l, 1) := by decide +kernel
theorem dX10_isWord_2 : decode cX10_isWord 2 = .ok (.lconst 0, 1) := by decide +kernel
theorem dX10_isWord_3 : decode cX10_isWord 3 = .ok (.ldc2_w 96, 3) := by decide +kernel
theorem dX10_isWord_6 : decode cX10_isWord 6 = .ok (.invokestatic 120, 3) := by decide +kernel
theorem dX10_isWord_9 : decode cX10_isWord 9 = .ok (.ireturn, 1) := by decide +kernel
theorem dX10_isOther_0 : decode cX10_isOther 0 = .ok (.aload_n 0, 1) := by decide +kernel
theorem dX10_isOther_1 : decode cX10_isOther 1 = .ok (.getfield 31, 3) := by decide +kernel
theorem dX10_isOther_4 : decode cX10_isOther 4 = .ok (.iload_n 1, 1) := by decide +kernel
theorem dX10_isOther_5 : decode cX10_isOther 5 = .ok (.iaload, 1) := by decide +kernel
theorem dX10_isOther_6 : decode cX10_isOther 6 = .ok (.aload_n 0, 1) := by decide +kernel
theorem dX10_isOther_7 : decode cX10_isOther 7 = .ok (.getfield 175, 3) := by decide +kernel
theorem dX10_isOther_10 : decode cX10_isOther 10 = .ok (.if_icmp .eq 7, 3) := by decide +kernel
theorem dX10_isOther_13 : decode cX10_isOther 13 = .ok (.iconst 1, 1) := by decide +kernel
theorem dX10_isOther_14 : decode cX10_isOther 14 = .ok (.goto 4, 3) := by decide +kernel
theorem dX10_isOther_17 : decode cX10_isOther 17 = .ok (.iconst 0, 1) := by decide +kernel
theorem dX10_isOther_18 : decode cX10_isOther 18 = .ok (.istore_n 2, 1) := by decide +kernel
theorem dX10_isOther_19 : decode cX10_isOther 19 = .ok (.iconst 0, 1) := by decide +kernel
theorem dX10_isOther_20 : decode cX10_isOther 20 = .ok (.istore_n 3, 1) := by decide +kernel
theorem dX10_isOther_21 : decode cX10_isOther 21 = .ok (.iload_n 3, 1) := by decide +kernel
theorem dX10_isOther_22 : decode cX10_isOther 22 = .ok (.aload_n 0, 1) := by decide +kernel
theorem dX10_isOther_23 : decode cX10_isOther 23 = .ok (.getfield 175, 3) := by decide +kernel
theorem dX10_isOther_26 : decode cX10_isOther 26 = .ok (.if_icmp .ge 39, 3) := by decide +kernel
theorem dX10_isOther_29 : decode cX10_isOther 29 = .ok (.iload_n 2, 1) := by decide +kernel
theorem dX10_isOther_30 : decode cX10_isOther 30 = .ok (.ifCond .ne 35, 3) := by decide +kernel
theorem dX10_isOther_33 : decode cX10_isOther 33 = .ok (.aload_n 0, 1) := by decide +kernel
theorem dX10_isOther_34 : decode cX10_isOther 34 = .ok (.getfield 28, 3) := by decide +kernel
theorem dX10_isOther_37 : decode cX10_isOther 37 = .ok (.bipush 60, 2) := by decide +kernel
theorem dX10_isOther_39 : decode cX10_isOther 39 = .ok (.iload_n 1, 1) := by decide +kernel
theorem dX10_isOther_40 : decode cX10_isOther 40 = .ok (.imul, 1) := by decide +kernel
theorem dX10_isOther_41 : decode cX10_isOther 41 = .ok (.iload_n 3, 1) := by decide +kernel
theorem dX10_isOther_42 : decode cX10_isOther 42 = .ok (.iadd, 1) := by decide +kernel
theorem dX10_isOther_43 : decode cX10_isOther 43 = .ok (.iaload, 1) := by decide +kernel
theorem dX10_isOther_44 : decode cX10_isOther 44 = .ok (.aload_n 0, 1) := by decide +kernel
theorem dX10_isOther_45 : decode cX10_isOther 45 = .ok (.getfield 58, 3) := by decide +kernel
theorem dX10_isOther_48 : decode cX10_isOther 48 = .ok (.iload_n 3, 1) := by decide +kernel
theorem dX10_isOther_49 : decode cX10_isOther 49 = .ok (.iaload, 1) := by decide +kernel
theorem dX10_isOther_50 : decode cX10_isOther 50 = .ok (.if_icmp .eq 7, 3) := by decide +kernel
theorem dX10_isOther_53 : decode cX10_isOther 53 = .ok (.iconst 1, 1) := by decide +kernel
theorem dX10_isOther_54 : decode cX10_isOther 54 = .ok (.goto 4, 3) := by decide +kernel
theorem dX10_isOther_57 : decode cX10_isOther 57 = .ok (.iconst 0, 1) := by decide +kernel
theorem dX10_isOther_58 : decode cX10_isOther 58 = .ok (.istore_n 2, 1) := by decide +kernel
theorem dX10_isOther_59 : decode cX10_isOther 59 = .ok (.iinc 3 1, 3) := by decide +kernel
theorem dX10_isOther_62 : decode cX10_isOther 62 = .ok (.goto (-41), 3) := by decide +kernel
theorem dX10_isOther_65 : decode cX10_isOther 65 = .ok (.iload_n 2, 1) := by decide +kernel
theorem dX10_isOther_66 : decode cX10_isOther 66 = .ok (.ireturn, 1) := by decide +kernel
theorem dX10_becomes_0 : decode cX10_becomes 0 = .ok (.aload_n 0, 1) := by decide +kernel
theorem dX10_becomes_1 : decode cX10_becomes 1 = .ok (.iload_n 1, 1) := by decide +kernel
theorem dX10_becomes_2 : decode cX10_becomes 2 = .ok (.invokevirtual 181, 3) := by decide +kernel
theorem dX10_becomes_5 : decode cX10_becomes 5 = .ok (.ifCond .ne 8, 3) := by decide +kernel
theorem dX10_becomes_8 : decode cX10_becomes 8 = .ok (.aload_n 0, 1) := by decide +kernel
theorem dX10_becomes_9 : decode cX10_becomes 9 = .ok (.getfield 175, 3) := by decide +kernel
theorem dX10_becomes_12 : decode cX10_becomes 12 = .ok (.ireturn, 1) := by decide +kernel
theorem dX10_becomes_13 : decode cX10_becomes 13 = .ok (.aload_n 0, 1) := by decide +kernel
theorem dX10_becomes_14 : decode cX10_becomes 14 = .ok (.getfield 184, 3) := by decide +kernel
theorem dX10_becomes_17 : decode cX10_becomes 17 = .ok (.bipush 8, 2) := by decide +kernel
theorem dX10_becomes_19 : decode cX10_becomes 19 = .ok (.if_icmp .ne 93, 3) := by decide +kernel
theorem dX10_becomes_22 : decode cX10_becomes 22 = .ok (.iconst 1, 1) := by decide +kernel
theorem dX10_becomes_23 : decode cX10_becomes 23 = .ok (.istore_n 2, 1) := by decide +kernel
theorem dX10_becomes_24 : decode cX10_becomes 24 = .ok (.iload_n 2, 1) := by decide +kernel
theorem dX10_becomes_25 : decode cX10_becomes 25 = .ok (.bipush 8, 2) := by decide +kernel
theorem dX10_becomes_27 : decode cX10_becomes 27 = .ok (.if_icmp .ge 75, 3) := by decide +kernel
theorem dX10_becomes_30 : decode cX10_becomes 30 = .ok (.aload_n 0, 1) := by decide +kernel
theorem dX10_becomes_31 : decode cX10_becomes 31 = .ok (.getfield 67, 3) := by decide +kernel
theorem dX10_becomes_34 : decode cX10_becomes 34 = .ok (.iload_n 2, 1) := by decide +kernel
theorem dX10_becomes_35 : decode cX10_becomes 35 = .ok (.iconst 1, 1) := by decide +kernel
theorem dX10_becomes_36 : decode cX10_becomes 36 = .ok (.isub, 1) := by decide +kernel
theorem dX10_becomes_37 : decode cX10_becomes 37 = .ok (.aload_n 0, 1) := by decide +kernel
theorem dX10_becomes_38 : decode cX10_becomes 38 = .ok (.getfield 67, 3) := by decide +kernel
theorem dX10_becomes_41 : decode cX10_becomes 41 = .ok (.iload_n 2, 1) := by decide +kernel
theorem dX10_becomes_42 : decode cX10_becomes 42 = .ok (.iaload, 1) := by decide +kernel
theorem dX10_becomes_43 : decode cX10_becomes 43 = .ok (.iastore, 1) := by decide +kernel
theorem dX10_becomes_44 : decode cX10_becomes 44 = .ok (.aload_n 0, 1) := by decide +kernel
theorem dX10_becomes_45 : decode cX10_becomes 45 = .ok (.getfield 64, 3) := by decide +kernel
theorem dX10_becomes_48 : decode cX10_becomes 48 = .ok (.iload_n 2, 1) := by decide +kernel
theorem dX10_becomes_49 : decode cX10_becomes 49 = .ok (.iconst 1, 1) := by decide +kernel
theorem dX10_becomes_50 : decode cX10_becomes 50 = .ok (.isub, 1) := by decide +kernel
theorem dX10_becomes_51 : decode cX10_becomes 51 = .ok (.aload_n 0, 1) := by decide +kernel
theorem dX10_becomes_52 : decode cX10_becomes 52 = .ok (.getfield 64, 3) := by decide +kernel
theorem dX10_becomes_55 : decode cX10_becomes 55 = .ok (.iload_n 2, 1) := by decide +kernel
theorem dX10_becomes_56 : decode cX10_becomes 56 = .ok (.iaload, 1) := by decide +kernel
theorem dX10_becomes_57 : decode cX10_becomes 57 = .ok (.iastore, 1) := by decide +kernel
theorem dX10_becomes_58 : decode cX10_becomes 58 = .ok (.iconst 0, 1) := by decide +kernel
theorem dX10_becomes_59 : decode cX10_becomes 59 = .ok (.istore_n 3, 1) := by decide +kernel
theorem dX10_becomes_60 : decode cX10_becomes 60 = .ok (.iload_n 3, 1) := by decide +kernel
theorem dX10_becomes_61 : decode cX10_becomes 61 = .ok (.bipush 60, 2) := by decide +kernel
theorem dX10_becomes_63 : decode cX10_becomes 63 = .ok (.if_icmp .ge 33, 3) := by decide +kernel
theorem dX10_becomes_66 : decode cX10_becomes 66 = .ok (.aload_n 0, 1) := by decide +kernel
theorem dX10_becomes_67 : decode cX10_becomes 67 = .ok (.getfield 61, 3) := by decide +kernel
theorem dX10_becomes_70 : decode cX10_becomes 70 = .ok (.bipush 60, 2) := by decide +kernel
theorem dX10_becomes_72 : decode cX10_becomes 72 = .ok (.iload_n 2, 1) := by decide +kernel
theorem dX10_becomes_73 : decode cX10_becomes 73 = .ok (.iconst 1, 1) := by decide +kernel
theorem dX10_becomes_74 : decode cX10_becomes 74 = .ok (.isub, 1) := by decide +kernel
theorem dX10_becomes_75 : decode cX10_becomes 75 = .ok (.imul, 1) := by decide +kernel
theorem dX10_becomes_76 : decode cX10_becomes 76 = .ok (.iload_n 3, 1) := by decide +kernel
theorem dX10_becomes_77 : decode cX10_becomes 77 = .ok (.iadd, 1) := by decide +kernel
theorem dX10_becomes_78 : decode cX10_becomes 78 = .ok (.aload_n 0, 1) := by decide +kernel
theorem dX10_becomes_79 : decode cX10_becomes 79 = .ok (.getfield 61, 3) := by decide +kernel
theorem dX10_becomes_82 : decode cX10_becomes 82 = .ok (.bipush 60, 2) := by decide +kernel
theorem dX10_becomes_84 : decode cX10_becomes 84 = .ok (.iload_n 2, 1) := by decide +kernel
theorem dX10_becomes_85 : decode cX10_becomes 85 = .ok (.imul, 1) := by decide +kernel
theorem dX10_becomes_86 : decode cX10_becomes 86 = .ok (.iload_n 3, 1) := by decide +kernel
theorem dX10_becomes_87 : decode cX10_becomes 87 = .ok (.iadd, 1) := by decide +kernel
theorem dX10_becomes_88 : decode cX10_becomes 88 = .ok (.iaload, 1) := by decide +kernel
theorem dX10_becomes_89 : decode cX10_becomes 89 = .ok (.iastore, 1) := by decide +kernel
theorem dX10_becomes_90 : decode cX10_becomes 90 = .ok (.iinc 3 1, 3) := by decide +kernel
theorem dX10_becomes_93 : decode cX10_becomes 93 = .ok (.goto (-33), 3) := by decide +kernel
theorem dX10_becomes_96 : decode cX10_becomes 96 = .ok (.iinc 2 1, 3) := by decide +kernel
theorem dX10_becomes_99 : decode cX10_becomes 99 = .ok (.goto (-75), 3) := by decide +kernel
theorem dX10_becomes_102 : decode cX10_becomes 102 = .ok (.aload_n 0, 1) := by decide +kernel
theorem dX10_becomes_103 : decode cX10_becomes 103 = .ok (.dup, 1) := by decide +kernel
theorem dX10_becomes_104 : decode cX10_becomes 104 = .ok (.getfield 184, 3) := by decide +kernel
theorem dX10_becomes_107 : decode cX10_becomes 107 = .ok (.iconst 1, 1) := by decide +kernel
theorem dX10_becomes_108 : decode cX10_becomes 108 = .ok (.isub, 1) := by decide +kernel
theorem dX10_becomes_109 : decode cX10_becomes 109 = .ok (.putfield 184, 3) := by decide +kernel
theorem dX10_becomes_112 : decode cX10_becomes 112 = .ok (.aload_n 0, 1) := by decide +kernel
theorem dX10_becomes_113 : decode cX10_becomes 113 = .ok (.getfield 67, 3) := by decide +kernel
theorem dX10_becomes_116 : decode cX10_becomes 116 = .ok (.aload_n 0, 1) := by decide +kernel
theorem dX10_becomes_117 : decode cX10_becomes 117 = .ok (.getfield 184, 3) := by decide +kernel
theorem dX10_becomes_120 : decode cX10_becomes 120 = .ok (.iload_n 1, 1) := by decide +kernel
theorem dX10_becomes_121 : decode cX10_becomes 121 = .ok (.iastore, 1) := by decide +kernel
theorem dX10_becomes_122 : decode cX10_becomes 122 = .ok (.aload_n 0, 1) := by decide +kernel
theorem dX10_becomes_123 : decode cX10_becomes 123 = .ok (.getfield 64, 3) := by decide +kernel
theorem dX10_becomes_126 : decode cX10_becomes 126 = .ok (.aload_n 0, 1) := by decide +kernel
theorem dX10_becomes_127 : decode cX10_becomes 127 = .ok (.getfield 184, 3) := by decide +kernel
theorem dX10_becomes_130 : decode cX10_becomes 130 = .ok (.aload_n 0, 1) := by decide +kernel
theorem dX10_becomes_131 : decode cX10_becomes 131 = .ok (.getfield 31, 3) := by decide +kernel
theorem dX10_becomes_134 : decode cX10_becomes 134 = .ok (.iload_n 1, 1) := by decide +kernel
theorem dX10_becomes_135 : decode cX10_becomes 135 = .ok (.iaload, 1) := by decide +kernel
theorem dX10_becomes_136 : decode cX10_becomes 136 = .ok (.iastore, 1) := by decide +kernel
theorem dX10_becomes_137 : decode cX10_becomes 137 = .ok (.iconst 0, 1) := by decide +kernel
theorem dX10_becomes_138 : decode cX10_becomes 138 = .ok (.istore_n 2, 1) := by decide +kernel
theorem dX10_becomes_139 : decode cX10_becomes 139 = .ok (.iload_n 2, 1) := by decide +kernel
theorem dX10_becomes_140 : decode cX10_becomes 140 = .ok (.bipush 60, 2) := by decide +kernel
theorem dX10_becomes_142 : decode cX10_becomes 142 = .ok (.if_icmp .ge 34, 3) := by decide +kernel
theorem dX10_becomes_145 : decode cX10_becomes 145 = .ok (.aload_n 0, 1) := by decide +kernel
theorem dX10_becomes_146 : decode cX10_becomes 146 = .ok (.getfield 61, 3) := by decide +kernel
theorem dX10_becomes_149 : decode cX10_becomes 149 = .ok (.bipush 60, 2) := by decide +kernel
theorem dX10_becomes_151 : decode cX10_becomes 151 = .ok (.aload_n 0, 1) := by decide +kernel
theorem dX10_becomes_152 : decode cX10_becomes 152 = .ok (.getfield 184, 3) := by decide +kernel
theorem dX10_becomes_155 : decode cX10_becomes 155 = .ok (.imul, 1) := by decide +kernel
theorem dX10_becomes_156 : decode cX10_becomes 156 = .ok (.iload_n 2, 1) := by decide +kernel
theorem dX10_becomes_157 : decode cX10_becomes 157 = .ok (.iadd, 1) := by decide +kernel
theorem dX10_becomes_158 : decode cX10_becomes 158 = .ok (.aload_n 0, 1) := by decide +kernel
theorem dX10_becomes_159 : decode cX10_becomes 159 = .ok (.getfield 28, 3) := by decide +kernel
theorem dX10_becomes_162 : decode cX10_becomes 162 = .ok (.bipush 60, 2) := by decide +kernel
theorem dX10_becomes_164 : decode cX10_becomes 164 = .ok (.iload_n 1, 1) := by decide +kernel
theorem dX10_becomes_165 : decode cX10_becomes 165 = .ok (.imul, 1) := by decide +kernel
theorem dX10_becomes_166 : decode cX10_becomes 166 = .ok (.iload_n 2, 1) := by decide +kernel
theorem dX10_becomes_167 : decode cX10_becomes 167 = .ok (.iadd, 1) := by decide +kernel
theorem dX10_becomes_168 : decode cX10_becomes 168 = .ok (.iaload, 1) := by decide +kernel
theorem dX10_becomes_169 : decode cX10_becomes 169 = .ok (.iastore, 1) := by decide +kernel
theorem dX10_becomes_170 : decode cX10_becomes 170 = .ok (.iinc 2 1, 3) := by decide +kernel
theorem dX10_becomes_173 : decode cX10_becomes 173 = .ok (.goto (-34), 3) := by decide +kernel
theorem dX10_becomes_176 : decode cX10_becomes 176 = .ok (.aload_n 0, 1) := by decide +kernel
theorem dX10_becomes_177 : decode cX10_becomes 177 = .ok (.dup, 1) := by decide +kernel
theorem dX10_becomes_178 : decode cX10_becomes 178 = .ok (.getfield 184, 3) := by decide +kernel
theorem dX10_becomes_181 : decode cX10_becomes 181 = .ok (.iconst 1, 1) := by decide +kernel
theorem dX10_becomes_182 : decode cX10_becomes 182 = .ok (.iadd, 1) := by decide +kernel
theorem dX10_becomes_183 : decode cX10_becomes 183 = .ok (.putfield 184, 3) := by decide +kernel
theorem dX10_becomes_186 : decode cX10_becomes 186 = .ok (.aload_n 0, 1) := by decide +kernel
theorem dX10_becomes_187 : decode cX10_becomes 187 = .ok (.getfield 31, 3) := by decide +kernel
theorem dX10_becomes_190 : decode cX10_becomes 190 = .ok (.iload_n 1, 1) := by decide +kernel
theorem dX10_becomes_191 : decode cX10_becomes 191 = .ok (.aload_n 0, 1) := by decide +kernel
theorem dX10_becomes_192 : decode cX10_becomes 192 = .ok (.getfield 175, 3) := by decide +kernel
theorem dX10_becomes_195 : decode cX10_becomes 195 = .ok (.iastore, 1) := by decide +kernel
theorem dX10_becomes_196 : decode cX10_becomes 196 = .ok (.iconst 0, 1) := by decide +kernel
theorem dX10_becomes_197 : decode cX10_becomes 197 = .ok (.istore_n 2, 1) := by decide +kernel
theorem dX10_becomes_198 : decode cX10_becomes 198 = .ok (.iload_n 2, 1) := by decide +kernel
theorem dX10_becomes_199 : decode cX10_becomes 199 = .ok (.aload_n 0, 1) := by decide +kernel
theorem dX10_becomes_200 : decode cX10_becomes 200 = .ok (.getfield 175, 3) := by decide +kernel
theorem dX10_becomes_203 : decode cX10_becomes 203 = .ok (.if_icmp .ge 26, 3) := by decide +kernel
theorem dX10_becomes_206 : decode cX10_becomes 206 = .ok (.aload_n 0, 1) := by decide +kernel
theorem dX10_becomes_207 : decode cX10_becomes 207 = .ok (.getfield 28, 3) := by decide +kernel
theorem dX10_becomes_210 : decode cX10_becomes 210 = .ok (.bipush 60, 2) := by decide +kernel
theorem dX10_becomes_212 : decode cX10_becomes 212 = .ok (.iload_n 1, 1) := by decide +kernel
theorem dX10_becomes_213 : decode cX10_becomes 213 = .ok (.imul, 1) := by decide +kernel
theorem dX10_becomes_214 : decode cX10_becomes 214 = .ok (.iload_n 2, 1) := by decide +kernel
theorem dX10_becomes_215 : decode cX10_becomes 215 = .ok (.iadd, 1) := by decide +kernel
theorem dX10_becomes_216 : decode cX10_becomes 216 = .ok (.aload_n 0, 1) := by decide +kernel
theorem dX10_becomes_217 : decode cX10_becomes 217 = .ok (.getfield 58, 3) := by decide +kernel
theorem dX10_becomes_220 : decode cX10_becomes 220 = .ok (.iload_n 2, 1) := by decide +kernel
theorem dX10_becomes_221 : decode cX10_becomes 221 = .ok (.iaload, 1) := by decide +kernel
theorem dX10_becomes_222 : decode cX10_becomes 222 = .ok (.iastore, 1) := by decide +kernel
theorem dX10_becomes_223 : decode cX10_becomes 223 = .ok (.iinc 2 1, 3) := by decide +kernel
theorem dX10_becomes_226 : decode cX10_becomes 226 = .ok (.goto (-28), 3) := by decide +kernel
theorem dX10_becomes_229 : decode cX10_becomes 229 = .ok (.aload_n 0, 1) := by decide +kernel
theorem dX10_becomes_230 : decode cX10_becomes 230 = .ok (.getfield 175, 3) := by decide +kernel
theorem dX10_becomes_233 : decode cX10_becomes 233 = .ok (.ireturn, 1) := by decide +kernel
theorem dX10_takes_0 : decode cX10_takes 0 = .ok (.aload_n 0, 1) := by decide +kernel
theorem dX10_takes_1 : decode cX10_takes 1 = .ok (.aload_n 0, 1) := by decide +kernel
theorem dX10_takes_2 : decode cX10_takes 2 = .ok (.getfield 31, 3) := by decide +kernel
theorem dX10_takes_5 : decode cX10_takes 5 = .ok (.iload_n 1, 1) := by decide +kernel
theorem dX10_takes_6 : decode cX10_takes 6 = .ok (.iaload, 1) := by decide +kernel
theorem dX10_takes_7 : decode cX10_takes 7 = .ok (.putfield 175, 3) := by decide +kernel
theorem dX10_takes_10 : decode cX10_takes 10 = .ok (.iconst 0, 1) := by decide +kernel
theorem dX10_takes_11 : decode cX10_takes 11 = .ok (.istore_n 2, 1) := by decide +kernel
theorem dX10_takes_12 : decode cX10_takes 12 = .ok (.iload_n 2, 1) := by decide +kernel
theorem dX10_takes_13 : decode cX10_takes 13 = .ok (.aload_n 0, 1) := by decide +kernel
theorem dX10_takes_14 : decode cX10_takes 14 = .ok (.getfield 175, 3) := by decide +kernel
theorem dX10_takes_17 : decode cX10_takes 17 = .ok (.if_icmp .ge 26, 3) := by decide +kernel
theorem dX10_takes_20 : decode cX10_takes 20 = .ok (.aload_n 0, 1) := by decide +kernel
theorem dX10_takes_21 : decode cX10_takes 21 = .ok (.getfield 58, 3) := by decide +kernel
theorem dX10_takes_24 : decode cX10_takes 24 = .ok (.iload_n 2, 1) := by decide +kernel
theorem dX10_takes_25 : decode cX10_takes 25 = .ok (.aload_n 0, 1) := by decide +kernel
theorem dX10_takes_26 : decode cX10_takes 26 = .ok (.getfield 28, 3) := by decide +kernel
theorem dX10_takes_29 : decode cX10_takes 29 = .ok (.bipush 60, 2) := by decide +kernel
theorem dX10_takes_31 : decode cX10_takes 31 = .ok (.iload_n 1, 1) := by decide +kernel
theorem dX10_takes_32 : decode cX10_takes 32 = .ok (.imul, 1) := by decide +kernel
theorem dX10_takes_33 : decode cX10_takes 33 = .ok (.iload_n 2, 1) := by decide +kernel
theorem dX10_takes_34 : decode cX10_takes 34 = .ok (.iadd, 1) := by decide +kernel
theorem dX10_takes_35 : decode cX10_takes 35 = .ok (.iaload, 1) := by decide +kernel
theorem dX10_takes_36 : decode cX10_takes 36 = .ok (.iastore, 1) := by decide +kernel
theorem dX10_takes_37 : decode cX10_takes 37 = .ok (.iinc 2 1, 3) := by decide +kernel
theorem dX10_takes_40 : decode cX10_takes 40 = .ok (.goto (-28), 3) := by decide +kernel
theorem dX10_takes_43 : decode cX10_takes 43 = .ok (.return_, 1) := by decide +kernel
theorem dX10_push_0 : decode cX10_push 0 = .ok (.iload_n 1, 1) := by decide +kernel
theorem dX10_push_1 : decode cX10_push 1 = .ok (.invokestatic 187, 3) := by decide +kernel
theorem dX10_push_4 : decode cX10_push 4 = .ok (.ifCond .eq 10, 3) := by decide +kernel
theorem dX10_push_7 : decode cX10_push 7 = .ok (.iload_n 2, 1) := by decide +kernel
theorem dX10_push_8 : decode cX10_push 8 = .ok (.invokestatic 129, 3) := by decide +kernel
theorem dX10_push_11 : decode cX10_push 11 = .ok (.ifCond .ne 5, 3) := by decide +kernel
theorem dX10_push_14 : decode cX10_push 14 = .ok (.iconst (-1), 1) := by decide +kernel
theorem dX10_push_15 : decode cX10_push 15 = .ok (.ireturn, 1) := by decide +kernel
theorem dX10_push_16 : decode cX10_push 16 = .ok (.aload_n 0, 1) := by decide +kernel
theorem dX10_push_17 : decode cX10_push 17 = .ok (.getfield 31, 3) := by decide +kernel
theorem dX10_push_20 : decode cX10_push 20 = .ok (.iload_n 1, 1) := by decide +kernel
theorem dX10_push_21 : decode cX10_push 21 = .ok (.iaload, 1) := by decide +kernel
theorem dX10_push_22 : decode cX10_push 22 = .ok (.bipush 60, 2) := by decide +kernel
theorem dX10_push_24 : decode cX10_push 24 = .ok (.if_icmp .ne 6, 3) := by decide +kernel
theorem dX10_push_27 : decode cX10_push 27 = .ok (.bipush (-3), 2) := by decide +kernel
theorem dX10_push_29 : decode cX10_push 29 = .ok (.ireturn, 1) := by decide +kernel
theorem dX10_push_30 : decode cX10_push 30 = .ok (.aload_n 0, 1) := by decide +kernel
theorem dX10_push_31 : decode cX10_push 31 = .ok (.iload_n 1, 1) := by decide +kernel
theorem dX10_push_32 : decode cX10_push 32 = .ok (.invokevirtual 190, 3) := by decide +kernel
theorem dX10_push_35 : decode cX10_push 35 = .ok (.aload_n 0, 1) := by decide +kernel
theorem dX10_push_36 : decode cX10_push 36 = .ok (.getfield 58, 3) := by decide +kernel
theorem dX10_push_39 : decode cX10_push 39 = .ok (.aload_n 0, 1) := by decide +kernel
theorem dX10_push_40 : decode cX10_push 40 = .ok (.getfield 175, 3) := by decide +kernel
theorem dX10_push_43 : decode cX10_push 43 = .ok (.iload_n 2, 1) := by decide +kernel
theorem dX10_push_44 : decode cX10_push 44 = .ok (.iastore, 1) := by decide +kernel
theorem dX10_push_45 : decode cX10_push 45 = .ok (.aload_n 0, 1) := by decide +kernel
theorem dX10_push_46 : decode cX10_push 46 = .ok (.dup, 1) := by decide +kernel
theorem dX10_push_47 : decode cX10_push 47 = .ok (.getfield 175, 3) := by decide +kernel
theorem dX10_push_50 : decode cX10_push 50 = .ok (.iconst 1, 1) := by decide +kernel
theorem dX10_push_51 : decode cX10_push 51 = .ok (.iadd, 1) := by decide +kernel
theorem dX10_push_52 : decode cX10_push 52 = .ok (.putfield 175, 3) := by decide +kernel
theorem dX10_push_55 : decode cX10_push 55 = .ok (.aload_n 0, 1) := by decide +kernel
theorem dX10_push_56 : decode cX10_push 56 = .ok (.iload_n 1, 1) := by decide +kernel
theorem dX10_push_57 : decode cX10_push 57 = .ok (.invokevirtual 193, 3) := by decide +kernel
theorem dX10_push_60 : decode cX10_push 60 = .ok (.ireturn, 1) := by decide +kernel
theorem dX10_pull_0 : decode cX10_pull 0 = .ok (.iload_n 1, 1) := by decide +kernel
theorem dX10_pull_1 : decode cX10_pull 1 = .ok (.invokestatic 187, 3) := by decide +kernel
theorem dX10_pull_4 : decode cX10_pull 4 = .ok (.ifCond .ne 5, 3) := by decide +kernel
theorem dX10_pull_7 : decode cX10_pull 7 = .ok (.iconst (-1), 1) := by decide +kernel
theorem dX10_pull_8 : decode cX10_pull 8 = .ok (.ireturn, 1) := by decide +kernel
theorem dX10_pull_9 : decode cX10_pull 9 = .ok (.aload_n 0, 1) := by decide +kernel
theorem dX10_pull_10 : decode cX10_pull 10 = .ok (.getfield 31, 3) := by decide +kernel
theorem dX10_pull_13 : decode cX10_pull 13 = .ok (.iload_n 1, 1) := by decide +kernel
theorem dX10_pull_14 : decode cX10_pull 14 = .ok (.iaload, 1) := by decide +kernel
theorem dX10_pull_15 : decode cX10_pull 15 = .ok (.ifCond .ne 6, 3) := by decide +kernel
theorem dX10_pull_18 : decode cX10_pull 18 = .ok (.bipush (-2), 2) := by decide +kernel
theorem dX10_pull_20 : decode cX10_pull 20 = .ok (.ireturn, 1) := by decide +kernel
theorem dX10_pull_21 : decode cX10_pull 21 = .ok (.aload_n 0, 1) := by decide +kernel
theorem dX10_pull_22 : decode cX10_pull 22 = .ok (.iload_n 1, 1) := by decide +kernel
theorem dX10_pull_23 : decode cX10_pull 23 = .ok (.invokevirtual 190, 3) := by decide +kernel
theorem dX10_pull_26 : decode cX10_pull 26 = .ok (.aload_n 0, 1) := by decide +kernel
theorem dX10_pull_27 : decode cX10_pull 27 = .ok (.dup, 1) := by decide +kernel
theorem dX10_pull_28 : decode cX10_pull 28 = .ok (.getfield 175, 3) := by decide +kernel
theorem dX10_pull_31 : decode cX10_pull 31 = .ok (.iconst 1, 1) := by decide +kernel
theorem dX10_pull_32 : decode cX10_pull 32 = .ok (.isub, 1) := by decide +kernel
theorem dX10_pull_33 : decode cX10_pull 33 = .ok (.putfield 175, 3) := by decide +kernel
theorem dX10_pull_36 : decode cX10_pull 36 = .ok (.aload_n 0, 1) := by decide +kernel
theorem dX10_pull_37 : decode cX10_pull 37 = .ok (.getfield 58, 3) := by decide +kernel
theorem dX10_pull_40 : decode cX10_pull 40 = .ok (.aload_n 0, 1) := by decide +kernel
theorem dX10_pull_41 : decode cX10_pull 41 = .ok (.getfield 175, 3) := by decide +kernel
theorem dX10_pull_44 : decode cX10_pull 44 = .ok (.iaload, 1) := by decide +kernel
theorem dX10_pull_45 : decode cX10_pull 45 = .ok (.istore_n 2, 1) := by decide +kernel
theorem dX10_pull_46 : decode cX10_pull 46 = .ok (.aload_n 0, 1) := by decide +kernel
theorem dX10_pull_47 : decode cX10_pull 47 = .ok (.iload_n 1, 1) := by decide +kernel
theorem dX10_pull_48 : decode cX10_pull 48 = .ok (.invokevirtual 193, 3) := by decide +kernel
theorem dX10_pull_51 : decode cX10_pull 51 = .ok (.istore_n 3, 1) := by decide +kernel
theorem dX10_pull_52 : decode cX10_pull 52 = .ok (.iload_n 2, 1) := by decide +kernel
theorem dX10_pull_53 : decode cX10_pull 53 = .ok (.ireturn, 1) := by decide +kernel
theorem dX10_word_0 : decode cX10_word 0 = .ok (.iload_n 1, 1) := by decide +kernel
theorem dX10_word_1 : decode cX10_word 1 = .ok (.invokestatic 187, 3) := by decide +kernel
theorem dX10_word_4 : decode cX10_word 4 = .ok (.ifCond .eq 9, 3) := by decide +kernel
theorem dX10_word_7 : decode cX10_word 7 = .ok (.iload_n 2, 1) := by decide +kernel
theorem dX10_word_8 : decode cX10_word 8 = .ok (.bipush (-2), 2) := by decide +kernel
theorem dX10_word_10 : decode cX10_word 10 = .ok (.if_icmp .ge 5, 3) := by decide +kernel
theorem dX10_word_13 : decode cX10_word 13 = .ok (.iconst (-1), 1) := by decide +kernel
theorem dX10_word_14 : decode cX10_word 14 = .ok (.ireturn, 1) := by decide +kernel
theorem dX10_word_15 : decode cX10_word 15 = .ok (.iconst 0, 1) := by decide +kernel
theorem dX10_word_16 : decode cX10_word 16 = .ok (.istore_n 3, 1) := by decide +kernel
theorem dX10_word_17 : decode cX10_word 17 = .ok (.iconst 0, 1) := by decide +kernel
theorem dX10_word_18 : decode cX10_word 18 = .ok (.istore 4, 2) := by decide +kernel
theorem dX10_word_20 : decode cX10_word 20 = .ok (.iload 4, 2) := by decide +kernel
theorem dX10_word_22 : decode cX10_word 22 = .ok (.aload_n 0, 1) := by decide +kernel
theorem dX10_word_23 : decode cX10_word 23 = .ok (.getfield 31, 3) := by decide +kernel
theorem dX10_word_26 : decode cX10_word 26 = .ok (.iload_n 1, 1) := by decide +kernel
theorem dX10_word_27 : decode cX10_word 27 = .ok (.iaload, 1) := by decide +kernel
theorem dX10_word_28 : decode cX10_word 28 = .ok (.if_icmp .ge 29, 3) := by decide +kernel
theorem dX10_word_31 : decode cX10_word 31 = .ok (.iload_n 3, 1) := by decide +kernel
theorem dX10_word_32 : decode cX10_word 32 = .ok (.aload_n 0, 1) := by decide +kernel
theorem dX10_word_33 : decode cX10_word 33 = .ok (.getfield 21, 3) := by decide +kernel
theorem dX10_word_36 : decode cX10_word 36 = .ok (.aload_n 0, 1) := by decide +kernel
theorem dX10_word_37 : decode cX10_word 37 = .ok (.getfield 28, 3) := by decide +kernel
theorem dX10_word_40 : decode cX10_word 40 = .ok (.bipush 60, 2) := by decide +kernel
theorem dX10_word_42 : decode cX10_word 42 = .ok (.iload_n 1, 1) := by decide +kernel
theorem dX10_word_43 : decode cX10_word 43 = .ok (.imul, 1) := by decide +kernel
theorem dX10_word_44 : decode cX10_word 44 = .ok (.iload 4, 2) := by decide +kernel
theorem dX10_word_46 : decode cX10_word 46 = .ok (.iadd, 1) := by decide +kernel
theorem dX10_word_47 : decode cX10_word 47 = .ok (.iaload, 1) := by decide +kernel
theorem dX10_word_48 : decode cX10_word 48 = .ok (.iaload, 1) := by decide +kernel
theorem dX10_word_49 : decode cX10_word 49 = .ok (.iadd, 1) := by decide +kernel
theorem dX10_word_50 : decode cX10_word 50 = .ok (.istore_n 3, 1) := by decide +kernel
theorem dX10_word_51 : decode cX10_word 51 = .ok (.iinc 4 1, 3) := by decide +kernel
theorem dX10_word_54 : decode cX10_word 54 = .ok (.goto (-34), 3) := by decide +kernel
theorem dX10_word_57 : decode cX10_word 57 = .ok (.iload_n 2, 1) := by decide +kernel
theorem dX10_word_58 : decode cX10_word 58 = .ok (.bipush (-2), 2) := by decide +kernel
theorem dX10_word_60 : decode cX10_word 60 = .ok (.if_icmp .ne 7, 3) := by decide +kernel
theorem dX10_word_63 : decode cX10_word 63 = .ok (.iload_n 3, 1) := by decide +kernel
theorem dX10_word_64 : decode cX10_word 64 = .ok (.goto 43, 3) := by decide +kernel
theorem dX10_word_67 : decode cX10_word 67 = .ok (.iload_n 2, 1) := by decide +kernel
theorem dX10_word_68 : decode cX10_word 68 = .ok (.iconst (-1), 1) := by decide +kernel
theorem dX10_word_69 : decode cX10_word 69 = .ok (.if_icmp .ne 12, 3) := by decide +kernel
theorem dX10_word_72 : decode cX10_word 72 = .ok (.aload_n 0, 1) := by decide +kernel
theorem dX10_word_73 : decode cX10_word 73 = .ok (.getfield 31, 3) := by decide +kernel
theorem dX10_word_76 : decode cX10_word 76 = .ok (.iload_n 1, 1) := by decide +kernel
theorem dX10_word_77 : decode cX10_word 77 = .ok (.iaload, 1) := by decide +kernel
theorem dX10_word_78 : decode cX10_word 78 = .ok (.goto 29, 3) := by decide +kernel
theorem dX10_word_81 : decode cX10_word 81 = .ok (.iload_n 2, 1) := by decide +kernel
theorem dX10_word_82 : decode cX10_word 82 = .ok (.aload_n 0, 1) := by decide +kernel
theorem dX10_word_83 : decode cX10_word 83 = .ok (.getfield 31, 3) := by decide +kernel
theorem dX10_word_86 : decode cX10_word 86 = .ok (.iload_n 1, 1) := by decide +kernel
theorem dX10_word_87 : decode cX10_word 87 = .ok (.iaload, 1) := by decide +kernel
theorem dX10_word_88 : decode cX10_word 88 = .ok (.if_icmp .ge 17, 3) := by decide +kernel
theorem dX10_word_91 : decode cX10_word 91 = .ok (.aload_n 0, 1) := by decide +kernel
theorem dX10_word_92 : decode cX10_word 92 = .ok (.getfield 28, 3) := by decide +kernel
theorem dX10_word_95 : decode cX10_word 95 = .ok (.bipush 60, 2) := by decide +kernel
theorem dX10_word_97 : decode cX10_word 97 = .ok (.iload_n 1, 1) := by decide +kernel
theorem dX10_word_98 : decode cX10_word 98 = .ok (.imul, 1) := by decide +kernel
theorem dX10_word_99 : decode cX10_word 99 = .ok (.iload_n 2, 1) := by decide +kernel
theorem dX10_word_100 : decode cX10_word 100 = .ok (.iadd, 1) := by decide +kernel
theorem dX10_word_101 : decode cX10_word 101 = .ok (.iaload, 1) := by decide +kernel
theorem dX10_word_102 : decode cX10_word 102 = .ok (.goto 5, 3) := by decide +kernel
theorem dX10_word_105 : decode cX10_word 105 = .ok (.bipush (-2), 2) := by decide +kernel
theorem dX10_word_107 : decode cX10_word 107 = .ok (.ireturn, 1) := by decide +kernel
theorem dX10_valueOf_0 : decode cX10_valueOf 0 = .ok (.aload_n 0, 1) := by decide +kernel
theorem dX10_valueOf_1 : decode cX10_valueOf 1 = .ok (.bipush 14, 2) := by decide +kernel
theorem dX10_valueOf_3 : decode cX10_valueOf 3 = .ok (.iload_n 1, 1) := by decide +kernel
theorem dX10_valueOf_4 : decode cX10_valueOf 4 = .ok (.invokevirtual 83, 3) := by decide +kernel
theorem dX10_valueOf_7 : decode cX10_valueOf 7 = .ok (.iconst 0, 1) := by decide +kernel
theorem dX10_valueOf_8 : decode cX10_valueOf 8 = .ok (.istore 6, 2) := by decide +kernel
theorem dX10_valueOf_10 : decode cX10_valueOf 10 = .ok (.iload 6, 2) := by decide +kernel
theorem dX10_valueOf_12 : decode cX10_valueOf 12 = .ok (.iload_n 3, 1) := by decide +kernel
theorem dX10_valueOf_13 : decode cX10_valueOf 13 = .ok (.if_icmp .ge 52, 3) := by decide +kernel
theorem dX10_valueOf_16 : decode cX10_valueOf 16 = .ok (.iload 6, 2) := by decide +kernel
theorem dX10_valueOf_18 : decode cX10_valueOf 18 = .ok (.aload_n 0, 1) := by decide +kernel
theorem dX10_valueOf_19 : decode cX10_valueOf 19 = .ok (.getfield 31, 3) := by decide +kernel
theorem dX10_valueOf_22 : decode cX10_valueOf 22 = .ok (.iload_n 2, 1) := by decide +kernel
theorem dX10_valueOf_23 : decode cX10_valueOf 23 = .ok (.iaload, 1) := by decide +kernel
theorem dX10_valueOf_24 : decode cX10_valueOf 24 = .ok (.if_icmp .ge 41, 3) := by decide +kernel
theorem dX10_valueOf_27 : decode cX10_valueOf 27 = .ok (.aload_n 0, 1) := by decide +kernel
theorem dX10_valueOf_28 : decode cX10_valueOf 28 = .ok (.iload_n 1, 1) := by decide +kernel
theorem dX10_valueOf_29 : decode cX10_valueOf 29 = .ok (.iload_n 1, 1) := by decide +kernel
theorem dX10_valueOf_30 : decode cX10_valueOf 30 = .ok (.iconst 4, 1) := by decide +kernel
theorem dX10_valueOf_31 : decode cX10_valueOf 31 = .ok (.iload 6, 2) := by decide +kernel
theorem dX10_valueOf_33 : decode cX10_valueOf 33 = .ok (.iload 4, 2) := by decide +kernel
theorem dX10_valueOf_35 : decode cX10_valueOf 35 = .ok (.if_icmp .ne 8, 3) := by decide +kernel
theorem dX10_valueOf_38 : decode cX10_valueOf 38 = .ok (.iload 5, 2) := by decide +kernel
theorem dX10_valueOf_40 : decode cX10_valueOf 40 = .ok (.goto 15, 3) := by decide +kernel
theorem dX10_valueOf_43 : decode cX10_valueOf 43 = .ok (.aload_n 0, 1) := by decide +kernel
theorem dX10_valueOf_44 : decode cX10_valueOf 44 = .ok (.getfield 28, 3) := by decide +kernel
theorem dX10_valueOf_47 : decode cX10_valueOf 47 = .ok (.bipush 60, 2) := by decide +kernel
theorem dX10_valueOf_49 : decode cX10_valueOf 49 = .ok (.iload_n 2, 1) := by decide +kernel
theorem dX10_valueOf_50 : decode cX10_valueOf 50 = .ok (.imul, 1) := by decide +kernel
theorem dX10_valueOf_51 : decode cX10_valueOf 51 = .ok (.iload 6, 2) := by decide +kernel
theorem dX10_valueOf_53 : decode cX10_valueOf 53 = .ok (.iadd, 1) := by decide +kernel
theorem dX10_valueOf_54 : decode cX10_valueOf 54 = .ok (.iaload, 1) := by decide +kernel
theorem dX10_valueOf_55 : decode cX10_valueOf 55 = .ok (.iadd, 1) := by decide +kernel
theorem dX10_valueOf_56 : decode cX10_valueOf 56 = .ok (.invokevirtual 132, 3) := by decide +kernel
theorem dX10_valueOf_59 : decode cX10_valueOf 59 = .ok (.iinc 6 1, 3) := by decide +kernel
theorem dX10_valueOf_62 : decode cX10_valueOf 62 = .ok (.goto (-52), 3) := by decide +kernel
theorem dX10_valueOf_65 : decode cX10_valueOf 65 = .ok (.return_, 1) := by decide +kernel
theorem dX10_value_0 : decode cX10_value 0 = .ok (.iload_n 1, 1) := by decide +kernel
theorem dX10_value_1 : decode cX10_value 1 = .ok (.invokestatic 126, 3) := by decide +kernel
theorem dX10_value_4 : decode cX10_value 4 = .ok (.ifCond .eq 10, 3) := by decide +kernel
theorem dX10_value_7 : decode cX10_value 7 = .ok (.iload_n 2, 1) := by decide +kernel
theorem dX10_value_8 : decode cX10_value 8 = .ok (.invokestatic 187, 3) := by decide +kernel
theorem dX10_value_11 : decode cX10_value 11 = .ok (.ifCond .ne 5, 3) := by decide +kernel
theorem dX10_value_14 : decode cX10_value 14 = .ok (.iconst (-1), 1) := by decide +kernel
theorem dX10_value_15 : decode cX10_value 15 = .ok (.ireturn, 1) := by decide +kernel
theorem dX10_value_16 : decode cX10_value 16 = .ok (.aload_n 0, 1) := by decide +kernel
theorem dX10_value_17 : decode cX10_value 17 = .ok (.bipush 15, 2) := by decide +kernel
theorem dX10_value_19 : decode cX10_value 19 = .ok (.iload_n 2, 1) := by decide +kernel
theorem dX10_value_20 : decode cX10_value 20 = .ok (.bipush 60, 2) := by decide +kernel
theorem dX10_value_22 : decode cX10_value 22 = .ok (.bipush (-2), 2) := by decide +kernel
theorem dX10_value_24 : decode cX10_value 24 = .ok (.iconst 0, 1) := by decide +kernel
theorem dX10_value_25 : decode cX10_value 25 = .ok (.invokevirtual 196, 3) := by decide +kernel
theorem dX10_value_28 : decode cX10_value 28 = .ok (.aload_n 0, 1) := by decide +kernel
theorem dX10_value_29 : decode cX10_value 29 = .ok (.iload_n 1, 1) := by decide +kernel
theorem dX10_value_30 : decode cX10_value 30 = .ok (.invokevirtual 135, 3) := by decide +kernel
theorem dX10_value_33 : decode cX10_value 33 = .ok (.ireturn, 1) := by decide +kernel
theorem dX10_isPair_0 : decode cX10_isPair 0 = .ok (.iload_n 1, 1) := by decide +kernel
theorem dX10_isPair_1 : decode cX10_isPair 1 = .ok (.iconst 1, 1) := by decide +kernel
theorem dX10_isPair_2 : decode cX10_isPair 2 = .ok (.iadd, 1) := by decide +kernel
theorem dX10_isPair_3 : decode cX10_isPair 3 = .ok (.aload_n 0, 1) := by decide +kernel
theorem dX10_isPair_4 : decode cX10_isPair 4 = .ok (.getfield 175, 3) := by decide +kernel
theorem dX10_isPair_7 : decode cX10_isPair 7 = .ok (.if_icmp .ge 29, 3) := by decide +kernel
theorem dX10_isPair_10 : decode cX10_isPair 10 = .ok (.aload_n 0, 1) := by decide +kernel
theorem dX10_isPair_11 : decode cX10_isPair 11 = .ok (.getfield 58, 3) := by decide +kernel
theorem dX10_isPair_14 : decode cX10_isPair 14 = .ok (.iload_n 1, 1) := by decide +kernel
theorem dX10_isPair_15 : decode cX10_isPair 15 = .ok (.iaload, 1) := by decide +kernel
theorem dX10_isPair_16 : decode cX10_isPair 16 = .ok (.iload_n 2, 1) := by decide +kernel
theorem dX10_isPair_17 : decode cX10_isPair 17 = .ok (.if_icmp .ne 19, 3) := by decide +kernel
theorem dX10_isPair_20 : decode cX10_isPair 20 = .ok (.aload_n 0, 1) := by decide +kernel
theorem dX10_isPair_21 : decode cX10_isPair 21 = .ok (.getfield 58, 3) := by decide +kernel
theorem dX10_isPair_24 : decode cX10_isPair 24 = .ok (.iload_n 1, 1) := by decide +kernel
theorem dX10_isPair_25 : decode cX10_isPair 25 = .ok (.iconst 1, 1) := by decide +kernel
theorem dX10_isPair_26 : decode cX10_isPair 26 = .ok (.iadd, 1) := by decide +kernel
theorem dX10_isPair_27 : decode cX10_isPair 27 = .ok (.iaload, 1) := by decide +kernel
theorem dX10_isPair_28 : decode cX10_isPair 28 = .ok (.iload_n 3, 1) := by decide +kernel
theorem dX10_isPair_29 : decode cX10_isPair 29 = .ok (.if_icmp .ne 7, 3) := by decide +kernel
theorem dX10_isPair_32 : decode cX10_isPair 32 = .ok (.iconst 1, 1) := by decide +kernel
theorem dX10_isPair_33 : decode cX10_isPair 33 = .ok (.goto 4, 3) := by decide +kernel
theorem dX10_isPair_36 : decode cX10_isPair 36 = .ok (.iconst 0, 1) := by decide +kernel
theorem dX10_isPair_37 : decode cX10_isPair 37 = .ok (.ireturn, 1) := by decide +kernel
theorem dX10_cuts_0 : decode cX10_cuts 0 = .ok (.iload_n 3, 1) := by decide +kernel
theorem dX10_cuts_1 : decode cX10_cuts 1 = .ok (.ifCond .ge 7, 3) := by decide +kernel
theorem dX10_cuts_4 : decode cX10_cuts 4 = .ok (.iconst 0, 1) := by decide +kernel
theorem dX10_cuts_5 : decode cX10_cuts 5 = .ok (.goto 13, 3) := by decide +kernel
theorem dX10_cuts_8 : decode cX10_cuts 8 = .ok (.iload 4, 2) := by decide +kernel
theorem dX10_cuts_10 : decode cX10_cuts 10 = .ok (.ifCond .ge 7, 3) := by decide +kernel
theorem dX10_cuts_13 : decode cX10_cuts 13 = .ok (.iconst 1, 1) := by decide +kernel
theorem dX10_cuts_14 : decode cX10_cuts 14 = .ok (.goto 4, 3) := by decide +kernel
theorem dX10_cuts_17 : decode cX10_cuts 17 = .ok (.iconst 2, 1) := by decide +kernel
theorem dX10_cuts_18 : decode cX10_cuts 18 = .ok (.istore 5, 2) := by decide +kernel
theorem dX10_cuts_20 : decode cX10_cuts 20 = .ok (.iload_n 1, 1) := by decide +kernel
theorem dX10_cuts_21 : decode cX10_cuts 21 = .ok (.iload_n 2, 1) := by decide +kernel
theorem dX10_cuts_22 : decode cX10_cuts 22 = .ok (.iadd, 1) := by decide +kernel
theorem dX10_cuts_23 : decode cX10_cuts 23 = .ok (.istore 6, 2) := by decide +kernel
theorem dX10_cuts_25 : decode cX10_cuts 25 = .ok (.iload 6, 2) := by decide +kernel
theorem dX10_cuts_27 : decode cX10_cuts 27 = .ok (.aload_n 0, 1) := by decide +kernel
theorem dX10_cuts_28 : decode cX10_cuts 28 = .ok (.getfield 175, 3) := by decide +kernel
theorem dX10_cuts_31 : decode cX10_cuts 31 = .ok (.if_icmp .ge 28, 3) := by decide +kernel
theorem dX10_cuts_34 : decode cX10_cuts 34 = .ok (.aload_n 0, 1) := by decide +kernel
theorem dX10_cuts_35 : decode cX10_cuts 35 = .ok (.getfield 58, 3) := by decide +kernel
theorem dX10_cuts_38 : decode cX10_cuts 38 = .ok (.iload 6, 2) := by decide +kernel
theorem dX10_cuts_40 : decode cX10_cuts 40 = .ok (.iload_n 2, 1) := by decide +kernel
theorem dX10_cuts_41 : decode cX10_cuts 41 = .ok (.isub, 1) := by decide +kernel
theorem dX10_cuts_42 : decode cX10_cuts 42 = .ok (.iload 5, 2) := by decide +kernel
theorem dX10_cuts_44 : decode cX10_cuts 44 = .ok (.iadd, 1) := by decide +kernel
theorem dX10_cuts_45 : decode cX10_cuts 45 = .ok (.aload_n 0, 1) := by decide +kernel
theorem dX10_cuts_46 : decode cX10_cuts 46 = .ok (.getfield 58, 3) := by decide +kernel
theorem dX10_cuts_49 : decode cX10_cuts 49 = .ok (.iload 6, 2) := by decide +kernel
theorem dX10_cuts_51 : decode cX10_cuts 51 = .ok (.iaload, 1) := by decide +kernel
theorem dX10_cuts_52 : decode cX10_cuts 52 = .ok (.iastore, 1) := by decide +kernel
theorem dX10_cuts_53 : decode cX10_cuts 53 = .ok (.iinc 6 1, 3) := by decide +kernel
theorem dX10_cuts_56 : decode cX10_cuts 56 = .ok (.goto (-31), 3) := by decide +kernel
theorem dX10_cuts_59 : decode cX10_cuts 59 = .ok (.aload_n 0, 1) := by decide +kernel
theorem dX10_cuts_60 : decode cX10_cuts 60 = .ok (.dup, 1) := by decide +kernel
theorem dX10_cuts_61 : decode cX10_cuts 61 = .ok (.getfield 175, 3) := by decide +kernel
theorem dX10_cuts_64 : decode cX10_cuts 64 = .ok (.iload 5, 2) := by decide +kernel
theorem dX10_cuts_66 : decode cX10_cuts 66 = .ok (.iload_n 2, 1) := by decide +kernel
theorem dX10_cuts_67 : decode cX10_cuts 67 = .ok (.isub, 1) := by decide +kernel
theorem dX10_cuts_68 : decode cX10_cuts 68 = .ok (.iadd, 1) := by decide +kernel
theorem dX10_cuts_69 : decode cX10_cuts 69 = .ok (.putfield 175, 3) := by decide +kernel
theorem dX10_cuts_72 : decode cX10_cuts 72 = .ok (.iload 5, 2) := by decide +kernel
theorem dX10_cuts_74 : decode cX10_cuts 74 = .ok (.ifCond .le 10, 3) := by decide +kernel
theorem dX10_cuts_77 : decode cX10_cuts 77 = .ok (.aload_n 0, 1) := by decide +kernel
theorem dX10_cuts_78 : decode cX10_cuts 78 = .ok (.getfield 58, 3) := by decide +kernel
theorem dX10_cuts_81 : decode cX10_cuts 81 = .ok (.iload_n 1, 1) := by decide +kernel
theorem dX10_cuts_82 : decode cX10_cuts 82 = .ok (.iload_n 3, 1) := by decide +kernel
theorem dX10_cuts_83 : decode cX10_cuts 83 = .ok (.iastore, 1) := by decide +kernel
theorem dX10_cuts_84 : decode cX10_cuts 84 = .ok (.iload 5, 2) := by decide +kernel
theorem dX10_cuts_86 : decode cX10_cuts 86 = .ok (.iconst 1, 1) := by decide +kernel
theorem dX10_cuts_87 : decode cX10_cuts 87 = .ok (.if_icmp .le 13, 3) := by decide +kernel
theorem dX10_cuts_90 : decode cX10_cuts 90 = .ok (.aload_n 0, 1) := by decide +kernel
theorem dX10_cuts_91 : decode cX10_cuts 91 = .ok (.getfield 58, 3) := by decide +kernel
theorem dX10_cuts_94 : decode cX10_cuts 94 = .ok (.iload_n 1, 1) := by decide +kernel
theorem dX10_cuts_95 : decode cX10_cuts 95 = .ok (.iconst 1, 1) := by decide +kernel
theorem dX10_cuts_96 : decode cX10_cuts 96 = .ok (.iadd, 1) := by decide +kernel
theorem dX10_cuts_97 : decode cX10_cuts 97 = .ok (.iload 4, 2) := by decide +kernel
theorem dX10_cuts_99 : decode cX10_cuts 99 = .ok (.iastore, 1) := by decide +kernel
theorem dX10_cuts_100 : decode cX10_cuts 100 = .ok (.return_, 1) := by decide +kernel
theorem dX10_isRuled_0 : decode cX10_isRuled 0 = .ok (.aload_n 0, 1) := by decide +kernel
theorem dX10_isRuled_1 : decode cX10_isRuled 1 = .ok (.iload_n 1, 1) := by decide +kernel
theorem dX10_isRuled_2 : decode cX10_isRuled 2 = .ok (.iconst 0, 1) := by decide +kernel
theorem dX10_isRuled_3 : decode cX10_isRuled 3 = .ok (.iconst 0, 1) := by decide +kernel
theorem dX10_isRuled_4 : decode cX10_isRuled 4 = .ok (.invokevirtual 200, 3) := by decide +kernel
theorem dX10_isRuled_7 : decode cX10_isRuled 7 = .ok (.ifCond .ne 45, 3) := by decide +kernel
theorem dX10_isRuled_10 : decode cX10_isRuled 10 = .ok (.aload_n 0, 1) := by decide +kernel
theorem dX10_isRuled_11 : decode cX10_isRuled 11 = .ok (.iload_n 1, 1) := by decide +kernel
theorem dX10_isRuled_12 : decode cX10_isRuled 12 = .ok (.iconst 3, 1) := by decide +kernel
theorem dX10_isRuled_13 : decode cX10_isRuled 13 = .ok (.iconst 3, 1) := by decide +kernel
theorem dX10_isRuled_14 : decode cX10_isRuled 14 = .ok (.invokevirtual 200, 3) := by decide +kernel
theorem dX10_isRuled_17 : decode cX10_isRuled 17 = .ok (.ifCond .ne 35, 3) := by decide +kernel
theorem dX10_isRuled_20 : decode cX10_isRuled 20 = .ok (.aload_n 0, 1) := by decide +kernel
theorem dX10_isRuled_21 : decode cX10_isRuled 21 = .ok (.iload_n 1, 1) := by decide +kernel
theorem dX10_isRuled_22 : decode cX10_isRuled 22 = .ok (.iconst 4, 1) := by decide +kernel
theorem dX10_isRuled_23 : decode cX10_isRuled 23 = .ok (.iconst 4, 1) := by decide +kernel
theorem dX10_isRuled_24 : decode cX10_isRuled 24 = .ok (.invokevirtual 200, 3) := by decide +kernel
theorem dX10_isRuled_27 : decode cX10_isRuled 27 = .ok (.ifCond .ne 25, 3) := by decide +kernel
theorem dX10_isRuled_30 : decode cX10_isRuled 30 = .ok (.aload_n 0, 1) := by decide +kernel
theorem dX10_isRuled_31 : decode cX10_isRuled 31 = .ok (.iload_n 1, 1) := by decide +kernel
theorem dX10_isRuled_32 : decode cX10_isRuled 32 = .ok (.iconst 1, 1) := by decide +kernel
theorem dX10_isRuled_33 : decode cX10_isRuled 33 = .ok (.bipush 6, 2) := by decide +kernel
theorem dX10_isRuled_35 : decode cX10_isRuled 35 = .ok (.invokevirtual 200, 3) := by decide +kernel
theorem dX10_isRuled_38 : decode cX10_isRuled 38 = .ok (.ifCond .ne 14, 3) := by decide +kernel
theorem dX10_isRuled_41 : decode cX10_isRuled 41 = .ok (.aload_n 0, 1) := by decide +kernel
theorem dX10_isRuled_42 : decode cX10_isRuled 42 = .ok (.iload_n 1, 1) := by decide +kernel
theorem dX10_isRuled_43 : decode cX10_isRuled 43 = .ok (.bipush 6, 2) := by decide +kernel
theorem dX10_isRuled_45 : decode cX10_isRuled 45 = .ok (.iconst 1, 1) := by decide +kernel
theorem dX10_isRuled_46 : decode cX10_isRuled 46 = .ok (.invokevirtual 200, 3) := by decide +kernel
theorem dX10_isRuled_49 : decode cX10_isRuled 49 = .ok (.ifCond .eq 15, 3) := by decide +kernel
theorem dX10_isRuled_52 : decode cX10_isRuled 52 = .ok (.aload_n 0, 1) := by decide +kernel
theorem dX10_isRuled_53 : decode cX10_isRuled 53 = .ok (.iload_n 1, 1) := by decide +kernel
theorem dX10_isRuled_54 : decode cX10_isRuled 54 = .ok (.iconst 2, 1) := by decide +kernel
theorem dX10_isRuled_55 : decode cX10_isRuled 55 = .ok (.bipush (-2), 2) := by decide +kernel
theorem dX10_isRuled_57 : decode cX10_isRuled 57 = .ok (.bipush (-2), 2) := by decide +kernel
theorem dX10_isRuled_59 : decode cX10_isRuled 59 = .ok (.invokevirtual 204, 3) := by decide +kernel
theorem dX10_isRuled_62 : decode cX10_isRuled 62 = .ok (.iconst 1, 1) := by decide +kernel
theorem dX10_isRuled_63 : decode cX10_isRuled 63 = .ok (.ireturn, 1) := by decide +kernel
theorem dX10_isRuled_64 : decode cX10_isRuled 64 = .ok (.iconst 0, 1) := by decide +kernel
theorem dX10_isRuled_65 : decode cX10_isRuled 65 = .ok (.istore_n 2, 1) := by decide +kernel
theorem dX10_isRuled_66 : decode cX10_isRuled 66 = .ok (.iload_n 2, 1) := by decide +kernel
theorem dX10_isRuled_67 : decode cX10_isRuled 67 = .ok (.bipush 8, 2) := by decide +kernel
theorem dX10_isRuled_69 : decode cX10_isRuled 69 = .ok (.if_icmp .ge 31, 3) := by decide +kernel
theorem dX10_isRuled_72 : decode cX10_isRuled 72 = .ok (.iload_n 1, 1) := by decide +kernel
theorem dX10_isRuled_73 : decode cX10_isRuled 73 = .ok (.iload_n 2, 1) := by decide +kernel
theorem dX10_isRuled_74 : decode cX10_isRuled 74 = .ok (.iadd, 1) := by decide +kernel
theorem dX10_isRuled_75 : decode cX10_isRuled 75 = .ok (.aload_n 0, 1) := by decide +kernel
theorem dX10_isRuled_76 : decode cX10_isRuled 76 = .ok (.getfield 175, 3) := by decide +kernel
theorem dX10_isRuled_79 : decode cX10_isRuled 79 = .ok (.if_icmp .ge 21, 3) := by decide +kernel
theorem dX10_isRuled_82 : decode cX10_isRuled 82 = .ok (.aload_n 0, 1) := by decide +kernel
theorem dX10_isRuled_83 : decode cX10_isRuled 83 = .ok (.getfield 58, 3) := by decide +kernel
theorem dX10_isRuled_86 : decode cX10_isRuled 86 = .ok (.iload_n 1, 1) := by decide +kernel
theorem dX10_isRuled_87 : decode cX10_isRuled 87 = .ok (.iload_n 2, 1) := by decide +kernel
theorem dX10_isRuled_88 : decode cX10_isRuled 88 = .ok (.iadd, 1) := by decide +kernel
theorem dX10_isRuled_89 : decode cX10_isRuled 89 = .ok (.iaload, 1) := by decide +kernel
theorem dX10_isRuled_90 : decode cX10_isRuled 90 = .ok (.iconst 5, 1) := by decide +kernel
theorem dX10_isRuled_91 : decode cX10_isRuled 91 = .ok (.if_icmp .ne 9, 3) := by decide +kernel
theorem dX10_isRuled_94 : decode cX10_isRuled 94 = .ok (.iinc 2 1, 3) := by decide +kernel
theorem dX10_isRuled_97 : decode cX10_isRuled 97 = .ok (.goto (-31), 3) := by decide +kernel
theorem dX10_isRuled_100 : decode cX10_isRuled 100 = .ok (.iload_n 2, 1) := by decide +kernel
theorem dX10_isRuled_101 : decode cX10_isRuled 101 = .ok (.bipush 8, 2) := by decide +kernel
theorem dX10_isRuled_103 : decode cX10_isRuled 103 = .ok (.if_icmp .ne 16, 3) := by decide +kernel
theorem dX10_isRuled_106 : decode cX10_isRuled 106 = .ok (.aload_n 0, 1) := by decide +kernel
theorem dX10_isRuled_107 : decode cX10_isRuled 107 = .ok (.iload_n 1, 1) := by decide +kernel
theorem dX10_isRuled_108 : decode cX10_isRuled 108 = .ok (.bipush 8, 2) := by decide +kernel
theorem dX10_isRuled_110 : decode cX10_isRuled 110 = .ok (.bipush (-2), 2) := by decide +kernel
theorem dX10_isRuled_112 : decode cX10_isRuled 112 = .ok (.bipush (-2), 2) := by decide +kernel
theorem dX10_isRuled_114 : decode cX10_isRuled 114 = .ok (.invokevirtual 204, 3) := by decide +kernel
theorem dX10_isRuled_117 : decode cX10_isRuled 117 = .ok (.iconst 1, 1) := by decide +kernel
theorem dX10_isRuled_118 : decode cX10_isRuled 118 = .ok (.ireturn, 1) := by decide +kernel
theorem dX10_isRuled_119 : decode cX10_isRuled 119 = .ok (.aload_n 0, 1) := by decide +kernel
theorem dX10_isRuled_120 : decode cX10_isRuled 120 = .ok (.iload_n 1, 1) := by decide +kernel
theorem dX10_isRuled_121 : decode cX10_isRuled 121 = .ok (.iconst 1, 1) := by decide +kernel
theorem dX10_isRuled_122 : decode cX10_isRuled 122 = .ok (.iconst 1, 1) := by decide +kernel
theorem dX10_isRuled_123 : decode cX10_isRuled 123 = .ok (.invokevirtual 200, 3) := by decide +kernel
theorem dX10_isRuled_126 : decode cX10_isRuled 126 = .ok (.ifCond .eq 14, 3) := by decide +kernel
theorem dX10_isRuled_129 : decode cX10_isRuled 129 = .ok (.aload_n 0, 1) := by decide +kernel
theorem dX10_isRuled_130 : decode cX10_isRuled 130 = .ok (.iload_n 1, 1) := by decide +kernel
theorem dX10_isRuled_131 : decode cX10_isRuled 131 = .ok (.iconst 2, 1) := by decide +kernel
theorem dX10_isRuled_132 : decode cX10_isRuled 132 = .ok (.iconst 2, 1) := by decide +kernel
theorem dX10_isRuled_133 : decode cX10_isRuled 133 = .ok (.bipush (-2), 2) := by decide +kernel
theorem dX10_isRuled_135 : decode cX10_isRuled 135 = .ok (.invokevirtual 204, 3) := by decide +kernel
theorem dX10_isRuled_138 : decode cX10_isRuled 138 = .ok (.iconst 1, 1) := by decide +kernel
theorem dX10_isRuled_139 : decode cX10_isRuled 139 = .ok (.ireturn, 1) := by decide +kernel
theorem dX10_isRuled_140 : decode cX10_isRuled 140 = .ok (.aload_n 0, 1) := by decide +kernel
theorem dX10_isRuled_141 : decode cX10_isRuled 141 = .ok (.iload_n 1, 1) := by decide +kernel
theorem dX10_isRuled_142 : decode cX10_isRuled 142 = .ok (.bipush 6, 2) := by decide +kernel
theorem dX10_isRuled_144 : decode cX10_isRuled 144 = .ok (.bipush 6, 2) := by decide +kernel
theorem dX10_isRuled_146 : decode cX10_isRuled 146 = .ok (.invokevirtual 200, 3) := by decide +kernel
theorem dX10_isRuled_149 : decode cX10_isRuled 149 = .ok (.ifCond .eq 13, 3) := by decide +kernel
theorem dX10_isRuled_152 : decode cX10_isRuled 152 = .ok (.aload_n 0, 1) := by decide +kernel
theorem dX10_isRuled_153 : decode cX10_isRuled 153 = .ok (.iload_n 1, 1) := by decide +kernel
theorem dX10_isRuled_154 : decode cX10_isRuled 154 = .ok (.iconst 2, 1) := by decide +kernel
theorem dX10_isRuled_155 : decode cX10_isRuled 155 = .ok (.iconst 2, 1) := by decide +kernel
theorem dX10_isRuled_156 : decode cX10_isRuled 156 = .ok (.iconst 4, 1) := by decide +kernel
theorem dX10_isRuled_157 : decode cX10_isRuled 157 = .ok (.invokevirtual 204, 3) := by decide +kernel
theorem dX10_isRuled_160 : decode cX10_isRuled 160 = .ok (.iconst 1, 1) := by decide +kernel
theorem dX10_isRuled_161 : decode cX10_isRuled 161 = .ok (.ireturn, 1) := by decide +kernel
theorem dX10_isRuled_162 : decode cX10_isRuled 162 = .ok (.aload_n 0, 1) := by decide +kernel
theorem dX10_isRuled_163 : decode cX10_isRuled 163 = .ok (.iload_n 1, 1) := by decide +kernel
theorem dX10_isRuled_164 : decode cX10_isRuled 164 = .ok (.iconst 2, 1) := by decide +kernel
theorem dX10_isRuled_165 : decode cX10_isRuled 165 = .ok (.iconst 2, 1) := by decide +kernel
theorem dX10_isRuled_166 : decode cX10_isRuled 166 = .ok (.invokevirtual 200, 3) := by decide +kernel
theorem dX10_isRuled_169 : decode cX10_isRuled 169 = .ok (.ifCond .eq 14, 3) := by decide +kernel
theorem dX10_isRuled_172 : decode cX10_isRuled 172 = .ok (.aload_n 0, 1) := by decide +kernel
theorem dX10_isRuled_173 : decode cX10_isRuled 173 = .ok (.iload_n 1, 1) := by decide +kernel
theorem dX10_isRuled_174 : decode cX10_isRuled 174 = .ok (.iconst 2, 1) := by decide +kernel
theorem dX10_isRuled_175 : decode cX10_isRuled 175 = .ok (.iconst 4, 1) := by decide +kernel
theorem dX10_isRuled_176 : decode cX10_isRuled 176 = .ok (.bipush (-2), 2) := by decide +kernel
theorem dX10_isRuled_178 : decode cX10_isRuled 178 = .ok (.invokevirtual 204, 3) := by decide +kernel
theorem dX10_isRuled_181 : decode cX10_isRuled 181 = .ok (.iconst 1, 1) := by decide +kernel
theorem dX10_isRuled_182 : decode cX10_isRuled 182 = .ok (.ireturn, 1) := by decide +kernel
theorem dX10_isRuled_183 : decode cX10_isRuled 183 = .ok (.aload_n 0, 1) := by decide +kernel
theorem dX10_isRuled_184 : decode cX10_isRuled 184 = .ok (.iload_n 1, 1) := by decide +kernel
theorem dX10_isRuled_185 : decode cX10_isRuled 185 = .ok (.iconst 2, 1) := by decide +kernel
theorem dX10_isRuled_186 : decode cX10_isRuled 186 = .ok (.bipush 6, 2) := by decide +kernel
theorem dX10_isRuled_188 : decode cX10_isRuled 188 = .ok (.invokevirtual 200, 3) := by decide +kernel
theorem dX10_isRuled_191 : decode cX10_isRuled 191 = .ok (.ifCond .ne 14, 3) := by decide +kernel
theorem dX10_isRuled_194 : decode cX10_isRuled 194 = .ok (.aload_n 0, 1) := by decide +kernel
theorem dX10_isRuled_195 : decode cX10_isRuled 195 = .ok (.iload_n 1, 1) := by decide +kernel
theorem dX10_isRuled_196 : decode cX10_isRuled 196 = .ok (.bipush 6, 2) := by decide +kernel
theorem dX10_isRuled_198 : decode cX10_isRuled 198 = .ok (.iconst 2, 1) := by decide +kernel
theorem dX10_isRuled_199 : decode cX10_isRuled 199 = .ok (.invokevirtual 200, 3) := by decide +kernel
theorem dX10_isRuled_202 : decode cX10_isRuled 202 = .ok (.ifCond .eq 14, 3) := by decide +kernel
theorem dX10_isRuled_205 : decode cX10_isRuled 205 = .ok (.aload_n 0, 1) := by decide +kernel
theorem dX10_isRuled_206 : decode cX10_isRuled 206 = .ok (.iload_n 1, 1) := by decide +kernel
theorem dX10_isRuled_207 : decode cX10_isRuled 207 = .ok (.iconst 2, 1) := by decide +kernel
theorem dX10_isRuled_208 : decode cX10_isRuled 208 = .ok (.iconst 1, 1) := by decide +kernel
theorem dX10_isRuled_209 : decode cX10_isRuled 209 = .ok (.bipush (-2), 2) := by decide +kernel
theorem dX10_isRuled_211 : decode cX10_isRuled 211 = .ok (.invokevirtual 204, 3) := by decide +kernel
theorem dX10_isRuled_214 : decode cX10_isRuled 214 = .ok (.iconst 1, 1) := by decide +kernel
theorem dX10_isRuled_215 : decode cX10_isRuled 215 = .ok (.ireturn, 1) := by decide +kernel
theorem dX10_isRuled_216 : decode cX10_isRuled 216 = .ok (.iconst 0, 1) := by decide +kernel
theorem dX10_isRuled_217 : decode cX10_isRuled 217 = .ok (.ireturn, 1) := by decide +kernel
theorem dX10_shorter_0 : decode cX10_shorter 0 = .ok (.iload_n 1, 1) := by decide +kernel
theorem dX10_shorter_1 : decode cX10_shorter 1 = .ok (.invokestatic 187, 3) := by decide +kernel
theorem dX10_shorter_4 : decode cX10_shorter 4 = .ok (.ifCond .ne 5, 3) := by decide +kernel
theorem dX10_shorter_7 : decode cX10_shorter 7 = .ok (.iconst (-1), 1) := by decide +kernel
theorem dX10_shorter_8 : decode cX10_shorter 8 = .ok (.ireturn, 1) := by decide +kernel
theorem dX10_shorter_9 : decode cX10_shorter 9 = .ok (.aload_n 0, 1) := by decide +kernel
theorem dX10_shorter_10 : decode cX10_shorter 10 = .ok (.iload_n 1, 1) := by decide +kernel
theorem dX10_shorter_11 : decode cX10_shorter 11 = .ok (.invokevirtual 190, 3) := by decide +kernel
theorem dX10_shorter_14 : decode cX10_shorter 14 = .ok (.iconst 0, 1) := by decide +kernel
theorem dX10_shorter_15 : decode cX10_shorter 15 = .ok (.istore_n 2, 1) := by decide +kernel
theorem dX10_shorter_16 : decode cX10_shorter 16 = .ok (.iload_n 2, 1) := by decide +kernel
theorem dX10_shorter_17 : decode cX10_shorter 17 = .ok (.aload_n 0, 1) := by decide +kernel
theorem dX10_shorter_18 : decode cX10_shorter 18 = .ok (.getfield 175, 3) := by decide +kernel
theorem dX10_shorter_21 : decode cX10_shorter 21 = .ok (.if_icmp .ge 22, 3) := by decide +kernel
theorem dX10_shorter_24 : decode cX10_shorter 24 = .ok (.aload_n 0, 1) := by decide +kernel
theorem dX10_shorter_25 : decode cX10_shorter 25 = .ok (.iload_n 2, 1) := by decide +kernel
theorem dX10_shorter_26 : decode cX10_shorter 26 = .ok (.invokevirtual 208, 3) := by decide +kernel
theorem dX10_shorter_29 : decode cX10_shorter 29 = .ok (.ifCond .eq 7, 3) := by decide +kernel
theorem dX10_shorter_32 : decode cX10_shorter 32 = .ok (.iconst 0, 1) := by decide +kernel
theorem dX10_shorter_33 : decode cX10_shorter 33 = .ok (.goto 6, 3) := by decide +kernel
theorem dX10_shorter_36 : decode cX10_shorter 36 = .ok (.iload_n 2, 1) := by decide +kernel
theorem dX10_shorter_37 : decode cX10_shorter 37 = .ok (.iconst 1, 1) := by decide +kernel
theorem dX10_shorter_38 : decode cX10_shorter 38 = .ok (.iadd, 1) := by decide +kernel
theorem dX10_shorter_39 : decode cX10_shorter 39 = .ok (.istore_n 2, 1) := by decide +kernel
theorem dX10_shorter_40 : decode cX10_shorter 40 = .ok (.goto (-24), 3) := by decide +kernel
theorem dX10_shorter_43 : decode cX10_shorter 43 = .ok (.aload_n 0, 1) := by decide +kernel
theorem dX10_shorter_44 : decode cX10_shorter 44 = .ok (.iload_n 1, 1) := by decide +kernel
theorem dX10_shorter_45 : decode cX10_shorter 45 = .ok (.invokevirtual 193, 3) := by decide +kernel
theorem dX10_shorter_48 : decode cX10_shorter 48 = .ok (.ireturn, 1) := by decide +kernel
theorem dX10_isLess_0 : decode cX10_isLess 0 = .ok (.aload_n 0, 1) := by decide +kernel
theorem dX10_isLess_1 : decode cX10_isLess 1 = .ok (.bipush 18, 2) := by decide +kernel
theorem dX10_isLess_3 : decode cX10_isLess 3 = .ok (.bipush 15, 2) := by decide +kernel
theorem dX10_isLess_5 : decode cX10_isLess 5 = .ok (.invokevirtual 83, 3) := by decide +kernel
theorem dX10_isLess_8 : decode cX10_isLess 8 = .ok (.iload_n 1, 1) := by decide +kernel
theorem dX10_isLess_9 : decode cX10_isLess 9 = .ok (.istore_n 3, 1) := by decide +kernel
theorem dX10_isLess_10 : decode cX10_isLess 10 = .ok (.iload_n 3, 1) := by decide +kernel
theorem dX10_isLess_11 : decode cX10_isLess 11 = .ok (.ifCond .lt 46, 3) := by decide +kernel
theorem dX10_isLess_14 : decode cX10_isLess 14 = .ok (.aload_n 0, 1) := by decide +kernel
theorem dX10_isLess_15 : decode cX10_isLess 15 = .ok (.iconst 4, 1) := by decide +kernel
theorem dX10_isLess_16 : decode cX10_isLess 16 = .ok (.iload_n 3, 1) := by decide +kernel
theorem dX10_isLess_17 : decode cX10_isLess 17 = .ok (.iconst 2, 1) := by decide +kernel
theorem dX10_isLess_18 : decode cX10_isLess 18 = .ok (.if_icmp .ne 7, 3) := by decide +kernel
theorem dX10_isLess_21 : decode cX10_isLess 21 = .ok (.iconst 2, 1) := by decide +kernel
theorem dX10_isLess_22 : decode cX10_isLess 22 = .ok (.goto 13, 3) := by decide +kernel
theorem dX10_isLess_25 : decode cX10_isLess 25 = .ok (.iload_n 3, 1) := by decide +kernel
theorem dX10_isLess_26 : decode cX10_isLess 26 = .ok (.iconst 1, 1) := by decide +kernel
theorem dX10_isLess_27 : decode cX10_isLess 27 = .ok (.if_icmp .ne 7, 3) := by decide +kernel
theorem dX10_isLess_30 : decode cX10_isLess 30 = .ok (.iconst 0, 1) := by decide +kernel
theorem dX10_isLess_31 : decode cX10_isLess 31 = .ok (.goto 4, 3) := by decide +kernel
theorem dX10_isLess_34 : decode cX10_isLess 34 = .ok (.iconst 1, 1) := by decide +kernel
theorem dX10_isLess_35 : decode cX10_isLess 35 = .ok (.iadd, 1) := by decide +kernel
theorem dX10_isLess_36 : decode cX10_isLess 36 = .ok (.bipush 16, 2) := by decide +kernel
theorem dX10_isLess_38 : decode cX10_isLess 38 = .ok (.invokevirtual 138, 3) := by decide +kernel
theorem dX10_isLess_41 : decode cX10_isLess 41 = .ok (.aload_n 0, 1) := by decide +kernel
theorem dX10_isLess_42 : decode cX10_isLess 42 = .ok (.bipush 15, 2) := by decide +kernel
theorem dX10_isLess_44 : decode cX10_isLess 44 = .ok (.bipush 16, 2) := by decide +kernel
theorem dX10_isLess_46 : decode cX10_isLess 46 = .ok (.bipush 15, 2) := by decide +kernel
theorem dX10_isLess_48 : decode cX10_isLess 48 = .ok (.invokevirtual 132, 3) := by decide +kernel
theorem dX10_isLess_51 : decode cX10_isLess 51 = .ok (.iinc 3 (-1), 3) := by decide +kernel
theorem dX10_isLess_54 : decode cX10_isLess 54 = .ok (.goto (-44), 3) := by decide +kernel
theorem dX10_isLess_57 : decode cX10_isLess 57 = .ok (.aload_n 0, 1) := by decide +kernel
theorem dX10_isLess_58 : decode cX10_isLess 58 = .ok (.bipush 15, 2) := by decide +kernel
theorem dX10_isLess_60 : decode cX10_isLess 60 = .ok (.invokevirtual 147, 3) := by decide +kernel
theorem dX10_isLess_63 : decode cX10_isLess 63 = .ok (.iload_n 2, 1) := by decide +kernel
theorem dX10_isLess_64 : decode cX10_isLess 64 = .ok (.iconst 1, 1) := by decide +kernel
theorem dX10_isLess_65 : decode cX10_isLess 65 = .ok (.isub, 1) := by decide +kernel
theorem dX10_isLess_66 : decode cX10_isLess 66 = .ok (.if_icmp .eq 5, 3) := by decide +kernel
theorem dX10_isLess_69 : decode cX10_isLess 69 = .ok (.iconst 0, 1) := by decide +kernel
theorem dX10_isLess_70 : decode cX10_isLess 70 = .ok (.ireturn, 1) := by decide +kernel
theorem dX10_isLess_71 : decode cX10_isLess 71 = .ok (.aload_n 0, 1) := by decide +kernel
theorem dX10_isLess_72 : decode cX10_isLess 72 = .ok (.bipush 15, 2) := by decide +kernel
theorem dX10_isLess_74 : decode cX10_isLess 74 = .ok (.bipush 18, 2) := by decide +kernel
theorem dX10_isLess_76 : decode cX10_isLess 76 = .ok (.invokevirtual 83, 3) := by decide +kernel
theorem dX10_isLess_79 : decode cX10_isLess 79 = .ok (.iload_n 1, 1) := by decide +kernel
theorem dX10_isLess_80 : decode cX10_isLess 80 = .ok (.istore_n 3, 1) := by decide +kernel
theorem dX10_isLess_81 : decode cX10_isLess 81 = .ok (.iload_n 3, 1) := by decide +kernel
theorem dX10_isLess_82 : decode cX10_isLess 82 = .ok (.ifCond .lt 56, 3) := by decide +kernel
theorem dX10_isLess_85 : decode cX10_isLess 85 = .ok (.aload_n 0, 1) := by decide +kernel
theorem dX10_isLess_86 : decode cX10_isLess 86 = .ok (.getfield 175, 3) := by decide +kernel
theorem dX10_isLess_89 : decode cX10_isLess 89 = .ok (.bipush 60, 2) := by decide +kernel
theorem dX10_isLess_91 : decode cX10_isLess 91 = .ok (.if_icmp .gt 47, 3) := by decide +kernel
theorem dX10_isLess_94 : decode cX10_isLess 94 = .ok (.aload_n 0, 1) := by decide +kernel
theorem dX10_isLess_95 : decode cX10_isLess 95 = .ok (.getfield 58, 3) := by decide +kernel
theorem dX10_isLess_98 : decode cX10_isLess 98 = .ok (.aload_n 0, 1) := by decide +kernel
theorem dX10_isLess_99 : decode cX10_isLess 99 = .ok (.getfield 175, 3) := by decide +kernel
theorem dX10_isLess_102 : decode cX10_isLess 102 = .ok (.iload_n 3, 1) := by decide +kernel
theorem dX10_isLess_103 : decode cX10_isLess 103 = .ok (.iconst 2, 1) := by decide +kernel
theorem dX10_isLess_104 : decode cX10_isLess 104 = .ok (.if_icmp .ne 7, 3) := by decide +kernel
theorem dX10_isLess_107 : decode cX10_isLess 107 = .ok (.iconst 2, 1) := by decide +kernel
theorem dX10_isLess_108 : decode cX10_isLess 108 = .ok (.goto 13, 3) := by decide +kernel
theorem dX10_isLess_111 : decode cX10_isLess 111 = .ok (.iload_n 3, 1) := by decide +kernel
theorem dX10_isLess_112 : decode cX10_isLess 112 = .ok (.iconst 1, 1) := by decide +kernel
theorem dX10_isLess_113 : decode cX10_isLess 113 = .ok (.if_icmp .ne 7, 3) := by decide +kernel
theorem dX10_isLess_116 : decode cX10_isLess 116 = .ok (.iconst 0, 1) := by decide +kernel
theorem dX10_isLess_117 : decode cX10_isLess 117 = .ok (.goto 4, 3) := by decide +kernel
theorem dX10_isLess_120 : decode cX10_isLess 120 = .ok (.iconst 1, 1) := by decide +kernel
theorem dX10_isLess_121 : decode cX10_isLess 121 = .ok (.iastore, 1) := by decide +kernel
theorem dX10_isLess_122 : decode cX10_isLess 122 = .ok (.aload_n 0, 1) := by decide +kernel
theorem dX10_isLess_123 : decode cX10_isLess 123 = .ok (.dup, 1) := by decide +kernel
theorem dX10_isLess_124 : decode cX10_isLess 124 = .ok (.getfield 175, 3) := by decide +kernel
theorem dX10_isLess_127 : decode cX10_isLess 127 = .ok (.iconst 1, 1) := by decide +kernel
theorem dX10_isLess_128 : decode cX10_isLess 128 = .ok (.iadd, 1) := by decide +kernel
theorem dX10_isLess_129 : decode cX10_isLess 129 = .ok (.putfield 175, 3) := by decide +kernel
theorem dX10_isLess_132 : decode cX10_isLess 132 = .ok (.iinc 3 (-1), 3) := by decide +kernel
theorem dX10_isLess_135 : decode cX10_isLess 135 = .ok (.goto (-54), 3) := by decide +kernel
theorem dX10_isLess_138 : decode cX10_isLess 138 = .ok (.iconst 1, 1) := by decide +kernel
theorem dX10_isLess_139 : decode cX10_isLess 139 = .ok (.ireturn, 1) := by decide +kernel
theorem dX10_normal_0 : decode cX10_normal 0 = .ok (.iload_n 1, 1) := by decide +kernel
theorem dX10_normal_1 : decode cX10_normal 1 = .ok (.invokestatic 187, 3) := by decide +kernel
theorem dX10_normal_4 : decode cX10_normal 4 = .ok (.ifCond .eq 10, 3) := by decide +kernel
theorem dX10_normal_7 : decode cX10_normal 7 = .ok (.iload_n 2, 1) := by decide +kernel
theorem dX10_normal_8 : decode cX10_normal 8 = .ok (.invokestatic 126, 3) := by decide +kernel
theorem dX10_normal_11 : decode cX10_normal 11 = .ok (.ifCond .ne 5, 3) := by decide +kernel
theorem dX10_normal_14 : decode cX10_normal 14 = .ok (.iconst (-1), 1) := by decide +kernel
theorem dX10_normal_15 : decode cX10_normal 15 = .ok (.ireturn, 1) := by decide +kernel
theorem dX10_normal_16 : decode cX10_normal 16 = .ok (.aload_n 0, 1) := by decide +kernel
theorem dX10_normal_17 : decode cX10_normal 17 = .ok (.iconst 0, 1) := by decide +kernel
theorem dX10_normal_18 : decode cX10_normal 18 = .ok (.putfield 175, 3) := by decide +kernel
theorem dX10_normal_21 : decode cX10_normal 21 = .ok (.aload_n 0, 1) := by decide +kernel
theorem dX10_normal_22 : decode cX10_normal 22 = .ok (.iload_n 2, 1) := by decide +kernel
theorem dX10_normal_23 : decode cX10_normal 23 = .ok (.bipush 18, 2) := by decide +kernel
theorem dX10_normal_25 : decode cX10_normal 25 = .ok (.invokevirtual 83, 3) := by decide +kernel
theorem dX10_normal_28 : decode cX10_normal 28 = .ok (.aload_n 0, 1) := by decide +kernel
theorem dX10_normal_29 : decode cX10_normal 29 = .ok (.bipush 18, 2) := by decide +kernel
theorem dX10_normal_31 : decode cX10_normal 31 = .ok (.invokevirtual 147, 3) := by decide +kernel
theorem dX10_normal_34 : decode cX10_normal 34 = .ok (.istore_n 3, 1) := by decide +kernel
theorem dX10_normal_35 : decode cX10_normal 35 = .ok (.iload_n 3, 1) := by decide +kernel
theorem dX10_normal_36 : decode cX10_normal 36 = .ok (.ifCond .le 52, 3) := by decide +kernel
theorem dX10_normal_39 : decode cX10_normal 39 = .ok (.aload_n 0, 1) := by decide +kernel
theorem dX10_normal_40 : decode cX10_normal 40 = .ok (.getfield 175, 3) := by decide +kernel
theorem dX10_normal_43 : decode cX10_normal 43 = .ok (.bipush 60, 2) := by decide +kernel
theorem dX10_normal_45 : decode cX10_normal 45 = .ok (.if_icmp .gt 43, 3) := by decide +kernel
theorem dX10_normal_48 : decode cX10_normal 48 = .ok (.aload_n 0, 1) := by decide +kernel
theorem dX10_normal_49 : decode cX10_normal 49 = .ok (.iconst 0, 1) := by decide +kernel
theorem dX10_normal_50 : decode cX10_normal 50 = .ok (.iload_n 3, 1) := by decide +kernel
theorem dX10_normal_51 : decode cX10_normal 51 = .ok (.invokevirtual 211, 3) := by decide +kernel
theorem dX10_normal_54 : decode cX10_normal 54 = .ok (.ifCond .ne 21, 3) := by decide +kernel
theorem dX10_normal_57 : decode cX10_normal 57 = .ok (.aload_n 0, 1) := by decide +kernel
theorem dX10_normal_58 : decode cX10_normal 58 = .ok (.iconst 1, 1) := by decide +kernel
theorem dX10_normal_59 : decode cX10_normal 59 = .ok (.iload_n 3, 1) := by decide +kernel
theorem dX10_normal_60 : decode cX10_normal 60 = .ok (.invokevirtual 211, 3) := by decide +kernel
theorem dX10_normal_63 : decode cX10_normal 63 = .ok (.ifCond .ne 12, 3) := by decide +kernel
theorem dX10_normal_66 : decode cX10_normal 66 = .ok (.aload_n 0, 1) := by decide +kernel
theorem dX10_normal_67 : decode cX10_normal 67 = .ok (.iconst 2, 1) := by decide +kernel
theorem dX10_normal_68 : decode cX10_normal 68 = .ok (.iload_n 3, 1) := by decide +kernel
theorem dX10_normal_69 : decode cX10_normal 69 = .ok (.invokevirtual 211, 3) := by decide +kernel
theorem dX10_normal_72 : decode cX10_normal 72 = .ok (.ifCond .eq 7, 3) := by decide +kernel
theorem dX10_normal_75 : decode cX10_normal 75 = .ok (.iconst 1, 1) := by decide +kernel
theorem dX10_normal_76 : decode cX10_normal 76 = .ok (.goto 4, 3) := by decide +kernel
theorem dX10_normal_79 : decode cX10_normal 79 = .ok (.iconst 0, 1) := by decide +kernel
theorem dX10_normal_80 : decode cX10_normal 80 = .ok (.istore 4, 2) := by decide +kernel
theorem dX10_normal_82 : decode cX10_normal 82 = .ok (.iinc 3 (-1), 3) := by decide +kernel
theorem dX10_normal_85 : decode cX10_normal 85 = .ok (.goto (-50), 3) := by decide +kernel
theorem dX10_normal_88 : decode cX10_normal 88 = .ok (.aload_n 0, 1) := by decide +kernel
theorem dX10_normal_89 : decode cX10_normal 89 = .ok (.getfield 175, 3) := by decide +kernel
theorem dX10_normal_92 : decode cX10_normal 92 = .ok (.bipush 60, 2) := by decide +kernel
theorem dX10_normal_94 : decode cX10_normal 94 = .ok (.if_icmp .le 6, 3) := by decide +kernel
theorem dX10_normal_97 : decode cX10_normal 97 = .ok (.bipush (-3), 2) := by decide +kernel
theorem dX10_normal_99 : decode cX10_normal 99 = .ok (.ireturn, 1) := by decide +kernel
theorem dX10_normal_100 : decode cX10_normal 100 = .ok (.aload_n 0, 1) := by decide +kernel
theorem dX10_normal_101 : decode cX10_normal 101 = .ok (.aload_n 0, 1) := by decide +kernel
theorem dX10_normal_102 : decode cX10_normal 102 = .ok (.bipush 18, 2) := by decide +kernel
theorem dX10_normal_104 : decode cX10_normal 104 = .ok (.invokevirtual 160, 3) := by decide +kernel
theorem dX10_normal_107 : decode cX10_normal 107 = .ok (.invokevirtual 178, 3) := by decide +kernel
theorem dX10_normal_110 : decode cX10_normal 110 = .ok (.aload_n 0, 1) := by decide +kernel
theorem dX10_normal_111 : decode cX10_normal 111 = .ok (.getfield 175, 3) := by decide +kernel
theorem dX10_normal_114 : decode cX10_normal 114 = .ok (.bipush 60, 2) := by decide +kernel
theorem dX10_normal_116 : decode cX10_normal 116 = .ok (.if_icmp .le 8, 3) := by decide +kernel
theorem dX10_normal_119 : decode cX10_normal 119 = .ok (.bipush (-3), 2) := by decide +kernel
theorem dX10_normal_121 : decode cX10_normal 121 = .ok (.goto 8, 3) := by decide +kernel
theorem dX10_normal_124 : decode cX10_normal 124 = .ok (.aload_n 0, 1) := by decide +kernel
theorem dX10_normal_125 : decode cX10_normal 125 = .ok (.iload_n 1, 1) := by decide +kernel
theorem dX10_normal_126 : decode cX10_normal 126 = .ok (.invokevirtual 193, 3) := by decide +kernel
theorem dX10_normal_129 : decode cX10_normal 129 = .ok (.ireturn, 1) := by decide +kernel
theorem dX10_fits_0 : decode cX10_fits 0 = .ok (.iload_n 1, 1) := by decide +kernel
theorem dX10_fits_1 : decode cX10_fits 1 = .ok (.invokestatic 187, 3) := by decide +kernel
theorem dX10_fits_4 : decode cX10_fits 4 = .ok (.ifCond .eq 28, 3) := by decide +kernel
theorem dX10_fits_7 : decode cX10_fits 7 = .ok (.iload_n 2, 1) := by decide +kernel
theorem dX10_fits_8 : decode cX10_fits 8 = .ok (.i2l, 1) := by decide +kernel
theorem dX10_fits_9 : decode cX10_fits 9 = .ok (.lconst 0, 1) := by decide +kernel
theorem dX10_fits_10 : decode cX10_fits 10 = .ok (.aload_n 0, 1) := by decide +kernel
theorem dX10_fits_11 : decode cX10_fits 11 = .ok (.getfield 31, 3) := by decide +kernel
theorem dX10_fits_14 : decode cX10_fits 14 = .ok (.iload_n 1, 1) := by decide +kernel
theorem dX10_fits_15 : decode cX10_fits 15 = .ok (.iaload, 1) := by decide +kernel
theorem dX10_fits_16 : decode cX10_fits 16 = .ok (.iconst 1, 1) := by decide +kernel
theorem dX10_fits_17 : decode cX10_fits 17 = .ok (.isub, 1) := by decide +kernel
theorem dX10_fits_18 : decode cX10_fits 18 = .ok (.i2l, 1) := by decide +kernel
theorem dX10_fits_19 : decode cX10_fits 19 = .ok (.invokestatic 120, 3) := by decide +kernel
theorem dX10_fits_22 : decode cX10_fits 22 = .ok (.ifCond .eq 10, 3) := by decide +kernel
theorem dX10_fits_25 : decode cX10_fits 25 = .ok (.iload_n 3, 1) := by decide +kernel
theorem dX10_fits_26 : decode cX10_fits 26 = .ok (.invokestatic 126, 3) := by decide +kernel
theorem dX10_fits_29 : decode cX10_fits 29 = .ok (.ifCond .ne 5, 3) := by decide +kernel
theorem dX10_fits_32 : decode cX10_fits 32 = .ok (.iconst (-1), 1) := by decide +kernel
theorem dX10_fits_33 : decode cX10_fits 33 = .ok (.ireturn, 1) := by decide +kernel
theorem dX10_fits_34 : decode cX10_fits 34 = .ok (.iconst 0, 1) := by decide +kernel
theorem dX10_fits_35 : decode cX10_fits 35 = .ok (.istore 4, 2) := by decide +kernel
theorem dX10_fits_37 : decode cX10_fits 37 = .ok (.iconst 0, 1) := by decide +kernel
theorem dX10_fits_38 : decode cX10_fits 38 = .ok (.istore 5, 2) := by decide +kernel
theorem dX10_fits_40 : decode cX10_fits 40 = .ok (.iload 5, 2) := by decide +kernel
theorem dX10_fits_42 : decode cX10_fits 42 = .ok (.bipush 7, 2) := by decide +kernel
theorem dX10_fits_44 : decode cX10_fits 44 = .ok (.if_icmp .ge 44, 3) := by decide +kernel
theorem dX10_fits_47 : decode cX10_fits 47 = .ok (.aload_n 0, 1) := by decide +kernel
theorem dX10_fits_48 : decode cX10_fits 48 = .ok (.bipush 15, 2) := by decide +kernel
theorem dX10_fits_50 : decode cX10_fits 50 = .ok (.iload_n 1, 1) := by decide +kernel
theorem dX10_fits_51 : decode cX10_fits 51 = .ok (.bipush 60, 2) := by decide +kernel
theorem dX10_fits_53 : decode cX10_fits 53 = .ok (.iload_n 2, 1) := by decide +kernel
theorem dX10_fits_54 : decode cX10_fits 54 = .ok (.iload 5, 2) := by decide +kernel
theorem dX10_fits_56 : decode cX10_fits 56 = .ok (.invokevirtual 196, 3) := by decide +kernel
theorem dX10_fits_59 : decode cX10_fits 59 = .ok (.iload 4, 2) := by decide +kernel
theorem dX10_fits_61 : decode cX10_fits 61 = .ok (.aload_n 0, 1) := by decide +kernel
theorem dX10_fits_62 : decode cX10_fits 62 = .ok (.bipush 15, 2) := by decide +kernel
theorem dX10_fits_64 : decode cX10_fits 64 = .ok (.iload_n 3, 1) := by decide +kernel
theorem dX10_fits_65 : decode cX10_fits 65 = .ok (.invokevirtual 143, 3) := by decide +kernel
theorem dX10_fits_68 : decode cX10_fits 68 = .ok (.ifCond .eq 10, 3) := by decide +kernel
theorem dX10_fits_71 : decode cX10_fits 71 = .ok (.iconst 1, 1) := by decide +kernel
theorem dX10_fits_72 : decode cX10_fits 72 = .ok (.iload 5, 2) := by decide +kernel
theorem dX10_fits_74 : decode cX10_fits 74 = .ok (.ishl, 1) := by decide +kernel
theorem dX10_fits_75 : decode cX10_fits 75 = .ok (.goto 4, 3) := by decide +kernel
theorem dX10_fits_78 : decode cX10_fits 78 = .ok (.iconst 0, 1) := by decide +kernel
theorem dX10_fits_79 : decode cX10_fits 79 = .ok (.ior, 1) := by decide +kernel
theorem dX10_fits_80 : decode cX10_fits 80 = .ok (.istore 4, 2) := by decide +kernel
theorem dX10_fits_82 : decode cX10_fits 82 = .ok (.iinc 5 1, 3) := by decide +kernel
theorem dX10_fits_85 : decode cX10_fits 85 = .ok (.goto (-45), 3) := by decide +kernel
theorem dX10_fits_88 : decode cX10_fits 88 = .ok (.iload 4, 2) := by decide +kernel
theorem dX10_fits_90 : decode cX10_fits 90 = .ok (.ireturn, 1) := by decide +kernel
theorem dX10_parts_0 : decode cX10_parts 0 = .ok (.iload_n 1, 1) := by decide +kernel
theorem dX10_parts_1 : decode cX10_parts 1 = .ok (.invokestatic 187, 3) := by decide +kernel
theorem dX10_parts_4 : decode cX10_parts 4 = .ok (.ifCond .eq 10, 3) := by decide +kernel
theorem dX10_parts_7 : decode cX10_parts 7 = .ok (.iload_n 2, 1) := by decide +kernel
theorem dX10_parts_8 : decode cX10_parts 8 = .ok (.invokestatic 187, 3) := by decide +kernel
theorem dX10_parts_11 : decode cX10_parts 11 = .ok (.ifCond .ne 5, 3) := by decide +kernel
theorem dX10_parts_14 : decode cX10_parts 14 = .ok (.iconst (-1), 1) := by decide +kernel
theorem dX10_parts_15 : decode cX10_parts 15 = .ok (.ireturn, 1) := by decide +kernel
theorem dX10_parts_16 : decode cX10_parts 16 = .ok (.iconst 0, 1) := by decide +kernel
theorem dX10_parts_17 : decode cX10_parts 17 = .ok (.istore_n 3, 1) := by decide +kernel
theorem dX10_parts_18 : decode cX10_parts 18 = .ok (.iload_n 3, 1) := by decide +kernel
theorem dX10_parts_19 : decode cX10_parts 19 = .ok (.aload_n 0, 1) := by decide +kernel
theorem dX10_parts_20 : decode cX10_parts 20 = .ok (.getfield 31, 3) := by decide +kernel
theorem dX10_parts_23 : decode cX10_parts 23 = .ok (.iload_n 1, 1) := by decide +kernel
theorem dX10_parts_24 : decode cX10_parts 24 = .ok (.iaload, 1) := by decide +kernel
theorem dX10_parts_25 : decode cX10_parts 25 = .ok (.if_icmp .lt 13, 3) := by decide +kernel
theorem dX10_parts_28 : decode cX10_parts 28 = .ok (.iload_n 3, 1) := by decide +kernel
theorem dX10_parts_29 : decode cX10_parts 29 = .ok (.aload_n 0, 1) := by decide +kernel
theorem dX10_parts_30 : decode cX10_parts 30 = .ok (.getfield 31, 3) := by decide +kernel
theorem dX10_parts_33 : decode cX10_parts 33 = .ok (.iload_n 2, 1) := by decide +kernel
theorem dX10_parts_34 : decode cX10_parts 34 = .ok (.iaload, 1) := by decide +kernel
theorem dX10_parts_35 : decode cX10_parts 35 = .ok (.if_icmp .ge 48, 3) := by decide +kernel
theorem dX10_parts_38 : decode cX10_parts 38 = .ok (.aload_n 0, 1) := by decide +kernel
theorem dX10_parts_39 : decode cX10_parts 39 = .ok (.bipush 15, 2) := by decide +kernel
theorem dX10_parts_41 : decode cX10_parts 41 = .ok (.iload_n 1, 1) := by decide +kernel
theorem dX10_parts_42 : decode cX10_parts 42 = .ok (.iload_n 3, 1) := by decide +kernel
theorem dX10_parts_43 : decode cX10_parts 43 = .ok (.iconst 1, 1) := by decide +kernel
theorem dX10_parts_44 : decode cX10_parts 44 = .ok (.iadd, 1) := by decide +kernel
theorem dX10_parts_45 : decode cX10_parts 45 = .ok (.bipush (-2), 2) := by decide +kernel
theorem dX10_parts_47 : decode cX10_parts 47 = .ok (.iconst 0, 1) := by decide +kernel
theorem dX10_parts_48 : decode cX10_parts 48 = .ok (.invokevirtual 196, 3) := by decide +kernel
theorem dX10_parts_51 : decode cX10_parts 51 = .ok (.aload_n 0, 1) := by decide +kernel
theorem dX10_parts_52 : decode cX10_parts 52 = .ok (.bipush 16, 2) := by decide +kernel
theorem dX10_parts_54 : decode cX10_parts 54 = .ok (.iload_n 2, 1) := by decide +kernel
theorem dX10_parts_55 : decode cX10_parts 55 = .ok (.iload_n 3, 1) := by decide +kernel
theorem dX10_parts_56 : decode cX10_parts 56 = .ok (.iconst 1, 1) := by decide +kernel
theorem dX10_parts_57 : decode cX10_parts 57 = .ok (.iadd, 1) := by decide +kernel
theorem dX10_parts_58 : decode cX10_parts 58 = .ok (.bipush (-2), 2) := by decide +kernel
theorem dX10_parts_60 : decode cX10_parts 60 = .ok (.iconst 0, 1) := by decide +kernel
theorem dX10_parts_61 : decode cX10_parts 61 = .ok (.invokevirtual 196, 3) := by decide +kernel
theorem dX10_parts_64 : decode cX10_parts 64 = .ok (.aload_n 0, 1) := by decide +kernel
theorem dX10_parts_65 : decode cX10_parts 65 = .ok (.bipush 15, 2) := by decide +kernel
theorem dX10_parts_67 : decode cX10_parts 67 = .ok (.bipush 16, 2) := by decide +kernel
theorem dX10_parts_69 : decode cX10_parts 69 = .ok (.invokevirtual 143, 3) := by decide +kernel
theorem dX10_parts_72 : decode cX10_parts 72 = .ok (.ifCond .ne 5, 3) := by decide +kernel
theorem dX10_parts_75 : decode cX10_parts 75 = .ok (.iload_n 3, 1) := by decide +kernel
theorem dX10_parts_76 : decode cX10_parts 76 = .ok (.ireturn, 1) := by decide +kernel
theorem dX10_parts_77 : decode cX10_parts 77 = .ok (.iinc 3 1, 3) := by decide +kernel
theorem dX10_parts_80 : decode cX10_parts 80 = .ok (.goto (-62), 3) := by decide +kernel
theorem dX10_parts_83 : decode cX10_parts 83 = .ok (.bipush (-2), 2) := by decide +kernel
theorem dX10_parts_85 : decode cX10_parts 85 = .ok (.ireturn, 1) := by decide +kernel
theorem dX10_undo_0 : decode cX10_undo 0 = .ok (.aload_n 0, 1) := by decide +kernel
theorem dX10_undo_1 : decode cX10_undo 1 = .ok (.getfield 184, 3) := by decide +kernel
theorem dX10_undo_4 : decode cX10_undo 4 = .ok (.ifCond .ne 6, 3) := by decide +kernel
theorem dX10_undo_7 : decode cX10_undo 7 = .ok (.bipush (-5), 2) := by decide +kernel
theorem dX10_undo_9 : decode cX10_undo 9 = .ok (.ireturn, 1) := by decide +kernel
theorem dX10_undo_10 : decode cX10_undo 10 = .ok (.aload_n 0, 1) := by decide +kernel
theorem dX10_undo_11 : decode cX10_undo 11 = .ok (.dup, 1) := by decide +kernel
theorem dX10_undo_12 : decode cX10_undo 12 = .ok (.getfield 184, 3) := by decide +kernel
theorem dX10_undo_15 : decode cX10_undo 15 = .ok (.iconst 1, 1) := by decide +kernel
theorem dX10_undo_16 : decode cX10_undo 16 = .ok (.isub, 1) := by decide +kernel
theorem dX10_undo_17 : decode cX10_undo 17 = .ok (.putfield 184, 3) := by decide +kernel
theorem dX10_undo_20 : decode cX10_undo 20 = .ok (.aload_n 0, 1) := by decide +kernel
theorem dX10_undo_21 : decode cX10_undo 21 = .ok (.getfield 67, 3) := by decide +kernel
theorem dX10_undo_24 : decode cX10_undo 24 = .ok (.aload_n 0, 1) := by decide +kernel
theorem dX10_undo_25 : decode cX10_undo 25 = .ok (.getfield 184, 3) := by decide +kernel
theorem dX10_undo_28 : decode cX10_undo 28 = .ok (.iaload, 1) := by decide +kernel
theorem dX10_undo_29 : decode cX10_undo 29 = .ok (.istore_n 1, 1) := by decide +kernel
theorem dX10_undo_30 : decode cX10_undo 30 = .ok (.aload_n 0, 1) := by decide +kernel
theorem dX10_undo_31 : decode cX10_undo 31 = .ok (.getfield 31, 3) := by decide +kernel
theorem dX10_undo_34 : decode cX10_undo 34 = .ok (.iload_n 1, 1) := by decide +kernel
theorem dX10_undo_35 : decode cX10_undo 35 = .ok (.aload_n 0, 1) := by decide +kernel
theorem dX10_undo_36 : decode cX10_undo 36 = .ok (.getfield 64, 3) := by decide +kernel
theorem dX10_undo_39 : decode cX10_undo 39 = .ok (.aload_n 0, 1) := by decide +kernel
theorem dX10_undo_40 : decode cX10_undo 40 = .ok (.getfield 184, 3) := by decide +kernel
theorem dX10_undo_43 : decode cX10_undo 43 = .ok (.iaload, 1) := by decide +kernel
theorem dX10_undo_44 : decode cX10_undo 44 = .ok (.iastore, 1) := by decide +kernel
theorem dX10_undo_45 : decode cX10_undo 45 = .ok (.iconst 0, 1) := by decide +kernel
theorem dX10_undo_46 : decode cX10_undo 46 = .ok (.istore_n 2, 1) := by decide +kernel
theorem dX10_undo_47 : decode cX10_undo 47 = .ok (.iload_n 2, 1) := by decide +kernel
theorem dX10_undo_48 : decode cX10_undo 48 = .ok (.bipush 60, 2) := by decide +kernel
theorem dX10_undo_50 : decode cX10_undo 50 = .ok (.if_icmp .ge 34, 3) := by decide +kernel
theorem dX10_undo_53 : decode cX10_undo 53 = .ok (.aload_n 0, 1) := by decide +kernel
theorem dX10_undo_54 : decode cX10_undo 54 = .ok (.getfield 28, 3) := by decide +kernel
theorem dX10_undo_57 : decode cX10_undo 57 = .ok (.bipush 60, 2) := by decide +kernel
theorem dX10_undo_59 : decode cX10_undo 59 = .ok (.iload_n 1, 1) := by decide +kernel
theorem dX10_undo_60 : decode cX10_undo 60 = .ok (.imul, 1) := by decide +kernel
theorem dX10_undo_61 : decode cX10_undo 61 = .ok (.iload_n 2, 1) := by decide +kernel
theorem dX10_undo_62 : decode cX10_undo 62 = .ok (.iadd, 1) := by decide +kernel
theorem dX10_undo_63 : decode cX10_undo 63 = .ok (.aload_n 0, 1) := by decide +kernel
theorem dX10_undo_64 : decode cX10_undo 64 = .ok (.getfield 61, 3) := by decide +kernel
theorem dX10_undo_67 : decode cX10_undo 67 = .ok (.bipush 60, 2) := by decide +kernel
theorem dX10_undo_69 : decode cX10_undo 69 = .ok (.aload_n 0, 1) := by decide +kernel
theorem dX10_undo_70 : decode cX10_undo 70 = .ok (.getfield 184, 3) := by decide +kernel
theorem dX10_undo_73 : decode cX10_undo 73 = .ok (.imul, 1) := by decide +kernel
theorem dX10_undo_74 : decode cX10_undo 74 = .ok (.iload_n 2, 1) := by decide +kernel
theorem dX10_undo_75 : decode cX10_undo 75 = .ok (.iadd, 1) := by decide +kernel
theorem dX10_undo_76 : decode cX10_undo 76 = .ok (.iaload, 1) := by decide +kernel
theorem dX10_undo_77 : decode cX10_undo 77 = .ok (.iastore, 1) := by decide +kernel
theorem dX10_undo_78 : decode cX10_undo 78 = .ok (.iinc 2 1, 3) := by decide +kernel
theorem dX10_undo_81 : decode cX10_undo 81 = .ok (.goto (-34), 3) := by decide +kernel
theorem dX10_undo_84 : decode cX10_undo 84 = .ok (.aload_n 0, 1) := by decide +kernel
theorem dX10_undo_85 : decode cX10_undo 85 = .ok (.getfield 184, 3) := by decide +kernel
theorem dX10_undo_88 : decode cX10_undo 88 = .ok (.ireturn, 1) := by decide +kernel
theorem dX10_feed_0 : decode cX10_feed 0 = .ok (.iload_n 1, 1) := by decide +kernel
theorem dX10_feed_1 : decode cX10_feed 1 = .ok (.i2l, 1) := by decide +kernel
theorem dX10_feed_2 : decode cX10_feed 2 = .ok (.ldc2_w 214, 3) := by decide +kernel
theorem dX10_feed_5 : decode cX10_feed 5 = .ok (.ldc2_w 216, 3) := by decide +kernel
theorem dX10_feed_8 : decode cX10_feed 8 = .ok (.invokestatic 120, 3) := by decide +kernel
theorem dX10_feed_11 : decode cX10_feed 11 = .ok (.ifCond .ne 5, 3) := by decide +kernel
theorem dX10_feed_14 : decode cX10_feed 14 = .ok (.iconst (-1), 1) := by decide +kernel
theorem dX10_feed_15 : decode cX10_feed 15 = .ok (.ireturn, 1) := by decide +kernel
theorem dX10_feed_16 : decode cX10_feed 16 = .ok (.aload_n 0, 1) := by decide +kernel
theorem dX10_feed_17 : decode cX10_feed 17 = .ok (.getfield 218, 3) := by decide +kernel
theorem dX10_feed_20 : decode cX10_feed 20 = .ok (.bipush 80, 2) := by decide +kernel
theorem dX10_feed_22 : decode cX10_feed 22 = .ok (.if_icmp .ne 6, 3) := by decide +kernel
theorem dX10_feed_25 : decode cX10_feed 25 = .ok (.bipush (-3), 2) := by decide +kernel
theorem dX10_feed_27 : decode cX10_feed 27 = .ok (.ireturn, 1) := by decide +kernel
theorem dX10_feed_28 : decode cX10_feed 28 = .ok (.aload_n 0, 1) := by decide +kernel
theorem dX10_feed_29 : decode cX10_feed 29 = .ok (.getfield 70, 3) := by decide +kernel
theorem dX10_feed_32 : decode cX10_feed 32 = .ok (.aload_n 0, 1) := by decide +kernel
theorem dX10_feed_33 : decode cX10_feed 33 = .ok (.getfield 218, 3) := by decide +kernel
theorem dX10_feed_36 : decode cX10_feed 36 = .ok (.iload_n 1, 1) := by decide +kernel
theorem dX10_feed_37 : decode cX10_feed 37 = .ok (.iastore, 1) := by decide +kernel
theorem dX10_feed_38 : decode cX10_feed 38 = .ok (.aload_n 0, 1) := by decide +kernel
theorem dX10_feed_39 : decode cX10_feed 39 = .ok (.dup, 1) := by decide +kernel
theorem dX10_feed_40 : decode cX10_feed 40 = .ok (.getfield 218, 3) := by decide +kernel
theorem dX10_feed_43 : decode cX10_feed 43 = .ok (.iconst 1, 1) := by decide +kernel
theorem dX10_feed_44 : decode cX10_feed 44 = .ok (.iadd, 1) := by decide +kernel
theorem dX10_feed_45 : decode cX10_feed 45 = .ok (.putfield 218, 3) := by decide +kernel
theorem dX10_feed_48 : decode cX10_feed 48 = .ok (.aload_n 0, 1) := by decide +kernel
theorem dX10_feed_49 : decode cX10_feed 49 = .ok (.getfield 218, 3) := by decide +kernel
theorem dX10_feed_52 : decode cX10_feed 52 = .ok (.ireturn, 1) := by decide +kernel
theorem dX10_wipe_0 : decode cX10_wipe 0 = .ok (.aload_n 0, 1) := by decide +kernel
theorem dX10_wipe_1 : decode cX10_wipe 1 = .ok (.getfield 218, 3) := by decide +kernel
theorem dX10_wipe_4 : decode cX10_wipe 4 = .ok (.istore_n 1, 1) := by decide +kernel
theorem dX10_wipe_5 : decode cX10_wipe 5 = .ok (.aload_n 0, 1) := by decide +kernel
theorem dX10_wipe_6 : decode cX10_wipe 6 = .ok (.iconst 0, 1) := by decide +kernel
theorem dX10_wipe_7 : decode cX10_wipe 7 = .ok (.putfield 218, 3) := by decide +kernel
theorem dX10_wipe_10 : decode cX10_wipe 10 = .ok (.iload_n 1, 1) := by decide +kernel
theorem dX10_wipe_11 : decode cX10_wipe 11 = .ok (.ireturn, 1) := by decide +kernel
theorem dX10_here_0 : decode cX10_here 0 = .ok (.aload_n 0, 1) := by decide +kernel
theorem dX10_here_1 : decode cX10_here 1 = .ok (.getfield 221, 3) := by decide +kernel
theorem dX10_here_4 : decode cX10_here 4 = .ok (.aload_n 0, 1) := by decide +kernel
theorem dX10_here_5 : decode cX10_here 5 = .ok (.getfield 218, 3) := by decide +kernel
theorem dX10_here_8 : decode cX10_here 8 = .ok (.if_icmp .ge 15, 3) := by decide +kernel
theorem dX10_here_11 : decode cX10_here 11 = .ok (.aload_n 0, 1) := by decide +kernel
theorem dX10_here_12 : decode cX10_here 12 = .ok (.getfield 70, 3) := by decide +kernel
theorem dX10_here_15 : decode cX10_here 15 = .ok (.aload_n 0, 1) := by decide +kernel
theorem dX10_here_16 : decode cX10_here 16 = .ok (.getfield 221, 3) := by decide +kernel
theorem dX10_here_19 : decode cX10_here 19 = .ok (.iaload, 1) := by decide +kernel
theorem dX10_here_20 : decode cX10_here 20 = .ok (.goto 5, 3) := by decide +kernel
theorem dX10_here_23 : decode cX10_here 23 = .ok (.bipush (-2), 2) := by decide +kernel
theorem dX10_here_25 : decode cX10_here 25 = .ok (.ireturn, 1) := by decide +kernel
theorem dX10_gateBy_0 : decode cX10_gateBy 0 = .ok (.iload_n 0, 1) := by decide +kernel
theorem dX10_gateBy_1 : decode cX10_gateBy 1 = .ok (.tableswitch 106 72 90 #[91, 106, 106, 106, 106, 106, 106, 106, 106, 106, 106, 95, 93, 103, 106, 101, 97, 106, 99], 91) := by decide +kernel
theorem dX10_gateBy_92 : decode cX10_gateBy 92 = .ok (.iconst 0, 1) := by decide +kernel
theorem dX10_gateBy_93 : decode cX10_gateBy 93 = .ok (.ireturn, 1) := by decide +kernel
theorem dX10_gateBy_94 : decode cX10_gateBy 94 = .ok (.iconst 1, 1) := by decide +kernel
theorem dX10_gateBy_95 : decode cX10_gateBy 95 = .ok (.ireturn, 1) := by decide +kernel
theorem dX10_gateBy_96 : decode cX10_gateBy 96 = .ok (.iconst 2, 1) := by decide +kernel
theorem dX10_gateBy_97 : decode cX10_gateBy 97 = .ok (.ireturn, 1) := by decide +kernel
theorem dX10_gateBy_98 : decode cX10_gateBy 98 = .ok (.iconst 3, 1) := by decide +kernel
theorem dX10_gateBy_99 : decode cX10_gateBy 99 = .ok (.ireturn, 1) := by decide +kernel
theorem dX10_gateBy_100 : decode cX10_gateBy 100 = .ok (.iconst 4, 1) := by decide +kernel
theorem dX10_gateBy_101 : decode cX10_gateBy 101 = .ok (.ireturn, 1) := by decide +kernel
theorem dX10_gateBy_102 : decode cX10_gateBy 102 = .ok (.iconst 5, 1) := by decide +kernel
theorem dX10_gateBy_103 : decode cX10_gateBy 103 = .ok (.ireturn, 1) := by decide +kernel
theorem dX10_gateBy_104 : decode cX10_gateBy 104 = .ok (.bipush 6, 2) := by decide +kernel
theorem dX10_gateBy_106 : decode cX10_gateBy 106 = .ok (.ireturn, 1) := by decide +kernel
theorem dX10_gateBy_107 : decode cX10_gateBy 107 = .ok (.bipush (-2), 2) := by decide +kernel
theorem dX10_gateBy_109 : decode cX10_gateBy 109 = .ok (.ireturn, 1) := by decide +kernel
theorem dX10_begins_0 : decode cX10_begins 0 = .ok (.aload_n 0, 1) := by decide +kernel
theorem dX10_begins_1 : decode cX10_begins 1 = .ok (.invokevirtual 224, 3) := by decide +kernel
theorem dX10_begins_4 : decode cX10_begins 4 = .ok (.invokestatic 228, 3) := by decide +kernel
theorem dX10_begins_7 : decode cX10_begins 7 = .ok (.bipush (-2), 2) := by decide +kernel
theorem dX10_begins_9 : decode cX10_begins 9 = .ok (.if_icmp .ne 29, 3) := by decide +kernel
theorem dX10_begins_12 : decode cX10_begins 12 = .ok (.aload_n 0, 1) := by decide +kernel
theorem dX10_begins_13 : decode cX10_begins 13 = .ok (.invokevirtual 224, 3) := by decide +kernel
theorem dX10_begins_16 : decode cX10_begins 16 = .ok (.bipush 126, 2) := by decide +kernel
theorem dX10_begins_18 : decode cX10_begins 18 = .ok (.if_icmp .eq 20, 3) := by decide +kernel
theorem dX10_begins_21 : decode cX10_begins 21 = .ok (.aload_n 0, 1) := by decide +kernel
theorem dX10_begins_22 : decode cX10_begins 22 = .ok (.invokevirtual 224, 3) := by decide +kernel
theorem dX10_begins_25 : decode cX10_begins 25 = .ok (.bipush 40, 2) := by decide +kernel
theorem dX10_begins_27 : decode cX10_begins 27 = .ok (.if_icmp .ne 15, 3) := by decide +kernel
theorem dX10_begins_30 : decode cX10_begins 30 = .ok (.aload_n 0, 1) := by decide +kernel
theorem dX10_begins_31 : decode cX10_begins 31 = .ok (.getfield 231, 3) := by decide +kernel
theorem dX10_begins_34 : decode cX10_begins 34 = .ok (.iconst 4, 1) := by decide +kernel
theorem dX10_begins_35 : decode cX10_begins 35 = .ok (.if_icmp .ge 7, 3) := by decide +kernel
theorem dX10_begins_38 : decode cX10_begins 38 = .ok (.iconst 1, 1) := by decide +kernel
theorem dX10_begins_39 : decode cX10_begins 39 = .ok (.goto 4, 3) := by decide +kernel
theorem dX10_begins_42 : decode cX10_begins 42 = .ok (.iconst 0, 1) := by decide +kernel
theorem dX10_begins_43 : decode cX10_begins 43 = .ok (.ireturn, 1) := by decide +kernel
theorem dX10_puts_0 : decode cX10_puts 0 = .ok (.aload_n 0, 1) := by decide +kernel
theorem dX10_puts_1 : decode cX10_puts 1 = .ok (.getfield 234, 3) := by decide +kernel
theorem dX10_puts_4 : decode cX10_puts 4 = .ok (.ifCond .ne 23, 3) := by decide +kernel
theorem dX10_puts_7 : decode cX10_puts 7 = .ok (.aload_n 0, 1) := by decide +kernel
theorem dX10_puts_8 : decode cX10_puts 8 = .ok (.getfield 58, 3) := by decide +kernel
theorem dX10_puts_11 : decode cX10_puts 11 = .ok (.aload_n 0, 1) := by decide +kernel
theorem dX10_puts_12 : decode cX10_puts 12 = .ok (.getfield 175, 3) := by decide +kernel
theorem dX10_puts_15 : decode cX10_puts 15 = .ok (.iload_n 1, 1) := by decide +kernel
theorem dX10_puts_16 : decode cX10_puts 16 = .ok (.iastore, 1) := by decide +kernel
theorem dX10_puts_17 : decode cX10_puts 17 = .ok (.aload_n 0, 1) := by decide +kernel
theorem dX10_puts_18 : decode cX10_puts 18 = .ok (.dup, 1) := by decide +kernel
theorem dX10_puts_19 : decode cX10_puts 19 = .ok (.getfield 175, 3) := by decide +kernel
theorem dX10_puts_22 : decode cX10_puts 22 = .ok (.iconst 1, 1) := by decide +kernel
theorem dX10_puts_23 : decode cX10_puts 23 = .ok (.iadd, 1) := by decide +kernel
theorem dX10_puts_24 : decode cX10_puts 24 = .ok (.putfield 175, 3) := by decide +kernel
theorem dX10_puts_27 : decode cX10_puts 27 = .ok (.return_, 1) := by decide +kernel
theorem dX10_reverses_0 : decode cX10_reverses 0 = .ok (.aload_n 0, 1) := by decide +kernel
theorem dX10_reverses_1 : decode cX10_reverses 1 = .ok (.getfield 175, 3) := by decide +kernel
theorem dX10_reverses_4 : decode cX10_reverses 4 = .ok (.iload_n 1, 1) := by decide +kernel
theorem dX10_reverses_5 : decode cX10_reverses 5 = .ok (.isub, 1) := by decide +kernel
theorem dX10_reverses_6 : decode cX10_reverses 6 = .ok (.istore_n 2, 1) := by decide +kernel
theorem dX10_reverses_7 : decode cX10_reverses 7 = .ok (.iconst 0, 1) := by decide +kernel
theorem dX10_reverses_8 : decode cX10_reverses 8 = .ok (.istore_n 3, 1) := by decide +kernel
theorem dX10_reverses_9 : decode cX10_reverses 9 = .ok (.iconst 0, 1) := by decide +kernel
theorem dX10_reverses_10 : decode cX10_reverses 10 = .ok (.istore 4, 2) := by decide +kernel
theorem dX10_reverses_12 : decode cX10_reverses 12 = .ok (.iload 4, 2) := by decide +kernel
theorem dX10_reverses_14 : decode cX10_reverses 14 = .ok (.iload_n 2, 1) := by decide +kernel
theorem dX10_reverses_15 : decode cX10_reverses 15 = .ok (.if_icmp .ge 67, 3) := by decide +kernel
theorem dX10_reverses_18 : decode cX10_reverses 18 = .ok (.aload_n 0, 1) := by decide +kernel
theorem dX10_reverses_19 : decode cX10_reverses 19 = .ok (.getfield 234, 3) := by decide +kernel
theorem dX10_reverses_22 : decode cX10_reverses 22 = .ok (.ifCond .ne 60, 3) := by decide +kernel
theorem dX10_reverses_25 : decode cX10_reverses 25 = .ok (.aload_n 0, 1) := by decide +kernel
theorem dX10_reverses_26 : decode cX10_reverses 26 = .ok (.getfield 73, 3) := by decide +kernel
theorem dX10_reverses_29 : decode cX10_reverses 29 = .ok (.iload 4, 2) := by decide +kernel
theorem dX10_reverses_31 : decode cX10_reverses 31 = .ok (.aload_n 0, 1) := by decide +kernel
theorem dX10_reverses_32 : decode cX10_reverses 32 = .ok (.getfield 58, 3) := by decide +kernel
theorem dX10_reverses_35 : decode cX10_reverses 35 = .ok (.iload_n 1, 1) := by decide +kernel
theorem dX10_reverses_36 : decode cX10_reverses 36 = .ok (.iload 4, 2) := by decide +kernel
theorem dX10_reverses_38 : decode cX10_reverses 38 = .ok (.iadd, 1) := by decide +kernel
theorem dX10_reverses_39 : decode cX10_reverses 39 = .ok (.iaload, 1) := by decide +kernel
theorem dX10_reverses_40 : decode cX10_reverses 40 = .ok (.iastore, 1) := by decide +kernel
theorem dX10_reverses_41 : decode cX10_reverses 41 = .ok (.iload_n 3, 1) := by decide +kernel
theorem dX10_reverses_42 : decode cX10_reverses 42 = .ok (.aload_n 0, 1) := by decide +kernel
theorem dX10_reverses_43 : decode cX10_reverses 43 = .ok (.getfield 73, 3) := by decide +kernel
theorem dX10_reverses_46 : decode cX10_reverses 46 = .ok (.iload 4, 2) := by decide +kernel
theorem dX10_reverses_48 : decode cX10_reverses 48 = .ok (.iaload, 1) := by decide +kernel
theorem dX10_reverses_49 : decode cX10_reverses 49 = .ok (.iconst 2, 1) := by decide +kernel
theorem dX10_reverses_50 : decode cX10_reverses 50 = .ok (.if_icmp .ne 7, 3) := by decide +kernel
theorem dX10_reverses_53 : decode cX10_reverses 53 = .ok (.iconst 2, 1) := by decide +kernel
theorem dX10_reverses_54 : decode cX10_reverses 54 = .ok (.goto 20, 3) := by decide +kernel
theorem dX10_reverses_57 : decode cX10_reverses 57 = .ok (.aload_n 0, 1) := by decide +kernel
theorem dX10_reverses_58 : decode cX10_reverses 58 = .ok (.getfield 73, 3) := by decide +kernel
theorem dX10_reverses_61 : decode cX10_reverses 61 = .ok (.iload 4, 2) := by decide +kernel
theorem dX10_reverses_63 : decode cX10_reverses 63 = .ok (.iaload, 1) := by decide +kernel
theorem dX10_reverses_64 : decode cX10_reverses 64 = .ok (.iconst 5, 1) := by decide +kernel
theorem dX10_reverses_65 : decode cX10_reverses 65 = .ok (.if_icmp .ne 8, 3) := by decide +kernel
theorem dX10_reverses_68 : decode cX10_reverses 68 = .ok (.bipush 7, 2) := by decide +kernel
theorem dX10_reverses_70 : decode cX10_reverses 70 = .ok (.goto 4, 3) := by decide +kernel
theorem dX10_reverses_73 : decode cX10_reverses 73 = .ok (.iconst 1, 1) := by decide +kernel
theorem dX10_reverses_74 : decode cX10_reverses 74 = .ok (.iadd, 1) := by decide +kernel
theorem dX10_reverses_75 : decode cX10_reverses 75 = .ok (.istore_n 3, 1) := by decide +kernel
theorem dX10_reverses_76 : decode cX10_reverses 76 = .ok (.iinc 4 1, 3) := by decide +kernel
theorem dX10_reverses_79 : decode cX10_reverses 79 = .ok (.goto (-67), 3) := by decide +kernel
theorem dX10_reverses_82 : decode cX10_reverses 82 = .ok (.aload_n 0, 1) := by decide +kernel
theorem dX10_reverses_83 : decode cX10_reverses 83 = .ok (.dup, 1) := by decide +kernel
theorem dX10_reverses_84 : decode cX10_reverses 84 = .ok (.getfield 234, 3) := by decide +kernel
theorem dX10_reverses_87 : decode cX10_reverses 87 = .ok (.iload_n 3, 1) := by decide +kernel
theorem dX10_reverses_88 : decode cX10_reverses 88 = .ok (.bipush 60, 2) := by decide +kernel
theorem dX10_reverses_90 : decode cX10_reverses 90 = .ok (.if_icmp .le 7, 3) := by decide +kernel
theorem dX10_reverses_93 : decode cX10_reverses 93 = .ok (.iconst 1, 1) := by decide +kernel
theorem dX10_reverses_94 : decode cX10_reverses 94 = .ok (.goto 4, 3) := by decide +kernel
theorem dX10_reverses_97 : decode cX10_reverses 97 = .ok (.iconst 0, 1) := by decide +kernel
theorem dX10_reverses_98 : decode cX10_reverses 98 = .ok (.ior, 1) := by decide +kernel
theorem dX10_reverses_99 : decode cX10_reverses 99 = .ok (.putfield 234, 3) := by decide +kernel
theorem dX10_reverses_102 : decode cX10_reverses 102 = .ok (.aload_n 0, 1) := by decide +kernel
theorem dX10_reverses_103 : decode cX10_reverses 103 = .ok (.getfield 234, 3) := by decide +kernel
theorem dX10_reverses_106 : decode cX10_reverses 106 = .ok (.ifCond .eq 4, 3) := by decide +kernel
theorem dX10_reverses_109 : decode cX10_reverses 109 = .ok (.return_, 1) := by decide +kernel
theorem dX10_reverses_110 : decode cX10_reverses 110 = .ok (.aload_n 0, 1) := by decide +kernel
theorem dX10_reverses_111 : decode cX10_reverses 111 = .ok (.iload_n 1, 1) := by decide +kernel
theorem dX10_reverses_112 : decode cX10_reverses 112 = .ok (.putfield 175, 3) := by decide +kernel
theorem dX10_reverses_115 : decode cX10_reverses 115 = .ok (.iload_n 2, 1) := by decide +kernel
theorem dX10_reverses_116 : decode cX10_reverses 116 = .ok (.iconst 1, 1) := by decide +kernel
theorem dX10_reverses_117 : decode cX10_reverses 117 = .ok (.isub, 1) := by decide +kernel
theorem dX10_reverses_118 : decode cX10_reverses 118 = .ok (.istore 4, 2) := by decide +kernel
theorem dX10_reverses_120 : decode cX10_reverses 120 = .ok (.iload 4, 2) := by decide +kernel
theorem dX10_reverses_122 : decode cX10_reverses 122 = .ok (.ifCond .lt 84, 3) := by decide +kernel
theorem dX10_reverses_125 : decode cX10_reverses 125 = .ok (.aload_n 0, 1) := by decide +kernel
theorem dX10_reverses_126 : decode cX10_reverses 126 = .ok (.getfield 73, 3) := by decide +kernel
theorem dX10_reverses_129 : decode cX10_reverses 129 = .ok (.iload 4, 2) := by decide +kernel
theorem dX10_reverses_131 : decode cX10_reverses 131 = .ok (.iaload, 1) := by decide +kernel
theorem dX10_reverses_132 : decode cX10_reverses 132 = .ok (.istore 5, 2) := by decide +kernel
theorem dX10_reverses_134 : decode cX10_reverses 134 = .ok (.aload_n 0, 1) := by decide +kernel
theorem dX10_reverses_135 : decode cX10_reverses 135 = .ok (.iload 5, 2) := by decide +kernel
theorem dX10_reverses_137 : decode cX10_reverses 137 = .ok (.iconst 1, 1) := by decide +kernel
theorem dX10_reverses_138 : decode cX10_reverses 138 = .ok (.if_icmp .ne 8, 3) := by decide +kernel
theorem dX10_reverses_141 : decode cX10_reverses 141 = .ok (.bipush 6, 2) := by decide +kernel
theorem dX10_reverses_143 : decode cX10_reverses 143 = .ok (.goto 16, 3) := by decide +kernel
theorem dX10_reverses_146 : decode cX10_reverses 146 = .ok (.iload 5, 2) := by decide +kernel
theorem dX10_reverses_148 : decode cX10_reverses 148 = .ok (.bipush 6, 2) := by decide +kernel
theorem dX10_reverses_150 : decode cX10_reverses 150 = .ok (.if_icmp .ne 7, 3) := by decide +kernel
theorem dX10_reverses_153 : decode cX10_reverses 153 = .ok (.iconst 1, 1) := by decide +kernel
theorem dX10_reverses_154 : decode cX10_reverses 154 = .ok (.goto 5, 3) := by decide +kernel
theorem dX10_reverses_157 : decode cX10_reverses 157 = .ok (.iload 5, 2) := by decide +kernel
theorem dX10_reverses_159 : decode cX10_reverses 159 = .ok (.invokevirtual 238, 3) := by decide +kernel
theorem dX10_reverses_162 : decode cX10_reverses 162 = .ok (.iload 5, 2) := by decide +kernel
theorem dX10_reverses_164 : decode cX10_reverses 164 = .ok (.iconst 2, 1) := by decide +kernel
theorem dX10_reverses_165 : decode cX10_reverses 165 = .ok (.if_icmp .ne 8, 3) := by decide +kernel
theorem dX10_reverses_168 : decode cX10_reverses 168 = .ok (.aload_n 0, 1) := by decide +kernel
theorem dX10_reverses_169 : decode cX10_reverses 169 = .ok (.iconst 4, 1) := by decide +kernel
theorem dX10_reverses_170 : decode cX10_reverses 170 = .ok (.invokevirtual 238, 3) := by decide +kernel
theorem dX10_reverses_173 : decode cX10_reverses 173 = .ok (.iconst 1, 1) := by decide +kernel
theorem dX10_reverses_174 : decode cX10_reverses 174 = .ok (.istore 6, 2) := by decide +kernel
theorem dX10_reverses_176 : decode cX10_reverses 176 = .ok (.iload 6, 2) := by decide +kernel
theorem dX10_reverses_178 : decode cX10_reverses 178 = .ok (.bipush 7, 2) := by decide +kernel
theorem dX10_reverses_180 : decode cX10_reverses 180 = .ok (.if_icmp .ge 20, 3) := by decide +kernel
theorem dX10_reverses_183 : decode cX10_reverses 183 = .ok (.iload 5, 2) := by decide +kernel
theorem dX10_reverses_185 : decode cX10_reverses 185 = .ok (.iconst 5, 1) := by decide +kernel
theorem dX10_reverses_186 : decode cX10_reverses 186 = .ok (.if_icmp .ne 14, 3) := by decide +kernel
theorem dX10_reverses_189 : decode cX10_reverses 189 = .ok (.aload_n 0, 1) := by decide +kernel
theorem dX10_reverses_190 : decode cX10_reverses 190 = .ok (.iconst 5, 1) := by decide +kernel
theorem dX10_reverses_191 : decode cX10_reverses 191 = .ok (.invokevirtual 238, 3) := by decide +kernel
theorem dX10_reverses_194 : decode cX10_reverses 194 = .ok (.iinc 6 1, 3) := by decide +kernel
theorem dX10_reverses_197 : decode cX10_reverses 197 = .ok (.goto (-21), 3) := by decide +kernel
theorem dX10_reverses_200 : decode cX10_reverses 200 = .ok (.iinc 4 (-1), 3) := by decide +kernel
theorem dX10_reverses_203 : decode cX10_reverses 203 = .ok (.goto (-83), 3) := by decide +kernel
theorem dX10_reverses_206 : decode cX10_reverses 206 = .ok (.return_, 1) := by decide +kernel
theorem dX10_item_0 : decode cX10_item 0 = .ok (.aload_n 0, 1) := by decide +kernel
theorem dX10_item_1 : decode cX10_item 1 = .ok (.invokevirtual 224, 3) := by decide +kernel
theorem dX10_item_4 : decode cX10_item 4 = .ok (.invokestatic 228, 3) := by decide +kernel
theorem dX10_item_7 : decode cX10_item 7 = .ok (.istore_n 1, 1) := by decide +kernel
theorem dX10_item_8 : decode cX10_item 8 = .ok (.iload_n 1, 1) := by decide +kernel
theorem dX10_item_9 : decode cX10_item 9 = .ok (.bipush (-2), 2) := by decide +kernel
theorem dX10_item_11 : decode cX10_item 11 = .ok (.if_icmp .eq 20, 3) := by decide +kernel
theorem dX10_item_14 : decode cX10_item 14 = .ok (.aload_n 0, 1) := by decide +kernel
theorem dX10_item_15 : decode cX10_item 15 = .ok (.dup, 1) := by decide +kernel
theorem dX10_item_16 : decode cX10_item 16 = .ok (.getfield 221, 3) := by decide +kernel
theorem dX10_item_19 : decode cX10_item 19 = .ok (.iconst 1, 1) := by decide +kernel
theorem dX10_item_20 : decode cX10_item 20 = .ok (.iadd, 1) := by decide +kernel
theorem dX10_item_21 : decode cX10_item 21 = .ok (.putfield 221, 3) := by decide +kernel
theorem dX10_item_24 : decode cX10_item 24 = .ok (.aload_n 0, 1) := by decide +kernel
theorem dX10_item_25 : decode cX10_item 25 = .ok (.iload_n 1, 1) := by decide +kernel
theorem dX10_item_26 : decode cX10_item 26 = .ok (.invokevirtual 238, 3) := by decide +kernel
theorem dX10_item_29 : decode cX10_item 29 = .ok (.iconst 1, 1) := by decide +kernel
theorem dX10_item_30 : decode cX10_item 30 = .ok (.ireturn, 1) := by decide +kernel
theorem dX10_item_31 : decode cX10_item 31 = .ok (.aload_n 0, 1) := by decide +kernel
theorem dX10_item_32 : decode cX10_item 32 = .ok (.getfield 175, 3) := by decide +kernel
theorem dX10_item_35 : decode cX10_item 35 = .ok (.istore_n 2, 1) := by decide +kernel
theorem dX10_item_36 : decode cX10_item 36 = .ok (.aload_n 0, 1) := by decide +kernel
theorem dX10_item_37 : decode cX10_item 37 = .ok (.invokevirtual 224, 3) := by decide +kernel
theorem dX10_item_40 : decode cX10_item 40 = .ok (.bipush 126, 2) := by decide +kernel
theorem dX10_item_42 : decode cX10_item 42 = .ok (.if_icmp .ne 36, 3) := by decide +kernel
theorem dX10_item_45 : decode cX10_item 45 = .ok (.aload_n 0, 1) := by decide +kernel
theorem dX10_item_46 : decode cX10_item 46 = .ok (.dup, 1) := by decide +kernel
theorem dX10_item_47 : decode cX10_item 47 = .ok (.getfield 221, 3) := by decide +kernel
theorem dX10_item_50 : decode cX10_item 50 = .ok (.iconst 1, 1) := by decide +kernel
theorem dX10_item_51 : decode cX10_item 51 = .ok (.iadd, 1) := by decide +kernel
theorem dX10_item_52 : decode cX10_item 52 = .ok (.putfield 221, 3) := by decide +kernel
theorem dX10_item_55 : decode cX10_item 55 = .ok (.aload_n 0, 1) := by decide +kernel
theorem dX10_item_56 : decode cX10_item 56 = .ok (.invokevirtual 241, 3) := by decide +kernel
theorem dX10_item_59 : decode cX10_item 59 = .ok (.ifCond .eq 10, 3) := by decide +kernel
theorem dX10_item_62 : decode cX10_item 62 = .ok (.aload_n 0, 1) := by decide +kernel
theorem dX10_item_63 : decode cX10_item 63 = .ok (.invokevirtual 245, 3) := by decide +kernel
theorem dX10_item_66 : decode cX10_item 66 = .ok (.ifCond .ne 5, 3) := by decide +kernel
theorem dX10_item_69 : decode cX10_item 69 = .ok (.iconst 0, 1) := by decide +kernel
theorem dX10_item_70 : decode cX10_item 70 = .ok (.ireturn, 1) := by decide +kernel
theorem dX10_item_71 : decode cX10_item 71 = .ok (.aload_n 0, 1) := by decide +kernel
theorem dX10_item_72 : decode cX10_item 72 = .ok (.iload_n 2, 1) := by decide +kernel
theorem dX10_item_73 : decode cX10_item 73 = .ok (.invokevirtual 248, 3) := by decide +kernel
theorem dX10_item_76 : decode cX10_item 76 = .ok (.iconst 1, 1) := by decide +kernel
theorem dX10_item_77 : decode cX10_item 77 = .ok (.ireturn, 1) := by decide +kernel
theorem dX10_item_78 : decode cX10_item 78 = .ok (.aload_n 0, 1) := by decide +kernel
theorem dX10_item_79 : decode cX10_item 79 = .ok (.dup, 1) := by decide +kernel
theorem dX10_item_80 : decode cX10_item 80 = .ok (.getfield 231, 3) := by decide +kernel
theorem dX10_item_83 : decode cX10_item 83 = .ok (.iconst 1, 1) := by decide +kernel
theorem dX10_item_84 : decode cX10_item 84 = .ok (.iadd, 1) := by decide +kernel
theorem dX10_item_85 : decode cX10_item 85 = .ok (.putfield 231, 3) := by decide +kernel
theorem dX10_item_88 : decode cX10_item 88 = .ok (.aload_n 0, 1) := by decide +kernel
theorem dX10_item_89 : decode cX10_item 89 = .ok (.dup, 1) := by decide +kernel
theorem dX10_item_90 : decode cX10_item 90 = .ok (.getfield 221, 3) := by decide +kernel
theorem dX10_item_93 : decode cX10_item 93 = .ok (.iconst 1, 1) := by decide +kernel
theorem dX10_item_94 : decode cX10_item 94 = .ok (.iadd, 1) := by decide +kernel
theorem dX10_item_95 : decode cX10_item 95 = .ok (.putfield 221, 3) := by decide +kernel
theorem dX10_item_98 : decode cX10_item 98 = .ok (.aload_n 0, 1) := by decide +kernel
theorem dX10_item_99 : decode cX10_item 99 = .ok (.invokevirtual 251, 3) := by decide +kernel
theorem dX10_item_102 : decode cX10_item 102 = .ok (.ifCond .eq 12, 3) := by decide +kernel
theorem dX10_item_105 : decode cX10_item 105 = .ok (.aload_n 0, 1) := by decide +kernel
theorem dX10_item_106 : decode cX10_item 106 = .ok (.invokevirtual 224, 3) := by decide +kernel
theorem dX10_item_109 : decode cX10_item 109 = .ok (.bipush 41, 2) := by decide +kernel
theorem dX10_item_111 : decode cX10_item 111 = .ok (.if_icmp .eq 5, 3) := by decide +kernel
theorem dX10_item_114 : decode cX10_item 114 = .ok (.iconst 0, 1) := by decide +kernel
theorem dX10_item_115 : decode cX10_item 115 = .ok (.ireturn, 1) := by decide +kernel
theorem dX10_item_116 : decode cX10_item 116 = .ok (.aload_n 0, 1) := by decide +kernel
theorem dX10_item_117 : decode cX10_item 117 = .ok (.dup, 1) := by decide +kernel
theorem dX10_item_118 : decode cX10_item 118 = .ok (.getfield 231, 3) := by decide +kernel
theorem dX10_item_121 : decode cX10_item 121 = .ok (.iconst 1, 1) := by decide +kernel
theorem dX10_item_122 : decode cX10_item 122 = .ok (.isub, 1) := by decide +kernel
theorem dX10_item_123 : decode cX10_item 123 = .ok (.putfield 231, 3) := by decide +kernel
theorem dX10_item_126 : decode cX10_item 126 = .ok (.aload_n 0, 1) := by decide +kernel
theorem dX10_item_127 : decode cX10_item 127 = .ok (.dup, 1) := by decide +kernel
theorem dX10_item_128 : decode cX10_item 128 = .ok (.getfield 221, 3) := by decide +kernel
theorem dX10_item_131 : decode cX10_item 131 = .ok (.iconst 1, 1) := by decide +kernel
theorem dX10_item_132 : decode cX10_item 132 = .ok (.iadd, 1) := by decide +kernel
theorem dX10_item_133 : decode cX10_item 133 = .ok (.putfield 221, 3) := by decide +kernel
theorem dX10_item_136 : decode cX10_item 136 = .ok (.iconst 1, 1) := by decide +kernel
theorem dX10_item_137 : decode cX10_item 137 = .ok (.istore_n 3, 1) := by decide +kernel
theorem dX10_item_138 : decode cX10_item 138 = .ok (.aload_n 0, 1) := by decide +kernel
theorem dX10_item_139 : decode cX10_item 139 = .ok (.invokevirtual 224, 3) := by decide +kernel
theorem dX10_item_142 : decode cX10_item 142 = .ok (.i2l, 1) := by decide +kernel
theorem dX10_item_143 : decode cX10_item 143 = .ok (.ldc2_w 254, 3) := by decide +kernel
theorem dX10_item_146 : decode cX10_item 146 = .ok (.ldc2_w 256, 3) := by decide +kernel
theorem dX10_item_149 : decode cX10_item 149 = .ok (.invokestatic 120, 3) := by decide +kernel
theorem dX10_item_152 : decode cX10_item 152 = .ok (.ifCond .eq 21, 3) := by decide +kernel
theorem dX10_item_155 : decode cX10_item 155 = .ok (.aload_n 0, 1) := by decide +kernel
theorem dX10_item_156 : decode cX10_item 156 = .ok (.invokevirtual 224, 3) := by decide +kernel
theorem dX10_item_159 : decode cX10_item 159 = .ok (.bipush 48, 2) := by decide +kernel
theorem dX10_item_161 : decode cX10_item 161 = .ok (.isub, 1) := by decide +kernel
theorem dX10_item_162 : decode cX10_item 162 = .ok (.istore_n 3, 1) := by decide +kernel
theorem dX10_item_163 : decode cX10_item 163 = .ok (.aload_n 0, 1) := by decide +kernel
theorem dX10_item_164 : decode cX10_item 164 = .ok (.dup, 1) := by decide +kernel
theorem dX10_item_165 : decode cX10_item 165 = .ok (.getfield 221, 3) := by decide +kernel
theorem dX10_item_168 : decode cX10_item 168 = .ok (.iconst 1, 1) := by decide +kernel
theorem dX10_item_169 : decode cX10_item 169 = .ok (.iadd, 1) := by decide +kernel
theorem dX10_item_170 : decode cX10_item 170 = .ok (.putfield 221, 3) := by decide +kernel
theorem dX10_item_173 : decode cX10_item 173 = .ok (.aload_n 0, 1) := by decide +kernel
theorem dX10_item_174 : decode cX10_item 174 = .ok (.getfield 175, 3) := by decide +kernel
theorem dX10_item_177 : decode cX10_item 177 = .ok (.iload_n 2, 1) := by decide +kernel
theorem dX10_item_178 : decode cX10_item 178 = .ok (.isub, 1) := by decide +kernel
theorem dX10_item_179 : decode cX10_item 179 = .ok (.istore 4, 2) := by decide +kernel
theorem dX10_item_181 : decode cX10_item 181 = .ok (.aload_n 0, 1) := by decide +kernel
theorem dX10_item_182 : decode cX10_item 182 = .ok (.dup, 1) := by decide +kernel
theorem dX10_item_183 : decode cX10_item 183 = .ok (.getfield 234, 3) := by decide +kernel
theorem dX10_item_186 : decode cX10_item 186 = .ok (.iload 4, 2) := by decide +kernel
theorem dX10_item_188 : decode cX10_item 188 = .ok (.iload_n 3, 1) := by decide +kernel
theorem dX10_item_189 : decode cX10_item 189 = .ok (.imul, 1) := by decide +kernel
theorem dX10_item_190 : decode cX10_item 190 = .ok (.bipush 60, 2) := by decide +kernel
theorem dX10_item_192 : decode cX10_item 192 = .ok (.if_icmp .le 7, 3) := by decide +kernel
theorem dX10_item_195 : decode cX10_item 195 = .ok (.iconst 1, 1) := by decide +kernel
theorem dX10_item_196 : decode cX10_item 196 = .ok (.goto 4, 3) := by decide +kernel
theorem dX10_item_199 : decode cX10_item 199 = .ok (.iconst 0, 1) := by decide +kernel
theorem dX10_item_200 : decode cX10_item 200 = .ok (.ior, 1) := by decide +kernel
theorem dX10_item_201 : decode cX10_item 201 = .ok (.putfield 234, 3) := by decide +kernel
theorem dX10_item_204 : decode cX10_item 204 = .ok (.aload_n 0, 1) := by decide +kernel
theorem dX10_item_205 : decode cX10_item 205 = .ok (.iload_n 3, 1) := by decide +kernel
theorem dX10_item_206 : decode cX10_item 206 = .ok (.ifCond .ne 7, 3) := by decide +kernel
theorem dX10_item_209 : decode cX10_item 209 = .ok (.iload_n 2, 1) := by decide +kernel
theorem dX10_item_210 : decode cX10_item 210 = .ok (.goto 7, 3) := by decide +kernel
theorem dX10_item_213 : decode cX10_item 213 = .ok (.aload_n 0, 1) := by decide +kernel
theorem dX10_item_214 : decode cX10_item 214 = .ok (.getfield 175, 3) := by decide +kernel
theorem dX10_item_217 : decode cX10_item 217 = .ok (.putfield 175, 3) := by decide +kernel
theorem dX10_item_220 : decode cX10_item 220 = .ok (.iload 4, 2) := by decide +kernel
theorem dX10_item_222 : decode cX10_item 222 = .ok (.istore 5, 2) := by decide +kernel
theorem dX10_item_224 : decode cX10_item 224 = .ok (.iload 5, 2) := by decide +kernel
theorem dX10_item_226 : decode cX10_item 226 = .ok (.iload 4, 2) := by decide +kernel
theorem dX10_item_228 : decode cX10_item 228 = .ok (.iload_n 3, 1) := by decide +kernel
theorem dX10_item_229 : decode cX10_item 229 = .ok (.imul, 1) := by decide +kernel
theorem dX10_item_230 : decode cX10_item 230 = .ok (.if_icmp .ge 32, 3) := by decide +kernel
theorem dX10_item_233 : decode cX10_item 233 = .ok (.aload_n 0, 1) := by decide +kernel
theorem dX10_item_234 : decode cX10_item 234 = .ok (.getfield 234, 3) := by decide +kernel
theorem dX10_item_237 : decode cX10_item 237 = .ok (.ifCond .ne 25, 3) := by decide +kernel
theorem dX10_item_240 : decode cX10_item 240 = .ok (.aload_n 0, 1) := by decide +kernel
theorem dX10_item_241 : decode cX10_item 241 = .ok (.aload_n 0, 1) := by decide +kernel
theorem dX10_item_242 : decode cX10_item 242 = .ok (.getfield 58, 3) := by decide +kernel
theorem dX10_item_245 : decode cX10_item 245 = .ok (.iload_n 2, 1) := by decide +kernel
theorem dX10_item_246 : decode cX10_item 246 = .ok (.iload 5, 2) := by decide +kernel
theorem dX10_item_248 : decode cX10_item 248 = .ok (.iadd, 1) := by decide +kernel
theorem dX10_item_249 : decode cX10_item 249 = .ok (.iload 4, 2) := by decide +kernel
theorem dX10_item_251 : decode cX10_item 251 = .ok (.isub, 1) := by decide +kernel
theorem dX10_item_252 : decode cX10_item 252 = .ok (.iaload, 1) := by decide +kernel
theorem dX10_item_253 : decode cX10_item 253 = .ok (.invokevirtual 238, 3) := by decide +kernel
theorem dX10_item_256 : decode cX10_item 256 = .ok (.iinc 5 1, 3) := by decide +kernel
theorem dX10_item_259 : decode cX10_item 259 = .ok (.goto (-35), 3) := by decide +kernel
theorem dX10_item_262 : decode cX10_item 262 = .ok (.iconst 1, 1) := by decide +kernel
theorem dX10_item_263 : decode cX10_item 263 = .ok (.ireturn, 1) := by decide +kernel
theorem dX10_items_0 : decode cX10_items 0 = .ok (.aload_n 0, 1) := by decide +kernel
theorem dX10_items_1 : decode cX10_items 1 = .ok (.invokevirtual 241, 3) := by decide +kernel
theorem dX10_items_4 : decode cX10_items 4 = .ok (.ifCond .ne 5, 3) := by decide +kernel
theorem dX10_items_7 : decode cX10_items 7 = .ok (.iconst 0, 1) := by decide +kernel
theorem dX10_items_8 : decode cX10_items 8 = .ok (.ireturn, 1) := by decide +kernel
theorem dX10_items_9 : decode cX10_items 9 = .ok (.iconst 1, 1) := by decide +kernel
theorem dX10_items_10 : decode cX10_items 10 = .ok (.istore_n 1, 1) := by decide +kernel
theorem dX10_items_11 : decode cX10_items 11 = .ok (.aload_n 0, 1) := by decide +kernel
theorem dX10_items_12 : decode cX10_items 12 = .ok (.getfield 175, 3) := by decide +kernel
theorem dX10_items_15 : decode cX10_items 15 = .ok (.istore_n 2, 1) := by decide +kernel
theorem dX10_items_16 : decode cX10_items 16 = .ok (.iload_n 1, 1) := by decide +kernel
theorem dX10_items_17 : decode cX10_items 17 = .ok (.ifCond .eq 43, 3) := by decide +kernel
theorem dX10_items_20 : decode cX10_items 20 = .ok (.aload_n 0, 1) := by decide +kernel
theorem dX10_items_21 : decode cX10_items 21 = .ok (.invokevirtual 241, 3) := by decide +kernel
theorem dX10_items_24 : decode cX10_items 24 = .ok (.ifCond .eq 36, 3) := by decide +kernel
theorem dX10_items_27 : decode cX10_items 27 = .ok (.aload_n 0, 1) := by decide +kernel
theorem dX10_items_28 : decode cX10_items 28 = .ok (.invokevirtual 245, 3) := by decide +kernel
theorem dX10_items_31 : decode cX10_items 31 = .ok (.istore_n 1, 1) := by decide +kernel
theorem dX10_items_32 : decode cX10_items 32 = .ok (.aload_n 0, 1) := by decide +kernel
theorem dX10_items_33 : decode cX10_items 33 = .ok (.dup, 1) := by decide +kernel
theorem dX10_items_34 : decode cX10_items 34 = .ok (.getfield 234, 3) := by decide +kernel
theorem dX10_items_37 : decode cX10_items 37 = .ok (.aload_n 0, 1) := by decide +kernel
theorem dX10_items_38 : decode cX10_items 38 = .ok (.getfield 175, 3) := by decide +kernel
theorem dX10_items_41 : decode cX10_items 41 = .ok (.iload_n 2, 1) := by decide +kernel
theorem dX10_items_42 : decode cX10_items 42 = .ok (.isub, 1) := by decide +kernel
theorem dX10_items_43 : decode cX10_items 43 = .ok (.bipush 60, 2) := by decide +kernel
theorem dX10_items_45 : decode cX10_items 45 = .ok (.if_icmp .le 7, 3) := by decide +kernel
theorem dX10_items_48 : decode cX10_items 48 = .ok (.iconst 1, 1) := by decide +kernel
theorem dX10_items_49 : decode cX10_items 49 = .ok (.goto 4, 3) := by decide +kernel
theorem dX10_items_52 : decode cX10_items 52 = .ok (.iconst 0, 1) := by decide +kernel
theorem dX10_items_53 : decode cX10_items 53 = .ok (.ior, 1) := by decide +kernel
theorem dX10_items_54 : decode cX10_items 54 = .ok (.putfield 234, 3) := by decide +kernel
theorem dX10_items_57 : decode cX10_items 57 = .ok (.goto (-41), 3) := by decide +kernel
theorem dX10_items_60 : decode cX10_items 60 = .ok (.iload_n 1, 1) := by decide +kernel
theorem dX10_items_61 : decode cX10_items 61 = .ok (.ireturn, 1) := by decide +kernel
theorem dX10_write_0 : decode cX10_write 0 = .ok (.iload_n 1, 1) := by decide +kernel
theorem dX10_write_1 : decode cX10_write 1 = .ok (.invokestatic 187, 3) := by decide +kernel
theorem dX10_write_4 : decode cX10_write 4 = .ok (.ifCond .ne 5, 3) := by decide +kernel
theorem dX10_write_7 : decode cX10_write 7 = .ok (.iconst (-1), 1) := by decide +kernel
theorem dX10_write_8 : decode cX10_write 8 = .ok (.ireturn, 1) := by decide +kernel
theorem dX10_write_9 : decode cX10_write 9 = .ok (.aload_n 0, 1) := by decide +kernel
theorem dX10_write_10 : decode cX10_write 10 = .ok (.iconst 0, 1) := by decide +kernel
theorem dX10_write_11 : decode cX10_write 11 = .ok (.putfield 221, 3) := by decide +kernel
theorem dX10_write_14 : decode cX10_write 14 = .ok (.aload_n 0, 1) := by decide +kernel
theorem dX10_write_15 : decode cX10_write 15 = .ok (.iconst 0, 1) := by decide +kernel
theorem dX10_write_16 : decode cX10_write 16 = .ok (.putfield 231, 3) := by decide +kernel
theorem dX10_write_19 : decode cX10_write 19 = .ok (.aload_n 0, 1) := by decide +kernel
theorem dX10_write_20 : decode cX10_write 20 = .ok (.iconst 0, 1) := by decide +kernel
theorem dX10_write_21 : decode cX10_write 21 = .ok (.putfield 175, 3) := by decide +kernel
theorem dX10_write_24 : decode cX10_write 24 = .ok (.aload_n 0, 1) := by decide +kernel
theorem dX10_write_25 : decode cX10_write 25 = .ok (.iconst 0, 1) := by decide +kernel
theorem dX10_write_26 : decode cX10_write 26 = .ok (.putfield 234, 3) := by decide +kernel
end
section
theorem dX10_write_29 : decode cX10_write 29 = .ok (.aload_n 0, 1) := by decide +kernel
theorem dX10_write_30 : decode cX10_write 30 = .ok (.invokevirtual 251, 3) := by decide +kernel
theorem dX10_write_33 : decode cX10_write 33 = .ok (.ifCond .eq 18, 3) := by decide +kernel
theorem dX10_write_36 : decode cX10_write 36 = .ok (.aload_n 0, 1) := by decide +kernel
theorem dX10_write_37 : decode cX10_write 37 = .ok (.getfield 221, 3) := by decide +kernel
theorem dX10_write_40 : decode cX10_write 40 = .ok (.aload_n 0, 1) := by decide +kernel
theorem dX10_write_41 : decode cX10_write 41 = .ok (.getfield 218, 3) := by decide +kernel
theorem dX10_write_44 : decode cX10_write 44 = .ok (.if_icmp .ne 7, 3) := by decide +kernel
theorem dX10_write_47 : decode cX10_write 47 = .ok (.iconst 1, 1) := by decide +kernel
theorem dX10_write_48 : decode cX10_write 48 = .ok (.goto 4, 3) := by decide +kernel
theorem dX10_write_51 : decode cX10_write 51 = .ok (.iconst 0, 1) := by decide +kernel
theorem dX10_write_52 : decode cX10_write 52 = .ok (.istore_n 2, 1) := by decide +kernel
theorem dX10_write_53 : decode cX10_write 53 = .ok (.aload_n 0, 1) := by decide +kernel
theorem dX10_write_54 : decode cX10_write 54 = .ok (.iconst 0, 1) := by decide +kernel
theorem dX10_write_55 : decode cX10_write 55 = .ok (.putfield 218, 3) := by decide +kernel
theorem dX10_write_58 : decode cX10_write 58 = .ok (.iload_n 2, 1) := by decide +kernel
theorem dX10_write_59 : decode cX10_write 59 = .ok (.ifCond .ne 11, 3) := by decide +kernel
theorem dX10_write_62 : decode cX10_write 62 = .ok (.bipush (-100), 2) := by decide +kernel
theorem dX10_write_64 : decode cX10_write 64 = .ok (.aload_n 0, 1) := by decide +kernel
theorem dX10_write_65 : decode cX10_write 65 = .ok (.getfield 221, 3) := by decide +kernel
theorem dX10_write_68 : decode cX10_write 68 = .ok (.isub, 1) := by decide +kernel
theorem dX10_write_69 : decode cX10_write 69 = .ok (.ireturn, 1) := by decide +kernel
theorem dX10_write_70 : decode cX10_write 70 = .ok (.aload_n 0, 1) := by decide +kernel
theorem dX10_write_71 : decode cX10_write 71 = .ok (.getfield 234, 3) := by decide +kernel
theorem dX10_write_74 : decode cX10_write 74 = .ok (.ifCond .eq 8, 3) := by decide +kernel
theorem dX10_write_77 : decode cX10_write 77 = .ok (.bipush (-3), 2) := by decide +kernel
theorem dX10_write_79 : decode cX10_write 79 = .ok (.goto 8, 3) := by decide +kernel
theorem dX10_write_82 : decode cX10_write 82 = .ok (.aload_n 0, 1) := by decide +kernel
theorem dX10_write_83 : decode cX10_write 83 = .ok (.iload_n 1, 1) := by decide +kernel
theorem dX10_write_84 : decode cX10_write 84 = .ok (.invokevirtual 193, 3) := by decide +kernel
theorem dX10_write_87 : decode cX10_write 87 = .ok (.ireturn, 1) := by decide +kernel
theorem dX10_all_0 : decode cX10_all 0 = .ok (.aload_n 0, 1) := by decide +kernel
theorem dX10_all_1 : decode cX10_all 1 = .ok (.getfield 31, 3) := by decide +kernel
theorem dX10_all_4 : decode cX10_all 4 = .ok (.iconst 0, 1) := by decide +kernel
theorem dX10_all_5 : decode cX10_all 5 = .ok (.iaload, 1) := by decide +kernel
theorem dX10_all_6 : decode cX10_all 6 = .ok (.aload_n 0, 1) := by decide +kernel
theorem dX10_all_7 : decode cX10_all 7 = .ok (.getfield 31, 3) := by decide +kernel
theorem dX10_all_10 : decode cX10_all 10 = .ok (.iconst 1, 1) := by decide +kernel
theorem dX10_all_11 : decode cX10_all 11 = .ok (.iaload, 1) := by decide +kernel
theorem dX10_all_12 : decode cX10_all 12 = .ok (.iadd, 1) := by decide +kernel
theorem dX10_all_13 : decode cX10_all 13 = .ok (.aload_n 0, 1) := by decide +kernel
theorem dX10_all_14 : decode cX10_all 14 = .ok (.getfield 31, 3) := by decide +kernel
theorem dX10_all_17 : decode cX10_all 17 = .ok (.iconst 2, 1) := by decide +kernel
theorem dX10_all_18 : decode cX10_all 18 = .ok (.iaload, 1) := by decide +kernel
theorem dX10_all_19 : decode cX10_all 19 = .ok (.iadd, 1) := by decide +kernel
theorem dX10_all_20 : decode cX10_all 20 = .ok (.ireturn, 1) := by decide +kernel
theorem dX10_image_0 : decode cX10_image 0 = .ok (.iconst 0, 1) := by decide +kernel
theorem dX10_image_1 : decode cX10_image 1 = .ok (.istore_n 1, 1) := by decide +kernel
theorem dX10_image_2 : decode cX10_image 2 = .ok (.iload_n 1, 1) := by decide +kernel
theorem dX10_image_3 : decode cX10_image 3 = .ok (.bipush 68, 2) := by decide +kernel
theorem dX10_image_5 : decode cX10_image 5 = .ok (.if_icmp .ge 21, 3) := by decide +kernel
theorem dX10_image_8 : decode cX10_image 8 = .ok (.aload_n 0, 1) := by decide +kernel
theorem dX10_image_9 : decode cX10_image 9 = .ok (.getfield 18, 3) := by decide +kernel
theorem dX10_image_12 : decode cX10_image 12 = .ok (.iload_n 1, 1) := by decide +kernel
theorem dX10_image_13 : decode cX10_image 13 = .ok (.aload_n 0, 1) := by decide +kernel
theorem dX10_image_14 : decode cX10_image 14 = .ok (.getfield 11, 3) := by decide +kernel
theorem dX10_image_17 : decode cX10_image 17 = .ok (.iload_n 1, 1) := by decide +kernel
theorem dX10_image_18 : decode cX10_image 18 = .ok (.laload, 1) := by decide +kernel
theorem dX10_image_19 : decode cX10_image 19 = .ok (.lastore, 1) := by decide +kernel
theorem dX10_image_20 : decode cX10_image 20 = .ok (.iinc 1 1, 3) := by decide +kernel
theorem dX10_image_23 : decode cX10_image 23 = .ok (.goto (-21), 3) := by decide +kernel
theorem dX10_image_26 : decode cX10_image 26 = .ok (.iconst 0, 1) := by decide +kernel
theorem dX10_image_27 : decode cX10_image 27 = .ok (.istore_n 1, 1) := by decide +kernel
theorem dX10_image_28 : decode cX10_image 28 = .ok (.iload_n 1, 1) := by decide +kernel
theorem dX10_image_29 : decode cX10_image 29 = .ok (.sipush 180, 3) := by decide +kernel
theorem dX10_image_32 : decode cX10_image 32 = .ok (.if_icmp .ge 21, 3) := by decide +kernel
theorem dX10_image_35 : decode cX10_image 35 = .ok (.aload_n 0, 1) := by decide +kernel
theorem dX10_image_36 : decode cX10_image 36 = .ok (.getfield 34, 3) := by decide +kernel
theorem dX10_image_39 : decode cX10_image 39 = .ok (.iload_n 1, 1) := by decide +kernel
theorem dX10_image_40 : decode cX10_image 40 = .ok (.aload_n 0, 1) := by decide +kernel
theorem dX10_image_41 : decode cX10_image 41 = .ok (.getfield 28, 3) := by decide +kernel
theorem dX10_image_44 : decode cX10_image 44 = .ok (.iload_n 1, 1) := by decide +kernel
theorem dX10_image_45 : decode cX10_image 45 = .ok (.iaload, 1) := by decide +kernel
theorem dX10_image_46 : decode cX10_image 46 = .ok (.iastore, 1) := by decide +kernel
theorem dX10_image_47 : decode cX10_image 47 = .ok (.iinc 1 1, 3) := by decide +kernel
theorem dX10_image_50 : decode cX10_image 50 = .ok (.goto (-22), 3) := by decide +kernel
theorem dX10_image_53 : decode cX10_image 53 = .ok (.iconst 0, 1) := by decide +kernel
theorem dX10_image_54 : decode cX10_image 54 = .ok (.istore_n 1, 1) := by decide +kernel
theorem dX10_image_55 : decode cX10_image 55 = .ok (.iload_n 1, 1) := by decide +kernel
theorem dX10_image_56 : decode cX10_image 56 = .ok (.iconst 3, 1) := by decide +kernel
theorem dX10_image_57 : decode cX10_image 57 = .ok (.if_icmp .ge 21, 3) := by decide +kernel
theorem dX10_image_60 : decode cX10_image 60 = .ok (.aload_n 0, 1) := by decide +kernel
theorem dX10_image_61 : decode cX10_image 61 = .ok (.getfield 37, 3) := by decide +kernel
theorem dX10_image_64 : decode cX10_image 64 = .ok (.iload_n 1, 1) := by decide +kernel
theorem dX10_image_65 : decode cX10_image 65 = .ok (.aload_n 0, 1) := by decide +kernel
theorem dX10_image_66 : decode cX10_image 66 = .ok (.getfield 31, 3) := by decide +kernel
theorem dX10_image_69 : decode cX10_image 69 = .ok (.iload_n 1, 1) := by decide +kernel
theorem dX10_image_70 : decode cX10_image 70 = .ok (.iaload, 1) := by decide +kernel
theorem dX10_image_71 : decode cX10_image 71 = .ok (.iastore, 1) := by decide +kernel
theorem dX10_image_72 : decode cX10_image 72 = .ok (.iinc 1 1, 3) := by decide +kernel
theorem dX10_image_75 : decode cX10_image 75 = .ok (.goto (-20), 3) := by decide +kernel
theorem dX10_image_78 : decode cX10_image 78 = .ok (.iconst 0, 1) := by decide +kernel
theorem dX10_image_79 : decode cX10_image 79 = .ok (.istore_n 1, 1) := by decide +kernel
theorem dX10_image_80 : decode cX10_image 80 = .ok (.iload_n 1, 1) := by decide +kernel
theorem dX10_image_81 : decode cX10_image 81 = .ok (.bipush 7, 2) := by decide +kernel
theorem dX10_image_83 : decode cX10_image 83 = .ok (.if_icmp .ge 21, 3) := by decide +kernel
theorem dX10_image_86 : decode cX10_image 86 = .ok (.aload_n 0, 1) := by decide +kernel
theorem dX10_image_87 : decode cX10_image 87 = .ok (.getfield 25, 3) := by decide +kernel
theorem dX10_image_90 : decode cX10_image 90 = .ok (.iload_n 1, 1) := by decide +kernel
theorem dX10_image_91 : decode cX10_image 91 = .ok (.aload_n 0, 1) := by decide +kernel
theorem dX10_image_92 : decode cX10_image 92 = .ok (.getfield 21, 3) := by decide +kernel
theorem dX10_image_95 : decode cX10_image 95 = .ok (.iload_n 1, 1) := by decide +kernel
theorem dX10_image_96 : decode cX10_image 96 = .ok (.iaload, 1) := by decide +kernel
theorem dX10_image_97 : decode cX10_image 97 = .ok (.iastore, 1) := by decide +kernel
theorem dX10_image_98 : decode cX10_image 98 = .ok (.iinc 1 1, 3) := by decide +kernel
theorem dX10_image_101 : decode cX10_image 101 = .ok (.goto (-21), 3) := by decide +kernel
theorem dX10_image_104 : decode cX10_image 104 = .ok (.aload_n 0, 1) := by decide +kernel
theorem dX10_image_105 : decode cX10_image 105 = .ok (.iconst 1, 1) := by decide +kernel
theorem dX10_image_106 : decode cX10_image 106 = .ok (.putfield 258, 3) := by decide +kernel
theorem dX10_image_109 : decode cX10_image 109 = .ok (.aload_n 0, 1) := by decide +kernel
theorem dX10_image_110 : decode cX10_image 110 = .ok (.invokevirtual 261, 3) := by decide +kernel
theorem dX10_image_113 : decode cX10_image 113 = .ok (.ireturn, 1) := by decide +kernel
theorem dX10_restore_0 : decode cX10_restore 0 = .ok (.aload_n 0, 1) := by decide +kernel
theorem dX10_restore_1 : decode cX10_restore 1 = .ok (.getfield 258, 3) := by decide +kernel
theorem dX10_restore_4 : decode cX10_restore 4 = .ok (.ifCond .ne 6, 3) := by decide +kernel
theorem dX10_restore_7 : decode cX10_restore 7 = .ok (.bipush (-5), 2) := by decide +kernel
theorem dX10_restore_9 : decode cX10_restore 9 = .ok (.ireturn, 1) := by decide +kernel
theorem dX10_restore_10 : decode cX10_restore 10 = .ok (.iconst 0, 1) := by decide +kernel
theorem dX10_restore_11 : decode cX10_restore 11 = .ok (.istore_n 1, 1) := by decide +kernel
theorem dX10_restore_12 : decode cX10_restore 12 = .ok (.iload_n 1, 1) := by decide +kernel
theorem dX10_restore_13 : decode cX10_restore 13 = .ok (.bipush 68, 2) := by decide +kernel
theorem dX10_restore_15 : decode cX10_restore 15 = .ok (.if_icmp .ge 21, 3) := by decide +kernel
theorem dX10_restore_18 : decode cX10_restore 18 = .ok (.aload_n 0, 1) := by decide +kernel
theorem dX10_restore_19 : decode cX10_restore 19 = .ok (.getfield 11, 3) := by decide +kernel
theorem dX10_restore_22 : decode cX10_restore 22 = .ok (.iload_n 1, 1) := by decide +kernel
theorem dX10_restore_23 : decode cX10_restore 23 = .ok (.aload_n 0, 1) := by decide +kernel
theorem dX10_restore_24 : decode cX10_restore 24 = .ok (.getfield 18, 3) := by decide +kernel
theorem dX10_restore_27 : decode cX10_restore 27 = .ok (.iload_n 1, 1) := by decide +kernel
theorem dX10_restore_28 : decode cX10_restore 28 = .ok (.laload, 1) := by decide +kernel
theorem dX10_restore_29 : decode cX10_restore 29 = .ok (.lastore, 1) := by decide +kernel
theorem dX10_restore_30 : decode cX10_restore 30 = .ok (.iinc 1 1, 3) := by decide +kernel
theorem dX10_restore_33 : decode cX10_restore 33 = .ok (.goto (-21), 3) := by decide +kernel
theorem dX10_restore_36 : decode cX10_restore 36 = .ok (.iconst 0, 1) := by decide +kernel
theorem dX10_restore_37 : decode cX10_restore 37 = .ok (.istore_n 1, 1) := by decide +kernel
theorem dX10_restore_38 : decode cX10_restore 38 = .ok (.iload_n 1, 1) := by decide +kernel
theorem dX10_restore_39 : decode cX10_restore 39 = .ok (.sipush 180, 3) := by decide +kernel
theorem dX10_restore_42 : decode cX10_restore 42 = .ok (.if_icmp .ge 21, 3) := by decide +kernel
theorem dX10_restore_45 : decode cX10_restore 45 = .ok (.aload_n 0, 1) := by decide +kernel
theorem dX10_restore_46 : decode cX10_restore 46 = .ok (.getfield 28, 3) := by decide +kernel
theorem dX10_restore_49 : decode cX10_restore 49 = .ok (.iload_n 1, 1) := by decide +kernel
theorem dX10_restore_50 : decode cX10_restore 50 = .ok (.aload_n 0, 1) := by decide +kernel
theorem dX10_restore_51 : decode cX10_restore 51 = .ok (.getfield 34, 3) := by decide +kernel
theorem dX10_restore_54 : decode cX10_restore 54 = .ok (.iload_n 1, 1) := by decide +kernel
theorem dX10_restore_55 : decode cX10_restore 55 = .ok (.iaload, 1) := by decide +kernel
theorem dX10_restore_56 : decode cX10_restore 56 = .ok (.iastore, 1) := by decide +kernel
theorem dX10_restore_57 : decode cX10_restore 57 = .ok (.iinc 1 1, 3) := by decide +kernel
theorem dX10_restore_60 : decode cX10_restore 60 = .ok (.goto (-22), 3) := by decide +kernel
theorem dX10_restore_63 : decode cX10_restore 63 = .ok (.iconst 0, 1) := by decide +kernel
theorem dX10_restore_64 : decode cX10_restore 64 = .ok (.istore_n 1, 1) := by decide +kernel
theorem dX10_restore_65 : decode cX10_restore 65 = .ok (.iload_n 1, 1) := by decide +kernel
theorem dX10_restore_66 : decode cX10_restore 66 = .ok (.iconst 3, 1) := by decide +kernel
theorem dX10_restore_67 : decode cX10_restore 67 = .ok (.if_icmp .ge 21, 3) := by decide +kernel
theorem dX10_restore_70 : decode cX10_restore 70 = .ok (.aload_n 0, 1) := by decide +kernel
theorem dX10_restore_71 : decode cX10_restore 71 = .ok (.getfield 31, 3) := by decide +kernel
theorem dX10_restore_74 : decode cX10_restore 74 = .ok (.iload_n 1, 1) := by decide +kernel
theorem dX10_restore_75 : decode cX10_restore 75 = .ok (.aload_n 0, 1) := by decide +kernel
theorem dX10_restore_76 : decode cX10_restore 76 = .ok (.getfield 37, 3) := by decide +kernel
theorem dX10_restore_79 : decode cX10_restore 79 = .ok (.iload_n 1, 1) := by decide +kernel
theorem dX10_restore_80 : decode cX10_restore 80 = .ok (.iaload, 1) := by decide +kernel
theorem dX10_restore_81 : decode cX10_restore 81 = .ok (.iastore, 1) := by decide +kernel
theorem dX10_restore_82 : decode cX10_restore 82 = .ok (.iinc 1 1, 3) := by decide +kernel
theorem dX10_restore_85 : decode cX10_restore 85 = .ok (.goto (-20), 3) := by decide +kernel
theorem dX10_restore_88 : decode cX10_restore 88 = .ok (.iconst 0, 1) := by decide +kernel
theorem dX10_restore_89 : decode cX10_restore 89 = .ok (.istore_n 1, 1) := by decide +kernel
theorem dX10_restore_90 : decode cX10_restore 90 = .ok (.iload_n 1, 1) := by decide +kernel
theorem dX10_restore_91 : decode cX10_restore 91 = .ok (.bipush 7, 2) := by decide +kernel
theorem dX10_restore_93 : decode cX10_restore 93 = .ok (.if_icmp .ge 21, 3) := by decide +kernel
theorem dX10_restore_96 : decode cX10_restore 96 = .ok (.aload_n 0, 1) := by decide +kernel
theorem dX10_restore_97 : decode cX10_restore 97 = .ok (.getfield 21, 3) := by decide +kernel
theorem dX10_restore_100 : decode cX10_restore 100 = .ok (.iload_n 1, 1) := by decide +kernel
theorem dX10_restore_101 : decode cX10_restore 101 = .ok (.aload_n 0, 1) := by decide +kernel
theorem dX10_restore_102 : decode cX10_restore 102 = .ok (.getfield 25, 3) := by decide +kernel
theorem dX10_restore_105 : decode cX10_restore 105 = .ok (.iload_n 1, 1) := by decide +kernel
theorem dX10_restore_106 : decode cX10_restore 106 = .ok (.iaload, 1) := by decide +kernel
theorem dX10_restore_107 : decode cX10_restore 107 = .ok (.iastore, 1) := by decide +kernel
theorem dX10_restore_108 : decode cX10_restore 108 = .ok (.iinc 1 1, 3) := by decide +kernel
theorem dX10_restore_111 : decode cX10_restore 111 = .ok (.goto (-21), 3) := by decide +kernel
theorem dX10_restore_114 : decode cX10_restore 114 = .ok (.aload_n 0, 1) := by decide +kernel
theorem dX10_restore_115 : decode cX10_restore 115 = .ok (.iconst 0, 1) := by decide +kernel
theorem dX10_restore_116 : decode cX10_restore 116 = .ok (.putfield 184, 3) := by decide +kernel
theorem dX10_restore_119 : decode cX10_restore 119 = .ok (.aload_n 0, 1) := by decide +kernel
theorem dX10_restore_120 : decode cX10_restore 120 = .ok (.invokevirtual 261, 3) := by decide +kernel
theorem dX10_restore_123 : decode cX10_restore 123 = .ok (.ireturn, 1) := by decide +kernel
theorem dX10_told_0 : decode cX10_told 0 = .ok (.iload_n 1, 1) := by decide +kernel
theorem dX10_told_1 : decode cX10_told 1 = .ok (.i2l, 1) := by decide +kernel
theorem dX10_told_2 : decode cX10_told 2 = .ok (.lconst 0, 1) := by decide +kernel
theorem dX10_told_3 : decode cX10_told 3 = .ok (.ldc2_w 169, 3) := by decide +kernel
theorem dX10_told_6 : decode cX10_told 6 = .ok (.invokestatic 120, 3) := by decide +kernel
theorem dX10_told_9 : decode cX10_told 9 = .ok (.ifCond .ne 5, 3) := by decide +kernel
theorem dX10_told_12 : decode cX10_told 12 = .ok (.iconst (-1), 1) := by decide +kernel
theorem dX10_told_13 : decode cX10_told 13 = .ok (.ireturn, 1) := by decide +kernel
theorem dX10_told_14 : decode cX10_told 14 = .ok (.iconst 0, 1) := by decide +kernel
theorem dX10_told_15 : decode cX10_told 15 = .ok (.istore_n 2, 1) := by decide +kernel
theorem dX10_told_16 : decode cX10_told 16 = .ok (.iconst 0, 1) := by decide +kernel
theorem dX10_told_17 : decode cX10_told 17 = .ok (.istore_n 3, 1) := by decide +kernel
theorem dX10_told_18 : decode cX10_told 18 = .ok (.iload_n 3, 1) := by decide +kernel
theorem dX10_told_19 : decode cX10_told 19 = .ok (.bipush 7, 2) := by decide +kernel
theorem dX10_told_21 : decode cX10_told 21 = .ok (.if_icmp .ge 18, 3) := by decide +kernel
theorem dX10_told_24 : decode cX10_told 24 = .ok (.iload_n 2, 1) := by decide +kernel
theorem dX10_told_25 : decode cX10_told 25 = .ok (.aload_n 0, 1) := by decide +kernel
theorem dX10_told_26 : decode cX10_told 26 = .ok (.getfield 21, 3) := by decide +kernel
theorem dX10_told_29 : decode cX10_told 29 = .ok (.iload_n 3, 1) := by decide +kernel
theorem dX10_told_30 : decode cX10_told 30 = .ok (.iaload, 1) := by decide +kernel
theorem dX10_told_31 : decode cX10_told 31 = .ok (.iadd, 1) := by decide +kernel
theorem dX10_told_32 : decode cX10_told 32 = .ok (.istore_n 2, 1) := by decide +kernel
theorem dX10_told_33 : decode cX10_told 33 = .ok (.iinc 3 1, 3) := by decide +kernel
theorem dX10_told_36 : decode cX10_told 36 = .ok (.goto (-18), 3) := by decide +kernel
theorem dX10_told_39 : decode cX10_told 39 = .ok (.iconst 0, 1) := by decide +kernel
theorem dX10_told_40 : decode cX10_told 40 = .ok (.istore_n 3, 1) := by decide +kernel
theorem dX10_told_41 : decode cX10_told 41 = .ok (.iconst 0, 1) := by decide +kernel
theorem dX10_told_42 : decode cX10_told 42 = .ok (.istore 4, 2) := by decide +kernel
theorem dX10_told_44 : decode cX10_told 44 = .ok (.iload 4, 2) := by decide +kernel
theorem dX10_told_46 : decode cX10_told 46 = .ok (.iconst 3, 1) := by decide +kernel
theorem dX10_told_47 : decode cX10_told 47 = .ok (.if_icmp .ge 57, 3) := by decide +kernel
theorem dX10_told_50 : decode cX10_told 50 = .ok (.iconst 0, 1) := by decide +kernel
theorem dX10_told_51 : decode cX10_told 51 = .ok (.istore 5, 2) := by decide +kernel
theorem dX10_told_53 : decode cX10_told 53 = .ok (.iload 5, 2) := by decide +kernel
theorem dX10_told_55 : decode cX10_told 55 = .ok (.aload_n 0, 1) := by decide +kernel
theorem dX10_told_56 : decode cX10_told 56 = .ok (.getfield 31, 3) := by decide +kernel
theorem dX10_told_59 : decode cX10_told 59 = .ok (.iload 4, 2) := by decide +kernel
theorem dX10_told_61 : decode cX10_told 61 = .ok (.iaload, 1) := by decide +kernel
theorem dX10_told_62 : decode cX10_told 62 = .ok (.if_icmp .ge 36, 3) := by decide +kernel
theorem dX10_told_65 : decode cX10_told 65 = .ok (.iload_n 3, 1) := by decide +kernel
theorem dX10_told_66 : decode cX10_told 66 = .ok (.aload_n 0, 1) := by decide +kernel
theorem dX10_told_67 : decode cX10_told 67 = .ok (.getfield 28, 3) := by decide +kernel
theorem dX10_told_70 : decode cX10_told 70 = .ok (.bipush 60, 2) := by decide +kernel
theorem dX10_told_72 : decode cX10_told 72 = .ok (.iload 4, 2) := by decide +kernel
theorem dX10_told_74 : decode cX10_told 74 = .ok (.imul, 1) := by decide +kernel
theorem dX10_told_75 : decode cX10_told 75 = .ok (.iload 5, 2) := by decide +kernel
theorem dX10_told_77 : decode cX10_told 77 = .ok (.iadd, 1) := by decide +kernel
theorem dX10_told_78 : decode cX10_told 78 = .ok (.iaload, 1) := by decide +kernel
theorem dX10_told_79 : decode cX10_told 79 = .ok (.iload_n 1, 1) := by decide +kernel
theorem dX10_told_80 : decode cX10_told 80 = .ok (.iconst 3, 1) := by decide +kernel
theorem dX10_told_81 : decode cX10_told 81 = .ok (.isub, 1) := by decide +kernel
theorem dX10_told_82 : decode cX10_told 82 = .ok (.if_icmp .ne 7, 3) := by decide +kernel
theorem dX10_told_85 : decode cX10_told 85 = .ok (.iconst 1, 1) := by decide +kernel
theorem dX10_told_86 : decode cX10_told 86 = .ok (.goto 4, 3) := by decide +kernel
theorem dX10_told_89 : decode cX10_told 89 = .ok (.iconst 0, 1) := by decide +kernel
theorem dX10_told_90 : decode cX10_told 90 = .ok (.iadd, 1) := by decide +kernel
theorem dX10_told_91 : decode cX10_told 91 = .ok (.istore_n 3, 1) := by decide +kernel
theorem dX10_told_92 : decode cX10_told 92 = .ok (.iinc 5 1, 3) := by decide +kernel
theorem dX10_told_95 : decode cX10_told 95 = .ok (.goto (-42), 3) := by decide +kernel
theorem dX10_told_98 : decode cX10_told 98 = .ok (.iinc 4 1, 3) := by decide +kernel
theorem dX10_told_101 : decode cX10_told 101 = .ok (.goto (-57), 3) := by decide +kernel
theorem dX10_told_104 : decode cX10_told 104 = .ok (.iload_n 1, 1) := by decide +kernel
theorem dX10_told_105 : decode cX10_told 105 = .ok (.ifCond .ne 10, 3) := by decide +kernel
theorem dX10_told_108 : decode cX10_told 108 = .ok (.aload_n 0, 1) := by decide +kernel
theorem dX10_told_109 : decode cX10_told 109 = .ok (.getfield 184, 3) := by decide +kernel
theorem dX10_told_112 : decode cX10_told 112 = .ok (.goto 25, 3) := by decide +kernel
theorem dX10_told_115 : decode cX10_told 115 = .ok (.iload_n 1, 1) := by decide +kernel
theorem dX10_told_116 : decode cX10_told 116 = .ok (.iconst 1, 1) := by decide +kernel
theorem dX10_told_117 : decode cX10_told 117 = .ok (.if_icmp .ne 10, 3) := by decide +kernel
theorem dX10_told_120 : decode cX10_told 120 = .ok (.aload_n 0, 1) := by decide +kernel
theorem dX10_told_121 : decode cX10_told 121 = .ok (.getfield 218, 3) := by decide +kernel
theorem dX10_told_124 : decode cX10_told 124 = .ok (.goto 13, 3) := by decide +kernel
theorem dX10_told_127 : decode cX10_told 127 = .ok (.iload_n 1, 1) := by decide +kernel
theorem dX10_told_128 : decode cX10_told 128 = .ok (.iconst 2, 1) := by decide +kernel
theorem dX10_told_129 : decode cX10_told 129 = .ok (.if_icmp .ne 7, 3) := by decide +kernel
theorem dX10_told_132 : decode cX10_told 132 = .ok (.iload_n 2, 1) := by decide +kernel
theorem dX10_told_133 : decode cX10_told 133 = .ok (.goto 4, 3) := by decide +kernel
theorem dX10_told_136 : decode cX10_told 136 = .ok (.iload_n 3, 1) := by decide +kernel
theorem dX10_told_137 : decode cX10_told 137 = .ok (.ireturn, 1) := by decide +kernel
theorem dL_law_0 : decode cL_law 0 = .ok (.new 7, 3) := by decide +kernel
theorem dL_law_3 : decode cL_law 3 = .ok (.dup, 1) := by decide +kernel
theorem dL_law_4 : decode cL_law 4 = .ok (.invokespecial 9, 3) := by decide +kernel
theorem dL_law_7 : decode cL_law 7 = .ok (.astore_n 1, 1) := by decide +kernel
theorem dL_law_8 : decode cL_law 8 = .ok (.new 10, 3) := by decide +kernel
theorem dL_law_11 : decode cL_law 11 = .ok (.dup, 1) := by decide +kernel
theorem dL_law_12 : decode cL_law 12 = .ok (.invokespecial 12, 3) := by decide +kernel
theorem dL_law_15 : decode cL_law 15 = .ok (.astore_n 2, 1) := by decide +kernel
theorem dL_law_16 : decode cL_law 16 = .ok (.iconst 0, 1) := by decide +kernel
theorem dL_law_17 : decode cL_law 17 = .ok (.istore_n 3, 1) := by decide +kernel
theorem dL_law_18 : decode cL_law 18 = .ok (.iload_n 3, 1) := by decide +kernel
theorem dL_law_19 : decode cL_law 19 = .ok (.aload_n 0, 1) := by decide +kernel
theorem dL_law_20 : decode cL_law 20 = .ok (.arraylength, 1) := by decide +kernel
theorem dL_law_21 : decode cL_law 21 = .ok (.iconst 5, 1) := by decide +kernel
theorem dL_law_22 : decode cL_law 22 = .ok (.isub, 1) := by decide +kernel
theorem dL_law_23 : decode cL_law 23 = .ok (.if_icmp .gt 1023, 3) := by decide +kernel
theorem dL_law_26 : decode cL_law 26 = .ok (.aload_n 0, 1) := by decide +kernel
theorem dL_law_27 : decode cL_law 27 = .ok (.iload_n 3, 1) := by decide +kernel
theorem dL_law_28 : decode cL_law 28 = .ok (.iaload, 1) := by decide +kernel
theorem dL_law_29 : decode cL_law 29 = .ok (.bipush 31, 2) := by decide +kernel
theorem dL_law_31 : decode cL_law 31 = .ok (.iand, 1) := by decide +kernel
theorem dL_law_32 : decode cL_law 32 = .ok (.tableswitch 1008 0 29 #[136, 159, 192, 225, 268, 291, 345, 368, 401, 455, 478, 501, 534, 567, 600, 633, 666, 689, 722, 755, 778, 811, 854, 887, 900, 923, 936, 959, 972, 985], 136) := by decide +kernel
theorem dL_law_168 : decode cL_law 168 = .ok (.aload_n 1, 1) := by decide +kernel
theorem dL_law_169 : decode cL_law 169 = .ok (.aload_n 0, 1) := by decide +kernel
theorem dL_law_170 : decode cL_law 170 = .ok (.iload_n 3, 1) := by decide +kernel
theorem dL_law_171 : decode cL_law 171 = .ok (.iconst 1, 1) := by decide +kernel
theorem dL_law_172 : decode cL_law 172 = .ok (.iadd, 1) := by decide +kernel
theorem dL_law_173 : decode cL_law 173 = .ok (.iaload, 1) := by decide +kernel
theorem dL_law_174 : decode cL_law 174 = .ok (.invokevirtual 13, 3) := by decide +kernel
theorem dL_law_177 : decode cL_law 177 = .ok (.aload_n 2, 1) := by decide +kernel
theorem dL_law_178 : decode cL_law 178 = .ok (.aload_n 0, 1) := by decide +kernel
theorem dL_law_179 : decode cL_law 179 = .ok (.iload_n 3, 1) := by decide +kernel
theorem dL_law_180 : decode cL_law 180 = .ok (.iconst 1, 1) := by decide +kernel
theorem dL_law_181 : decode cL_law 181 = .ok (.iadd, 1) := by decide +kernel
theorem dL_law_182 : decode cL_law 182 = .ok (.iaload, 1) := by decide +kernel
theorem dL_law_183 : decode cL_law 183 = .ok (.invokevirtual 17, 3) := by decide +kernel
theorem dL_law_186 : decode cL_law 186 = .ok (.if_icmp .eq 854, 3) := by decide +kernel
theorem dL_law_189 : decode cL_law 189 = .ok (.iconst 0, 1) := by decide +kernel
theorem dL_law_190 : decode cL_law 190 = .ok (.ireturn, 1) := by decide +kernel
theorem dL_law_191 : decode cL_law 191 = .ok (.aload_n 1, 1) := by decide +kernel
theorem dL_law_192 : decode cL_law 192 = .ok (.aload_n 0, 1) := by decide +kernel
theorem dL_law_193 : decode cL_law 193 = .ok (.iload_n 3, 1) := by decide +kernel
theorem dL_law_194 : decode cL_law 194 = .ok (.iconst 1, 1) := by decide +kernel
theorem dL_law_195 : decode cL_law 195 = .ok (.iadd, 1) := by decide +kernel
theorem dL_law_196 : decode cL_law 196 = .ok (.iaload, 1) := by decide +kernel
theorem dL_law_197 : decode cL_law 197 = .ok (.aload_n 0, 1) := by decide +kernel
theorem dL_law_198 : decode cL_law 198 = .ok (.iload_n 3, 1) := by decide +kernel
theorem dL_law_199 : decode cL_law 199 = .ok (.iconst 2, 1) := by decide +kernel
theorem dL_law_200 : decode cL_law 200 = .ok (.iadd, 1) := by decide +kernel
theorem dL_law_201 : decode cL_law 201 = .ok (.iaload, 1) := by decide +kernel
theorem dL_law_202 : decode cL_law 202 = .ok (.invokevirtual 18, 3) := by decide +kernel
theorem dL_law_205 : decode cL_law 205 = .ok (.aload_n 2, 1) := by decide +kernel
theorem dL_law_206 : decode cL_law 206 = .ok (.aload_n 0, 1) := by decide +kernel
theorem dL_law_207 : decode cL_law 207 = .ok (.iload_n 3, 1) := by decide +kernel
theorem dL_law_208 : decode cL_law 208 = .ok (.iconst 1, 1) := by decide +kernel
theorem dL_law_209 : decode cL_law 209 = .ok (.iadd, 1) := by decide +kernel
theorem dL_law_210 : decode cL_law 210 = .ok (.iaload, 1) := by decide +kernel
theorem dL_law_211 : decode cL_law 211 = .ok (.aload_n 0, 1) := by decide +kernel
theorem dL_law_212 : decode cL_law 212 = .ok (.iload_n 3, 1) := by decide +kernel
theorem dL_law_213 : decode cL_law 213 = .ok (.iconst 2, 1) := by decide +kernel
theorem dL_law_214 : decode cL_law 214 = .ok (.iadd, 1) := by decide +kernel
theorem dL_law_215 : decode cL_law 215 = .ok (.iaload, 1) := by decide +kernel
theorem dL_law_216 : decode cL_law 216 = .ok (.invokevirtual 22, 3) := by decide +kernel
theorem dL_law_219 : decode cL_law 219 = .ok (.if_icmp .eq 821, 3) := by decide +kernel
theorem dL_law_222 : decode cL_law 222 = .ok (.iconst 0, 1) := by decide +kernel
theorem dL_law_223 : decode cL_law 223 = .ok (.ireturn, 1) := by decide +kernel
theorem dL_law_224 : decode cL_law 224 = .ok (.aload_n 1, 1) := by decide +kernel
theorem dL_law_225 : decode cL_law 225 = .ok (.aload_n 0, 1) := by decide +kernel
theorem dL_law_226 : decode cL_law 226 = .ok (.iload_n 3, 1) := by decide +kernel
theorem dL_law_227 : decode cL_law 227 = .ok (.iconst 1, 1) := by decide +kernel
theorem dL_law_228 : decode cL_law 228 = .ok (.iadd, 1) := by decide +kernel
theorem dL_law_229 : decode cL_law 229 = .ok (.iaload, 1) := by decide +kernel
theorem dL_law_230 : decode cL_law 230 = .ok (.aload_n 0, 1) := by decide +kernel
theorem dL_law_231 : decode cL_law 231 = .ok (.iload_n 3, 1) := by decide +kernel
theorem dL_law_232 : decode cL_law 232 = .ok (.iconst 2, 1) := by decide +kernel
theorem dL_law_233 : decode cL_law 233 = .ok (.iadd, 1) := by decide +kernel
theorem dL_law_234 : decode cL_law 234 = .ok (.iaload, 1) := by decide +kernel
theorem dL_law_235 : decode cL_law 235 = .ok (.invokevirtual 23, 3) := by decide +kernel
theorem dL_law_238 : decode cL_law 238 = .ok (.aload_n 2, 1) := by decide +kernel
theorem dL_law_239 : decode cL_law 239 = .ok (.aload_n 0, 1) := by decide +kernel
theorem dL_law_240 : decode cL_law 240 = .ok (.iload_n 3, 1) := by decide +kernel
theorem dL_law_241 : decode cL_law 241 = .ok (.iconst 1, 1) := by decide +kernel
theorem dL_law_242 : decode cL_law 242 = .ok (.iadd, 1) := by decide +kernel
theorem dL_law_243 : decode cL_law 243 = .ok (.iaload, 1) := by decide +kernel
theorem dL_law_244 : decode cL_law 244 = .ok (.aload_n 0, 1) := by decide +kernel
theorem dL_law_245 : decode cL_law 245 = .ok (.iload_n 3, 1) := by decide +kernel
theorem dL_law_246 : decode cL_law 246 = .ok (.iconst 2, 1) := by decide +kernel
theorem dL_law_247 : decode cL_law 247 = .ok (.iadd, 1) := by decide +kernel
theorem dL_law_248 : decode cL_law 248 = .ok (.iaload, 1) := by decide +kernel
theorem dL_law_249 : decode cL_law 249 = .ok (.invokevirtual 26, 3) := by decide +kernel
theorem dL_law_252 : decode cL_law 252 = .ok (.if_icmp .eq 788, 3) := by decide +kernel
theorem dL_law_255 : decode cL_law 255 = .ok (.iconst 0, 1) := by decide +kernel
theorem dL_law_256 : decode cL_law 256 = .ok (.ireturn, 1) := by decide +kernel
theorem dL_law_257 : decode cL_law 257 = .ok (.aload_n 1, 1) := by decide +kernel
theorem dL_law_258 : decode cL_law 258 = .ok (.aload_n 0, 1) := by decide +kernel
theorem dL_law_259 : decode cL_law 259 = .ok (.iload_n 3, 1) := by decide +kernel
theorem dL_law_260 : decode cL_law 260 = .ok (.iconst 1, 1) := by decide +kernel
theorem dL_law_261 : decode cL_law 261 = .ok (.iadd, 1) := by decide +kernel
theorem dL_law_262 : decode cL_law 262 = .ok (.iaload, 1) := by decide +kernel
theorem dL_law_263 : decode cL_law 263 = .ok (.aload_n 0, 1) := by decide +kernel
theorem dL_law_264 : decode cL_law 264 = .ok (.iload_n 3, 1) := by decide +kernel
theorem dL_law_265 : decode cL_law 265 = .ok (.iconst 2, 1) := by decide +kernel
theorem dL_law_266 : decode cL_law 266 = .ok (.iadd, 1) := by decide +kernel
theorem dL_law_267 : decode cL_law 267 = .ok (.iaload, 1) := by decide +kernel
theorem dL_law_268 : decode cL_law 268 = .ok (.aload_n 0, 1) := by decide +kernel
theorem dL_law_269 : decode cL_law 269 = .ok (.iload_n 3, 1) := by decide +kernel
theorem dL_law_270 : decode cL_law 270 = .ok (.iconst 3, 1) := by decide +kernel
theorem dL_law_271 : decode cL_law 271 = .ok (.iadd, 1) := by decide +kernel
theorem dL_law_272 : decode cL_law 272 = .ok (.iaload, 1) := by decide +kernel
theorem dL_law_273 : decode cL_law 273 = .ok (.invokevirtual 27, 3) := by decide +kernel
theorem dL_law_276 : decode cL_law 276 = .ok (.aload_n 2, 1) := by decide +kernel
theorem dL_law_277 : decode cL_law 277 = .ok (.aload_n 0, 1) := by decide +kernel
theorem dL_law_278 : decode cL_law 278 = .ok (.iload_n 3, 1) := by decide +kernel
theorem dL_law_279 : decode cL_law 279 = .ok (.iconst 1, 1) := by decide +kernel
theorem dL_law_280 : decode cL_law 280 = .ok (.iadd, 1) := by decide +kernel
theorem dL_law_281 : decode cL_law 281 = .ok (.iaload, 1) := by decide +kernel
theorem dL_law_282 : decode cL_law 282 = .ok (.aload_n 0, 1) := by decide +kernel
theorem dL_law_283 : decode cL_law 283 = .ok (.iload_n 3, 1) := by decide +kernel
theorem dL_law_284 : decode cL_law 284 = .ok (.iconst 2, 1) := by decide +kernel
theorem dL_law_285 : decode cL_law 285 = .ok (.iadd, 1) := by decide +kernel
theorem dL_law_286 : decode cL_law 286 = .ok (.iaload, 1) := by decide +kernel
theorem dL_law_287 : decode cL_law 287 = .ok (.aload_n 0, 1) := by decide +kernel
theorem dL_law_288 : decode cL_law 288 = .ok (.iload_n 3, 1) := by decide +kernel
theorem dL_law_289 : decode cL_law 289 = .ok (.iconst 3, 1) := by decide +kernel
theorem dL_law_290 : decode cL_law 290 = .ok (.iadd, 1) := by decide +kernel
theorem dL_law_291 : decode cL_law 291 = .ok (.iaload, 1) := by decide +kernel
theorem dL_law_292 : decode cL_law 292 = .ok (.invokevirtual 31, 3) := by decide +kernel
theorem dL_law_295 : decode cL_law 295 = .ok (.if_icmp .eq 745, 3) := by decide +kernel
theorem dL_law_298 : decode cL_law 298 = .ok (.iconst 0, 1) := by decide +kernel
theorem dL_law_299 : decode cL_law 299 = .ok (.ireturn, 1) := by decide +kernel
theorem dL_law_300 : decode cL_law 300 = .ok (.aload_n 1, 1) := by decide +kernel
theorem dL_law_301 : decode cL_law 301 = .ok (.aload_n 0, 1) := by decide +kernel
theorem dL_law_302 : decode cL_law 302 = .ok (.iload_n 3, 1) := by decide +kernel
theorem dL_law_303 : decode cL_law 303 = .ok (.iconst 1, 1) := by decide +kernel
theorem dL_law_304 : decode cL_law 304 = .ok (.iadd, 1) := by decide +kernel
theorem dL_law_305 : decode cL_law 305 = .ok (.iaload, 1) := by decide +kernel
theorem dL_law_306 : decode cL_law 306 = .ok (.invokevirtual 32, 3) := by decide +kernel
theorem dL_law_309 : decode cL_law 309 = .ok (.aload_n 2, 1) := by decide +kernel
theorem dL_law_310 : decode cL_law 310 = .ok (.aload_n 0, 1) := by decide +kernel
theorem dL_law_311 : decode cL_law 311 = .ok (.iload_n 3, 1) := by decide +kernel
theorem dL_law_312 : decode cL_law 312 = .ok (.iconst 1, 1) := by decide +kernel
theorem dL_law_313 : decode cL_law 313 = .ok (.iadd, 1) := by decide +kernel
theorem dL_law_314 : decode cL_law 314 = .ok (.iaload, 1) := by decide +kernel
theorem dL_law_315 : decode cL_law 315 = .ok (.invokevirtual 35, 3) := by decide +kernel
theorem dL_law_318 : decode cL_law 318 = .ok (.if_icmp .eq 722, 3) := by decide +kernel
theorem dL_law_321 : decode cL_law 321 = .ok (.iconst 0, 1) := by decide +kernel
theorem dL_law_322 : decode cL_law 322 = .ok (.ireturn, 1) := by decide +kernel
theorem dL_law_323 : decode cL_law 323 = .ok (.aload_n 1, 1) := by decide +kernel
theorem dL_law_324 : decode cL_law 324 = .ok (.aload_n 0, 1) := by decide +kernel
theorem dL_law_325 : decode cL_law 325 = .ok (.iload_n 3, 1) := by decide +kernel
theorem dL_law_326 : decode cL_law 326 = .ok (.iconst 1, 1) := by decide +kernel
theorem dL_law_327 : decode cL_law 327 = .ok (.iadd, 1) := by decide +kernel
theorem dL_law_328 : decode cL_law 328 = .ok (.iaload, 1) := by decide +kernel
theorem dL_law_329 : decode cL_law 329 = .ok (.aload_n 0, 1) := by decide +kernel
theorem dL_law_330 : decode cL_law 330 = .ok (.iload_n 3, 1) := by decide +kernel
theorem dL_law_331 : decode cL_law 331 = .ok (.iconst 2, 1) := by decide +kernel
theorem dL_law_332 : decode cL_law 332 = .ok (.iadd, 1) := by decide +kernel
theorem dL_law_333 : decode cL_law 333 = .ok (.iaload, 1) := by decide +kernel
theorem dL_law_334 : decode cL_law 334 = .ok (.aload_n 0, 1) := by decide +kernel
theorem dL_law_335 : decode cL_law 335 = .ok (.iload_n 3, 1) := by decide +kernel
theorem dL_law_336 : decode cL_law 336 = .ok (.iconst 3, 1) := by decide +kernel
theorem dL_law_337 : decode cL_law 337 = .ok (.iadd, 1) := by decide +kernel
theorem dL_law_338 : decode cL_law 338 = .ok (.iaload, 1) := by decide +kernel
theorem dL_law_339 : decode cL_law 339 = .ok (.aload_n 0, 1) := by decide +kernel
theorem dL_law_340 : decode cL_law 340 = .ok (.iload_n 3, 1) := by decide +kernel
theorem dL_law_341 : decode cL_law 341 = .ok (.iconst 4, 1) := by decide +kernel
theorem dL_law_342 : decode cL_law 342 = .ok (.iadd, 1) := by decide +kernel
theorem dL_law_343 : decode cL_law 343 = .ok (.iaload, 1) := by decide +kernel
theorem dL_law_344 : decode cL_law 344 = .ok (.invokevirtual 36, 3) := by decide +kernel
theorem dL_law_347 : decode cL_law 347 = .ok (.aload_n 2, 1) := by decide +kernel
theorem dL_law_348 : decode cL_law 348 = .ok (.aload_n 0, 1) := by decide +kernel
theorem dL_law_349 : decode cL_law 349 = .ok (.iload_n 3, 1) := by decide +kernel
theorem dL_law_350 : decode cL_law 350 = .ok (.iconst 1, 1) := by decide +kernel
theorem dL_law_351 : decode cL_law 351 = .ok (.iadd, 1) := by decide +kernel
theorem dL_law_352 : decode cL_law 352 = .ok (.iaload, 1) := by decide +kernel
theorem dL_law_353 : decode cL_law 353 = .ok (.aload_n 0, 1) := by decide +kernel
theorem dL_law_354 : decode cL_law 354 = .ok (.iload_n 3, 1) := by decide +kernel
theorem dL_law_355 : decode cL_law 355 = .ok (.iconst 2, 1) := by decide +kernel
theorem dL_law_356 : decode cL_law 356 = .ok (.iadd, 1) := by decide +kernel
theorem dL_law_357 : decode cL_law 357 = .ok (.iaload, 1) := by decide +kernel
theorem dL_law_358 : decode cL_law 358 = .ok (.aload_n 0, 1) := by decide +kernel
theorem dL_law_359 : decode cL_law 359 = .ok (.iload_n 3, 1) := by decide +kernel
theorem dL_law_360 : decode cL_law 360 = .ok (.iconst 3, 1) := by decide +kernel
theorem dL_law_361 : decode cL_law 361 = .ok (.iadd, 1) := by decide +kernel
theorem dL_law_362 : decode cL_law 362 = .ok (.iaload, 1) := by decide +kernel
theorem dL_law_363 : decode cL_law 363 = .ok (.aload_n 0, 1) := by decide +kernel
theorem dL_law_364 : decode cL_law 364 = .ok (.iload_n 3, 1) := by decide +kernel
theorem dL_law_365 : decode cL_law 365 = .ok (.iconst 4, 1) := by decide +kernel
theorem dL_law_366 : decode cL_law 366 = .ok (.iadd, 1) := by decide +kernel
theorem dL_law_367 : decode cL_law 367 = .ok (.iaload, 1) := by decide +kernel
theorem dL_law_368 : decode cL_law 368 = .ok (.invokevirtual 40, 3) := by decide +kernel
theorem dL_law_371 : decode cL_law 371 = .ok (.lcmp, 1) := by decide +kernel
theorem dL_law_372 : decode cL_law 372 = .ok (.ifCond .eq 668, 3) := by decide +kernel
theorem dL_law_375 : decode cL_law 375 = .ok (.iconst 0, 1) := by decide +kernel
theorem dL_law_376 : decode cL_law 376 = .ok (.ireturn, 1) := by decide +kernel
theorem dL_law_377 : decode cL_law 377 = .ok (.aload_n 1, 1) := by decide +kernel
theorem dL_law_378 : decode cL_law 378 = .ok (.aload_n 0, 1) := by decide +kernel
theorem dL_law_379 : decode cL_law 379 = .ok (.iload_n 3, 1) := by decide +kernel
theorem dL_law_380 : decode cL_law 380 = .ok (.iconst 1, 1) := by decide +kernel
theorem dL_law_381 : decode cL_law 381 = .ok (.iadd, 1) := by decide +kernel
theorem dL_law_382 : decode cL_law 382 = .ok (.iaload, 1) := by decide +kernel
theorem dL_law_383 : decode cL_law 383 = .ok (.invokevirtual 41, 3) := by decide +kernel
theorem dL_law_386 : decode cL_law 386 = .ok (.aload_n 2, 1) := by decide +kernel
theorem dL_law_387 : decode cL_law 387 = .ok (.aload_n 0, 1) := by decide +kernel
theorem dL_law_388 : decode cL_law 388 = .ok (.iload_n 3, 1) := by decide +kernel
theorem dL_law_389 : decode cL_law 389 = .ok (.iconst 1, 1) := by decide +kernel
theorem dL_law_390 : decode cL_law 390 = .ok (.iadd, 1) := by decide +kernel
theorem dL_law_391 : decode cL_law 391 = .ok (.iaload, 1) := by decide +kernel
theorem dL_law_392 : decode cL_law 392 = .ok (.invokevirtual 44, 3) := by decide +kernel
theorem dL_law_395 : decode cL_law 395 = .ok (.if_icmp .eq 645, 3) := by decide +kernel
theorem dL_law_398 : decode cL_law 398 = .ok (.iconst 0, 1) := by decide +kernel
theorem dL_law_399 : decode cL_law 399 = .ok (.ireturn, 1) := by decide +kernel
theorem dL_law_400 : decode cL_law 400 = .ok (.aload_n 1, 1) := by decide +kernel
theorem dL_law_401 : decode cL_law 401 = .ok (.aload_n 0, 1) := by decide +kernel
theorem dL_law_402 : decode cL_law 402 = .ok (.iload_n 3, 1) := by decide +kernel
theorem dL_law_403 : decode cL_law 403 = .ok (.iconst 1, 1) := by decide +kernel
theorem dL_law_404 : decode cL_law 404 = .ok (.iadd, 1) := by decide +kernel
theorem dL_law_405 : decode cL_law 405 = .ok (.iaload, 1) := by decide +kernel
theorem dL_law_406 : decode cL_law 406 = .ok (.aload_n 0, 1) := by decide +kernel
theorem dL_law_407 : decode cL_law 407 = .ok (.iload_n 3, 1) := by decide +kernel
theorem dL_law_408 : decode cL_law 408 = .ok (.iconst 2, 1) := by decide +kernel
theorem dL_law_409 : decode cL_law 409 = .ok (.iadd, 1) := by decide +kernel
theorem dL_law_410 : decode cL_law 410 = .ok (.iaload, 1) := by decide +kernel
theorem dL_law_411 : decode cL_law 411 = .ok (.invokevirtual 45, 3) := by decide +kernel
theorem dL_law_414 : decode cL_law 414 = .ok (.aload_n 2, 1) := by decide +kernel
theorem dL_law_415 : decode cL_law 415 = .ok (.aload_n 0, 1) := by decide +kernel
theorem dL_law_416 : decode cL_law 416 = .ok (.iload_n 3, 1) := by decide +kernel
theorem dL_law_417 : decode cL_law 417 = .ok (.iconst 1, 1) := by decide +kernel
theorem dL_law_418 : decode cL_law 418 = .ok (.iadd, 1) := by decide +kernel
theorem dL_law_419 : decode cL_law 419 = .ok (.iaload, 1) := by decide +kernel
theorem dL_law_420 : decode cL_law 420 = .ok (.aload_n 0, 1) := by decide +kernel
theorem dL_law_421 : decode cL_law 421 = .ok (.iload_n 3, 1) := by decide +kernel
theorem dL_law_422 : decode cL_law 422 = .ok (.iconst 2, 1) := by decide +kernel
theorem dL_law_423 : decode cL_law 423 = .ok (.iadd, 1) := by decide +kernel
theorem dL_law_424 : decode cL_law 424 = .ok (.iaload, 1) := by decide +kernel
theorem dL_law_425 : decode cL_law 425 = .ok (.invokevirtual 48, 3) := by decide +kernel
theorem dL_law_428 : decode cL_law 428 = .ok (.if_icmp .eq 612, 3) := by decide +kernel
theorem dL_law_431 : decode cL_law 431 = .ok (.iconst 0, 1) := by decide +kernel
theorem dL_law_432 : decode cL_law 432 = .ok (.ireturn, 1) := by decide +kernel
theorem dL_law_433 : decode cL_law 433 = .ok (.aload_n 1, 1) := by decide +kernel
theorem dL_law_434 : decode cL_law 434 = .ok (.aload_n 0, 1) := by decide +kernel
theorem dL_law_435 : decode cL_law 435 = .ok (.iload_n 3, 1) := by decide +kernel
theorem dL_law_436 : decode cL_law 436 = .ok (.iconst 1, 1) := by decide +kernel
theorem dL_law_437 : decode cL_law 437 = .ok (.iadd, 1) := by decide +kernel
theorem dL_law_438 : decode cL_law 438 = .ok (.iaload, 1) := by decide +kernel
theorem dL_law_439 : decode cL_law 439 = .ok (.aload_n 0, 1) := by decide +kernel
theorem dL_law_440 : decode cL_law 440 = .ok (.iload_n 3, 1) := by decide +kernel
theorem dL_law_441 : decode cL_law 441 = .ok (.iconst 2, 1) := by decide +kernel
theorem dL_law_442 : decode cL_law 442 = .ok (.iadd, 1) := by decide +kernel
theorem dL_law_443 : decode cL_law 443 = .ok (.iaload, 1) := by decide +kernel
theorem dL_law_444 : decode cL_law 444 = .ok (.aload_n 0, 1) := by decide +kernel
theorem dL_law_445 : decode cL_law 445 = .ok (.iload_n 3, 1) := by decide +kernel
theorem dL_law_446 : decode cL_law 446 = .ok (.iconst 3, 1) := by decide +kernel
theorem dL_law_447 : decode cL_law 447 = .ok (.iadd, 1) := by decide +kernel
theorem dL_law_448 : decode cL_law 448 = .ok (.iaload, 1) := by decide +kernel
theorem dL_law_449 : decode cL_law 449 = .ok (.aload_n 0, 1) := by decide +kernel
theorem dL_law_450 : decode cL_law 450 = .ok (.iload_n 3, 1) := by decide +kernel
theorem dL_law_451 : decode cL_law 451 = .ok (.iconst 4, 1) := by decide +kernel
theorem dL_law_452 : decode cL_law 452 = .ok (.iadd, 1) := by decide +kernel
theorem dL_law_453 : decode cL_law 453 = .ok (.iaload, 1) := by decide +kernel
theorem dL_law_454 : decode cL_law 454 = .ok (.invokevirtual 49, 3) := by decide +kernel
theorem dL_law_457 : decode cL_law 457 = .ok (.aload_n 2, 1) := by decide +kernel
theorem dL_law_458 : decode cL_law 458 = .ok (.aload_n 0, 1) := by decide +kernel
theorem dL_law_459 : decode cL_law 459 = .ok (.iload_n 3, 1) := by decide +kernel
theorem dL_law_460 : decode cL_law 460 = .ok (.iconst 1, 1) := by decide +kernel
theorem dL_law_461 : decode cL_law 461 = .ok (.iadd, 1) := by decide +kernel
theorem dL_law_462 : decode cL_law 462 = .ok (.iaload, 1) := by decide +kernel
theorem dL_law_463 : decode cL_law 463 = .ok (.aload_n 0, 1) := by decide +kernel
theorem dL_law_464 : decode cL_law 464 = .ok (.iload_n 3, 1) := by decide +kernel
theorem dL_law_465 : decode cL_law 465 = .ok (.iconst 2, 1) := by decide +kernel
theorem dL_law_466 : decode cL_law 466 = .ok (.iadd, 1) := by decide +kernel
theorem dL_law_467 : decode cL_law 467 = .ok (.iaload, 1) := by decide +kernel
theorem dL_law_468 : decode cL_law 468 = .ok (.aload_n 0, 1) := by decide +kernel
theorem dL_law_469 : decode cL_law 469 = .ok (.iload_n 3, 1) := by decide +kernel
theorem dL_law_470 : decode cL_law 470 = .ok (.iconst 3, 1) := by decide +kernel
theorem dL_law_471 : decode cL_law 471 = .ok (.iadd, 1) := by decide +kernel
theorem dL_law_472 : decode cL_law 472 = .ok (.iaload, 1) := by decide +kernel
theorem dL_law_473 : decode cL_law 473 = .ok (.aload_n 0, 1) := by decide +kernel
theorem dL_law_474 : decode cL_law 474 = .ok (.iload_n 3, 1) := by decide +kernel
theorem dL_law_475 : decode cL_law 475 = .ok (.iconst 4, 1) := by decide +kernel
theorem dL_law_476 : decode cL_law 476 = .ok (.iadd, 1) := by decide +kernel
theorem dL_law_477 : decode cL_law 477 = .ok (.iaload, 1) := by decide +kernel
theorem dL_law_478 : decode cL_law 478 = .ok (.invokevirtual 52, 3) := by decide +kernel
theorem dL_law_481 : decode cL_law 481 = .ok (.lcmp, 1) := by decide +kernel
theorem dL_law_482 : decode cL_law 482 = .ok (.ifCond .eq 558, 3) := by decide +kernel
theorem dL_law_485 : decode cL_law 485 = .ok (.iconst 0, 1) := by decide +kernel
theorem dL_law_486 : decode cL_law 486 = .ok (.ireturn, 1) := by decide +kernel
theorem dL_law_487 : decode cL_law 487 = .ok (.aload_n 1, 1) := by decide +kernel
theorem dL_law_488 : decode cL_law 488 = .ok (.aload_n 0, 1) := by decide +kernel
theorem dL_law_489 : decode cL_law 489 = .ok (.iload_n 3, 1) := by decide +kernel
theorem dL_law_490 : decode cL_law 490 = .ok (.iconst 1, 1) := by decide +kernel
theorem dL_law_491 : decode cL_law 491 = .ok (.iadd, 1) := by decide +kernel
theorem dL_law_492 : decode cL_law 492 = .ok (.iaload, 1) := by decide +kernel
theorem dL_law_493 : decode cL_law 493 = .ok (.invokevirtual 53, 3) := by decide +kernel
theorem dL_law_496 : decode cL_law 496 = .ok (.aload_n 2, 1) := by decide +kernel
theorem dL_law_497 : decode cL_law 497 = .ok (.aload_n 0, 1) := by decide +kernel
theorem dL_law_498 : decode cL_law 498 = .ok (.iload_n 3, 1) := by decide +kernel
theorem dL_law_499 : decode cL_law 499 = .ok (.iconst 1, 1) := by decide +kernel
theorem dL_law_500 : decode cL_law 500 = .ok (.iadd, 1) := by decide +kernel
theorem dL_law_501 : decode cL_law 501 = .ok (.iaload, 1) := by decide +kernel
theorem dL_law_502 : decode cL_law 502 = .ok (.invokevirtual 56, 3) := by decide +kernel
theorem dL_law_505 : decode cL_law 505 = .ok (.if_icmp .eq 535, 3) := by decide +kernel
theorem dL_law_508 : decode cL_law 508 = .ok (.iconst 0, 1) := by decide +kernel
theorem dL_law_509 : decode cL_law 509 = .ok (.ireturn, 1) := by decide +kernel
theorem dL_law_510 : decode cL_law 510 = .ok (.aload_n 1, 1) := by decide +kernel
theorem dL_law_511 : decode cL_law 511 = .ok (.aload_n 0, 1) := by decide +kernel
theorem dL_law_512 : decode cL_law 512 = .ok (.iload_n 3, 1) := by decide +kernel
theorem dL_law_513 : decode cL_law 513 = .ok (.iconst 1, 1) := by decide +kernel
theorem dL_law_514 : decode cL_law 514 = .ok (.iadd, 1) := by decide +kernel
theorem dL_law_515 : decode cL_law 515 = .ok (.iaload, 1) := by decide +kernel
theorem dL_law_516 : decode cL_law 516 = .ok (.invokevirtual 57, 3) := by decide +kernel
theorem dL_law_519 : decode cL_law 519 = .ok (.aload_n 2, 1) := by decide +kernel
theorem dL_law_520 : decode cL_law 520 = .ok (.aload_n 0, 1) := by decide +kernel
theorem dL_law_521 : decode cL_law 521 = .ok (.iload_n 3, 1) := by decide +kernel
theorem dL_law_522 : decode cL_law 522 = .ok (.iconst 1, 1) := by decide +kernel
theorem dL_law_523 : decode cL_law 523 = .ok (.iadd, 1) := by decide +kernel
theorem dL_law_524 : decode cL_law 524 = .ok (.iaload, 1) := by decide +kernel
theorem dL_law_525 : decode cL_law 525 = .ok (.invokevirtual 60, 3) := by decide +kernel
theorem dL_law_528 : decode cL_law 528 = .ok (.if_icmp .eq 512, 3) := by decide +kernel
theorem dL_law_531 : decode cL_law 531 = .ok (.iconst 0, 1) := by decide +kernel
theorem dL_law_532 : decode cL_law 532 = .ok (.ireturn, 1) := by decide +kernel
theorem dL_law_533 : decode cL_law 533 = .ok (.aload_n 1, 1) := by decide +kernel
theorem dL_law_534 : decode cL_law 534 = .ok (.aload_n 0, 1) := by decide +kernel
theorem dL_law_535 : decode cL_law 535 = .ok (.iload_n 3, 1) := by decide +kernel
theorem dL_law_536 : decode cL_law 536 = .ok (.iconst 1, 1) := by decide +kernel
theorem dL_law_537 : decode cL_law 537 = .ok (.iadd, 1) := by decide +kernel
theorem dL_law_538 : decode cL_law 538 = .ok (.iaload, 1) := by decide +kernel
theorem dL_law_539 : decode cL_law 539 = .ok (.aload_n 0, 1) := by decide +kernel
theorem dL_law_540 : decode cL_law 540 = .ok (.iload_n 3, 1) := by decide +kernel
theorem dL_law_541 : decode cL_law 541 = .ok (.iconst 2, 1) := by decide +kernel
theorem dL_law_542 : decode cL_law 542 = .ok (.iadd, 1) := by decide +kernel
theorem dL_law_543 : decode cL_law 543 = .ok (.iaload, 1) := by decide +kernel
theorem dL_law_544 : decode cL_law 544 = .ok (.invokevirtual 61, 3) := by decide +kernel
theorem dL_law_547 : decode cL_law 547 = .ok (.aload_n 2, 1) := by decide +kernel
theorem dL_law_548 : decode cL_law 548 = .ok (.aload_n 0, 1) := by decide +kernel
theorem dL_law_549 : decode cL_law 549 = .ok (.iload_n 3, 1) := by decide +kernel
theorem dL_law_550 : decode cL_law 550 = .ok (.iconst 1, 1) := by decide +kernel
theorem dL_law_551 : decode cL_law 551 = .ok (.iadd, 1) := by decide +kernel
theorem dL_law_552 : decode cL_law 552 = .ok (.iaload, 1) := by decide +kernel
theorem dL_law_553 : decode cL_law 553 = .ok (.aload_n 0, 1) := by decide +kernel
theorem dL_law_554 : decode cL_law 554 = .ok (.iload_n 3, 1) := by decide +kernel
theorem dL_law_555 : decode cL_law 555 = .ok (.iconst 2, 1) := by decide +kernel
theorem dL_law_556 : decode cL_law 556 = .ok (.iadd, 1) := by decide +kernel
theorem dL_law_557 : decode cL_law 557 = .ok (.iaload, 1) := by decide +kernel
theorem dL_law_558 : decode cL_law 558 = .ok (.invokevirtual 64, 3) := by decide +kernel
theorem dL_law_561 : decode cL_law 561 = .ok (.if_icmp .eq 479, 3) := by decide +kernel
theorem dL_law_564 : decode cL_law 564 = .ok (.iconst 0, 1) := by decide +kernel
theorem dL_law_565 : decode cL_law 565 = .ok (.ireturn, 1) := by decide +kernel
theorem dL_law_566 : decode cL_law 566 = .ok (.aload_n 1, 1) := by decide +kernel
theorem dL_law_567 : decode cL_law 567 = .ok (.aload_n 0, 1) := by decide +kernel
theorem dL_law_568 : decode cL_law 568 = .ok (.iload_n 3, 1) := by decide +kernel
theorem dL_law_569 : decode cL_law 569 = .ok (.iconst 1, 1) := by decide +kernel
theorem dL_law_570 : decode cL_law 570 = .ok (.iadd, 1) := by decide +kernel
theorem dL_law_571 : decode cL_law 571 = .ok (.iaload, 1) := by decide +kernel
theorem dL_law_572 : decode cL_law 572 = .ok (.aload_n 0, 1) := by decide +kernel
theorem dL_law_573 : decode cL_law 573 = .ok (.iload_n 3, 1) := by decide +kernel
theorem dL_law_574 : decode cL_law 574 = .ok (.iconst 2, 1) := by decide +kernel
theorem dL_law_575 : decode cL_law 575 = .ok (.iadd, 1) := by decide +kernel
theorem dL_law_576 : decode cL_law 576 = .ok (.iaload, 1) := by decide +kernel
theorem dL_law_577 : decode cL_law 577 = .ok (.invokevirtual 65, 3) := by decide +kernel
theorem dL_law_580 : decode cL_law 580 = .ok (.aload_n 2, 1) := by decide +kernel
theorem dL_law_581 : decode cL_law 581 = .ok (.aload_n 0, 1) := by decide +kernel
theorem dL_law_582 : decode cL_law 582 = .ok (.iload_n 3, 1) := by decide +kernel
theorem dL_law_583 : decode cL_law 583 = .ok (.iconst 1, 1) := by decide +kernel
theorem dL_law_584 : decode cL_law 584 = .ok (.iadd, 1) := by decide +kernel
theorem dL_law_585 : decode cL_law 585 = .ok (.iaload, 1) := by decide +kernel
theorem dL_law_586 : decode cL_law 586 = .ok (.aload_n 0, 1) := by decide +kernel
theorem dL_law_587 : decode cL_law 587 = .ok (.iload_n 3, 1) := by decide +kernel
theorem dL_law_588 : decode cL_law 588 = .ok (.iconst 2, 1) := by decide +kernel
theorem dL_law_589 : decode cL_law 589 = .ok (.iadd, 1) := by decide +kernel
theorem dL_law_590 : decode cL_law 590 = .ok (.iaload, 1) := by decide +kernel
theorem dL_law_591 : decode cL_law 591 = .ok (.invokevirtual 68, 3) := by decide +kernel
theorem dL_law_594 : decode cL_law 594 = .ok (.if_icmp .eq 446, 3) := by decide +kernel
theorem dL_law_597 : decode cL_law 597 = .ok (.iconst 0, 1) := by decide +kernel
theorem dL_law_598 : decode cL_law 598 = .ok (.ireturn, 1) := by decide +kernel
theorem dL_law_599 : decode cL_law 599 = .ok (.aload_n 1, 1) := by decide +kernel
theorem dL_law_600 : decode cL_law 600 = .ok (.aload_n 0, 1) := by decide +kernel
theorem dL_law_601 : decode cL_law 601 = .ok (.iload_n 3, 1) := by decide +kernel
theorem dL_law_602 : decode cL_law 602 = .ok (.iconst 1, 1) := by decide +kernel
theorem dL_law_603 : decode cL_law 603 = .ok (.iadd, 1) := by decide +kernel
theorem dL_law_604 : decode cL_law 604 = .ok (.iaload, 1) := by decide +kernel
theorem dL_law_605 : decode cL_law 605 = .ok (.aload_n 0, 1) := by decide +kernel
theorem dL_law_606 : decode cL_law 606 = .ok (.iload_n 3, 1) := by decide +kernel
theorem dL_law_607 : decode cL_law 607 = .ok (.iconst 2, 1) := by decide +kernel
theorem dL_law_608 : decode cL_law 608 = .ok (.iadd, 1) := by decide +kernel
theorem dL_law_609 : decode cL_law 609 = .ok (.iaload, 1) := by decide +kernel
theorem dL_law_610 : decode cL_law 610 = .ok (.invokevirtual 69, 3) := by decide +kernel
theorem dL_law_613 : decode cL_law 613 = .ok (.aload_n 2, 1) := by decide +kernel
theorem dL_law_614 : decode cL_law 614 = .ok (.aload_n 0, 1) := by decide +kernel
theorem dL_law_615 : decode cL_law 615 = .ok (.iload_n 3, 1) := by decide +kernel
theorem dL_law_616 : decode cL_law 616 = .ok (.iconst 1, 1) := by decide +kernel
theorem dL_law_617 : decode cL_law 617 = .ok (.iadd, 1) := by decide +kernel
theorem dL_law_618 : decode cL_law 618 = .ok (.iaload, 1) := by decide +kernel
theorem dL_law_619 : decode cL_law 619 = .ok (.aload_n 0, 1) := by decide +kernel
theorem dL_law_620 : decode cL_law 620 = .ok (.iload_n 3, 1) := by decide +kernel
theorem dL_law_621 : decode cL_law 621 = .ok (.iconst 2, 1) := by decide +kernel
theorem dL_law_622 : decode cL_law 622 = .ok (.iadd, 1) := by decide +kernel
theorem dL_law_623 : decode cL_law 623 = .ok (.iaload, 1) := by decide +kernel
theorem dL_law_624 : decode cL_law 624 = .ok (.invokevirtual 72, 3) := by decide +kernel
theorem dL_law_627 : decode cL_law 627 = .ok (.if_icmp .eq 413, 3) := by decide +kernel
theorem dL_law_630 : decode cL_law 630 = .ok (.iconst 0, 1) := by decide +kernel
theorem dL_law_631 : decode cL_law 631 = .ok (.ireturn, 1) := by decide +kernel
theorem dL_law_632 : decode cL_law 632 = .ok (.aload_n 1, 1) := by decide +kernel
theorem dL_law_633 : decode cL_law 633 = .ok (.aload_n 0, 1) := by decide +kernel
theorem dL_law_634 : decode cL_law 634 = .ok (.iload_n 3, 1) := by decide +kernel
theorem dL_law_635 : decode cL_law 635 = .ok (.iconst 1, 1) := by decide +kernel
theorem dL_law_636 : decode cL_law 636 = .ok (.iadd, 1) := by decide +kernel
theorem dL_law_637 : decode cL_law 637 = .ok (.iaload, 1) := by decide +kernel
theorem dL_law_638 : decode cL_law 638 = .ok (.aload_n 0, 1) := by decide +kernel
theorem dL_law_639 : decode cL_law 639 = .ok (.iload_n 3, 1) := by decide +kernel
theorem dL_law_640 : decode cL_law 640 = .ok (.iconst 2, 1) := by decide +kernel
theorem dL_law_641 : decode cL_law 641 = .ok (.iadd, 1) := by decide +kernel
theorem dL_law_642 : decode cL_law 642 = .ok (.iaload, 1) := by decide +kernel
theorem dL_law_643 : decode cL_law 643 = .ok (.invokevirtual 73, 3) := by decide +kernel
theorem dL_law_646 : decode cL_law 646 = .ok (.aload_n 2, 1) := by decide +kernel
theorem dL_law_647 : decode cL_law 647 = .ok (.aload_n 0, 1) := by decide +kernel
theorem dL_law_648 : decode cL_law 648 = .ok (.iload_n 3, 1) := by decide +kernel
theorem dL_law_649 : decode cL_law 649 = .ok (.iconst 1, 1) := by decide +kernel
theorem dL_law_650 : decode cL_law 650 = .ok (.iadd, 1) := by decide +kernel
theorem dL_law_651 : decode cL_law 651 = .ok (.iaload, 1) := by decide +kernel
theorem dL_law_652 : decode cL_law 652 = .ok (.aload_n 0, 1) := by decide +kernel
theorem dL_law_653 : decode cL_law 653 = .ok (.iload_n 3, 1) := by decide +kernel
theorem dL_law_654 : decode cL_law 654 = .ok (.iconst 2, 1) := by decide +kernel
theorem dL_law_655 : decode cL_law 655 = .ok (.iadd, 1) := by decide +kernel
theorem dL_law_656 : decode cL_law 656 = .ok (.iaload, 1) := by decide +kernel
theorem dL_law_657 : decode cL_law 657 = .ok (.invokevirtual 76, 3) := by decide +kernel
theorem dL_law_660 : decode cL_law 660 = .ok (.if_icmp .eq 380, 3) := by decide +kernel
theorem dL_law_663 : decode cL_law 663 = .ok (.iconst 0, 1) := by decide +kernel
theorem dL_law_664 : decode cL_law 664 = .ok (.ireturn, 1) := by decide +kernel
theorem dL_law_665 : decode cL_law 665 = .ok (.aload_n 1, 1) := by decide +kernel
theorem dL_law_666 : decode cL_law 666 = .ok (.aload_n 0, 1) := by decide +kernel
theorem dL_law_667 : decode cL_law 667 = .ok (.iload_n 3, 1) := by decide +kernel
theorem dL_law_668 : decode cL_law 668 = .ok (.iconst 1, 1) := by decide +kernel
theorem dL_law_669 : decode cL_law 669 = .ok (.iadd, 1) := by decide +kernel
theorem dL_law_670 : decode cL_law 670 = .ok (.iaload, 1) := by decide +kernel
theorem dL_law_671 : decode cL_law 671 = .ok (.aload_n 0, 1) := by decide +kernel
theorem dL_law_672 : decode cL_law 672 = .ok (.iload_n 3, 1) := by decide +kernel
theorem dL_law_673 : decode cL_law 673 = .ok (.iconst 2, 1) := by decide +kernel
theorem dL_law_674 : decode cL_law 674 = .ok (.iadd, 1) := by decide +kernel
theorem dL_law_675 : decode cL_law 675 = .ok (.iaload, 1) := by decide +kernel
theorem dL_law_676 : decode cL_law 676 = .ok (.invokevirtual 77, 3) := by decide +kernel
theorem dL_law_679 : decode cL_law 679 = .ok (.aload_n 2, 1) := by decide +kernel
theorem dL_law_680 : decode cL_law 680 = .ok (.aload_n 0, 1) := by decide +kernel
theorem dL_law_681 : decode cL_law 681 = .ok (.iload_n 3, 1) := by decide +kernel
theorem dL_law_682 : decode cL_law 682 = .ok (.iconst 1, 1) := by decide +kernel
theorem dL_law_683 : decode cL_law 683 = .ok (.iadd, 1) := by decide +kernel
theorem dL_law_684 : decode cL_law 684 = .ok (.iaload, 1) := by decide +kernel
theorem dL_law_685 : decode cL_law 685 = .ok (.aload_n 0, 1) := by decide +kernel
theorem dL_law_686 : decode cL_law 686 = .ok (.iload_n 3, 1) := by decide +kernel
theorem dL_law_687 : decode cL_law 687 = .ok (.iconst 2, 1) := by decide +kernel
theorem dL_law_688 : decode cL_law 688 = .ok (.iadd, 1) := by decide +kernel
theorem dL_law_689 : decode cL_law 689 = .ok (.iaload, 1) := by decide +kernel
theorem dL_law_690 : decode cL_law 690 = .ok (.invokevirtual 80, 3) := by decide +kernel
theorem dL_law_693 : decode cL_law 693 = .ok (.if_icmp .eq 347, 3) := by decide +kernel
theorem dL_law_696 : decode cL_law 696 = .ok (.iconst 0, 1) := by decide +kernel
theorem dL_law_697 : decode cL_law 697 = .ok (.ireturn, 1) := by decide +kernel
theorem dL_law_698 : decode cL_law 698 = .ok (.aload_n 1, 1) := by decide +kernel
theorem dL_law_699 : decode cL_law 699 = .ok (.aload_n 0, 1) := by decide +kernel
theorem dL_law_700 : decode cL_law 700 = .ok (.iload_n 3, 1) := by decide +kernel
theorem dL_law_701 : decode cL_law 701 = .ok (.iconst 1, 1) := by decide +kernel
theorem dL_law_702 : decode cL_law 702 = .ok (.iadd, 1) := by decide +kernel
theorem dL_law_703 : decode cL_law 703 = .ok (.iaload, 1) := by decide +kernel
theorem dL_law_704 : decode cL_law 704 = .ok (.invokevirtual 81, 3) := by decide +kernel
theorem dL_law_707 : decode cL_law 707 = .ok (.aload_n 2, 1) := by decide +kernel
theorem dL_law_708 : decode cL_law 708 = .ok (.aload_n 0, 1) := by decide +kernel
theorem dL_law_709 : decode cL_law 709 = .ok (.iload_n 3, 1) := by decide +kernel
theorem dL_law_710 : decode cL_law 710 = .ok (.iconst 1, 1) := by decide +kernel
theorem dL_law_711 : decode cL_law 711 = .ok (.iadd, 1) := by decide +kernel
theorem dL_law_712 : decode cL_law 712 = .ok (.iaload, 1) := by decide +kernel
theorem dL_law_713 : decode cL_law 713 = .ok (.invokevirtual 84, 3) := by decide +kernel
theorem dL_law_716 : decode cL_law 716 = .ok (.if_icmp .eq 324, 3) := by decide +kernel
theorem dL_law_719 : decode cL_law 719 = .ok (.iconst 0, 1) := by decide +kernel
theorem dL_law_720 : decode cL_law 720 = .ok (.ireturn, 1) := by decide +kernel
theorem dL_law_721 : decode cL_law 721 = .ok (.aload_n 1, 1) := by decide +kernel
theorem dL_law_722 : decode cL_law 722 = .ok (.aload_n 0, 1) := by decide +kernel
theorem dL_law_723 : decode cL_law 723 = .ok (.iload_n 3, 1) := by decide +kernel
theorem dL_law_724 : decode cL_law 724 = .ok (.iconst 1, 1) := by decide +kernel
theorem dL_law_725 : decode cL_law 725 = .ok (.iadd, 1) := by decide +kernel
theorem dL_law_726 : decode cL_law 726 = .ok (.iaload, 1) := by decide +kernel
theorem dL_law_727 : decode cL_law 727 = .ok (.aload_n 0, 1) := by decide +kernel
theorem dL_law_728 : decode cL_law 728 = .ok (.iload_n 3, 1) := by decide +kernel
theorem dL_law_729 : decode cL_law 729 = .ok (.iconst 2, 1) := by decide +kernel
theorem dL_law_730 : decode cL_law 730 = .ok (.iadd, 1) := by decide +kernel
theorem dL_law_731 : decode cL_law 731 = .ok (.iaload, 1) := by decide +kernel
theorem dL_law_732 : decode cL_law 732 = .ok (.invokevirtual 85, 3) := by decide +kernel
theorem dL_law_735 : decode cL_law 735 = .ok (.aload_n 2, 1) := by decide +kernel
theorem dL_law_736 : decode cL_law 736 = .ok (.aload_n 0, 1) := by decide +kernel
theorem dL_law_737 : decode cL_law 737 = .ok (.iload_n 3, 1) := by decide +kernel
theorem dL_law_738 : decode cL_law 738 = .ok (.iconst 1, 1) := by decide +kernel
theorem dL_law_739 : decode cL_law 739 = .ok (.iadd, 1) := by decide +kernel
theorem dL_law_740 : decode cL_law 740 = .ok (.iaload, 1) := by decide +kernel
theorem dL_law_741 : decode cL_law 741 = .ok (.aload_n 0, 1) := by decide +kernel
theorem dL_law_742 : decode cL_law 742 = .ok (.iload_n 3, 1) := by decide +kernel
theorem dL_law_743 : decode cL_law 743 = .ok (.iconst 2, 1) := by decide +kernel
theorem dL_law_744 : decode cL_law 744 = .ok (.iadd, 1) := by decide +kernel
theorem dL_law_745 : decode cL_law 745 = .ok (.iaload, 1) := by decide +kernel
theorem dL_law_746 : decode cL_law 746 = .ok (.invokevirtual 88, 3) := by decide +kernel
theorem dL_law_749 : decode cL_law 749 = .ok (.if_icmp .eq 291, 3) := by decide +kernel
theorem dL_law_752 : decode cL_law 752 = .ok (.iconst 0, 1) := by decide +kernel
theorem dL_law_753 : decode cL_law 753 = .ok (.ireturn, 1) := by decide +kernel
theorem dL_law_754 : decode cL_law 754 = .ok (.aload_n 1, 1) := by decide +kernel
theorem dL_law_755 : decode cL_law 755 = .ok (.aload_n 0, 1) := by decide +kernel
theorem dL_law_756 : decode cL_law 756 = .ok (.iload_n 3, 1) := by decide +kernel
theorem dL_law_757 : decode cL_law 757 = .ok (.iconst 1, 1) := by decide +kernel
theorem dL_law_758 : decode cL_law 758 = .ok (.iadd, 1) := by decide +kernel
theorem dL_law_759 : decode cL_law 759 = .ok (.iaload, 1) := by decide +kernel
theorem dL_law_760 : decode cL_law 760 = .ok (.aload_n 0, 1) := by decide +kernel
theorem dL_law_761 : decode cL_law 761 = .ok (.iload_n 3, 1) := by decide +kernel
theorem dL_law_762 : decode cL_law 762 = .ok (.iconst 2, 1) := by decide +kernel
theorem dL_law_763 : decode cL_law 763 = .ok (.iadd, 1) := by decide +kernel
theorem dL_law_764 : decode cL_law 764 = .ok (.iaload, 1) := by decide +kernel
theorem dL_law_765 : decode cL_law 765 = .ok (.invokevirtual 89, 3) := by decide +kernel
theorem dL_law_768 : decode cL_law 768 = .ok (.aload_n 2, 1) := by decide +kernel
theorem dL_law_769 : decode cL_law 769 = .ok (.aload_n 0, 1) := by decide +kernel
theorem dL_law_770 : decode cL_law 770 = .ok (.iload_n 3, 1) := by decide +kernel
theorem dL_law_771 : decode cL_law 771 = .ok (.iconst 1, 1) := by decide +kernel
theorem dL_law_772 : decode cL_law 772 = .ok (.iadd, 1) := by decide +kernel
theorem dL_law_773 : decode cL_law 773 = .ok (.iaload, 1) := by decide +kernel
theorem dL_law_774 : decode cL_law 774 = .ok (.aload_n 0, 1) := by decide +kernel
theorem dL_law_775 : decode cL_law 775 = .ok (.iload_n 3, 1) := by decide +kernel
theorem dL_law_776 : decode cL_law 776 = .ok (.iconst 2, 1) := by decide +kernel
theorem dL_law_777 : decode cL_law 777 = .ok (.iadd, 1) := by decide +kernel
theorem dL_law_778 : decode cL_law 778 = .ok (.iaload, 1) := by decide +kernel
theorem dL_law_779 : decode cL_law 779 = .ok (.invokevirtual 92, 3) := by decide +kernel
theorem dL_law_782 : decode cL_law 782 = .ok (.if_icmp .eq 258, 3) := by decide +kernel
theorem dL_law_785 : decode cL_law 785 = .ok (.iconst 0, 1) := by decide +kernel
theorem dL_law_786 : decode cL_law 786 = .ok (.ireturn, 1) := by decide +kernel
theorem dL_law_787 : decode cL_law 787 = .ok (.aload_n 1, 1) := by decide +kernel
theorem dL_law_788 : decode cL_law 788 = .ok (.aload_n 0, 1) := by decide +kernel
theorem dL_law_789 : decode cL_law 789 = .ok (.iload_n 3, 1) := by decide +kernel
theorem dL_law_790 : decode cL_law 790 = .ok (.iconst 1, 1) := by decide +kernel
theorem dL_law_791 : decode cL_law 791 = .ok (.iadd, 1) := by decide +kernel
theorem dL_law_792 : decode cL_law 792 = .ok (.iaload, 1) := by decide +kernel
theorem dL_law_793 : decode cL_law 793 = .ok (.invokevirtual 93, 3) := by decide +kernel
theorem dL_law_796 : decode cL_law 796 = .ok (.aload_n 2, 1) := by decide +kernel
theorem dL_law_797 : decode cL_law 797 = .ok (.aload_n 0, 1) := by decide +kernel
theorem dL_law_798 : decode cL_law 798 = .ok (.iload_n 3, 1) := by decide +kernel
theorem dL_law_799 : decode cL_law 799 = .ok (.iconst 1, 1) := by decide +kernel
theorem dL_law_800 : decode cL_law 800 = .ok (.iadd, 1) := by decide +kernel
theorem dL_law_801 : decode cL_law 801 = .ok (.iaload, 1) := by decide +kernel
theorem dL_law_802 : decode cL_law 802 = .ok (.invokevirtual 96, 3) := by decide +kernel
theorem dL_law_805 : decode cL_law 805 = .ok (.if_icmp .eq 235, 3) := by decide +kernel
theorem dL_law_808 : decode cL_law 808 = .ok (.iconst 0, 1) := by decide +kernel
theorem dL_law_809 : decode cL_law 809 = .ok (.ireturn, 1) := by decide +kernel
theorem dL_law_810 : decode cL_law 810 = .ok (.aload_n 1, 1) := by decide +kernel
theorem dL_law_811 : decode cL_law 811 = .ok (.aload_n 0, 1) := by decide +kernel
theorem dL_law_812 : decode cL_law 812 = .ok (.iload_n 3, 1) := by decide +kernel
theorem dL_law_813 : decode cL_law 813 = .ok (.iconst 1, 1) := by decide +kernel
theorem dL_law_814 : decode cL_law 814 = .ok (.iadd, 1) := by decide +kernel
theorem dL_law_815 : decode cL_law 815 = .ok (.iaload, 1) := by decide +kernel
theorem dL_law_816 : decode cL_law 816 = .ok (.aload_n 0, 1) := by decide +kernel
theorem dL_law_817 : decode cL_law 817 = .ok (.iload_n 3, 1) := by decide +kernel
theorem dL_law_818 : decode cL_law 818 = .ok (.iconst 2, 1) := by decide +kernel
theorem dL_law_819 : decode cL_law 819 = .ok (.iadd, 1) := by decide +kernel
theorem dL_law_820 : decode cL_law 820 = .ok (.iaload, 1) := by decide +kernel
theorem dL_law_821 : decode cL_law 821 = .ok (.invokevirtual 97, 3) := by decide +kernel
theorem dL_law_824 : decode cL_law 824 = .ok (.aload_n 2, 1) := by decide +kernel
theorem dL_law_825 : decode cL_law 825 = .ok (.aload_n 0, 1) := by decide +kernel
theorem dL_law_826 : decode cL_law 826 = .ok (.iload_n 3, 1) := by decide +kernel
theorem dL_law_827 : decode cL_law 827 = .ok (.iconst 1, 1) := by decide +kernel
theorem dL_law_828 : decode cL_law 828 = .ok (.iadd, 1) := by decide +kernel
theorem dL_law_829 : decode cL_law 829 = .ok (.iaload, 1) := by decide +kernel
theorem dL_law_830 : decode cL_law 830 = .ok (.aload_n 0, 1) := by decide +kernel
theorem dL_law_831 : decode cL_law 831 = .ok (.iload_n 3, 1) := by decide +kernel
theorem dL_law_832 : decode cL_law 832 = .ok (.iconst 2, 1) := by decide +kernel
theorem dL_law_833 : decode cL_law 833 = .ok (.iadd, 1) := by decide +kernel
theorem dL_law_834 : decode cL_law 834 = .ok (.iaload, 1) := by decide +kernel
theorem dL_law_835 : decode cL_law 835 = .ok (.invokevirtual 100, 3) := by decide +kernel
theorem dL_law_838 : decode cL_law 838 = .ok (.if_icmp .eq 202, 3) := by decide +kernel
theorem dL_law_841 : decode cL_law 841 = .ok (.iconst 0, 1) := by decide +kernel
theorem dL_law_842 : decode cL_law 842 = .ok (.ireturn, 1) := by decide +kernel
theorem dL_law_843 : decode cL_law 843 = .ok (.aload_n 1, 1) := by decide +kernel
theorem dL_law_844 : decode cL_law 844 = .ok (.aload_n 0, 1) := by decide +kernel
theorem dL_law_845 : decode cL_law 845 = .ok (.iload_n 3, 1) := by decide +kernel
theorem dL_law_846 : decode cL_law 846 = .ok (.iconst 1, 1) := by decide +kernel
theorem dL_law_847 : decode cL_law 847 = .ok (.iadd, 1) := by decide +kernel
theorem dL_law_848 : decode cL_law 848 = .ok (.iaload, 1) := by decide +kernel
theorem dL_law_849 : decode cL_law 849 = .ok (.aload_n 0, 1) := by decide +kernel
theorem dL_law_850 : decode cL_law 850 = .ok (.iload_n 3, 1) := by decide +kernel
theorem dL_law_851 : decode cL_law 851 = .ok (.iconst 2, 1) := by decide +kernel
theorem dL_law_852 : decode cL_law 852 = .ok (.iadd, 1) := by decide +kernel
theorem dL_law_853 : decode cL_law 853 = .ok (.iaload, 1) := by decide +kernel
theorem dL_law_854 : decode cL_law 854 = .ok (.aload_n 0, 1) := by decide +kernel
theorem dL_law_855 : decode cL_law 855 = .ok (.iload_n 3, 1) := by decide +kernel
theorem dL_law_856 : decode cL_law 856 = .ok (.iconst 3, 1) := by decide +kernel
theorem dL_law_857 : decode cL_law 857 = .ok (.iadd, 1) := by decide +kernel
theorem dL_law_858 : decode cL_law 858 = .ok (.iaload, 1) := by decide +kernel
theorem dL_law_859 : decode cL_law 859 = .ok (.invokevirtual 101, 3) := by decide +kernel
theorem dL_law_862 : decode cL_law 862 = .ok (.aload_n 2, 1) := by decide +kernel
theorem dL_law_863 : decode cL_law 863 = .ok (.aload_n 0, 1) := by decide +kernel
theorem dL_law_864 : decode cL_law 864 = .ok (.iload_n 3, 1) := by decide +kernel
theorem dL_law_865 : decode cL_law 865 = .ok (.iconst 1, 1) := by decide +kernel
theorem dL_law_866 : decode cL_law 866 = .ok (.iadd, 1) := by decide +kernel
theorem dL_law_867 : decode cL_law 867 = .ok (.iaload, 1) := by decide +kernel
theorem dL_law_868 : decode cL_law 868 = .ok (.aload_n 0, 1) := by decide +kernel
theorem dL_law_869 : decode cL_law 869 = .ok (.iload_n 3, 1) := by decide +kernel
theorem dL_law_870 : decode cL_law 870 = .ok (.iconst 2, 1) := by decide +kernel
theorem dL_law_871 : decode cL_law 871 = .ok (.iadd, 1) := by decide +kernel
theorem dL_law_872 : decode cL_law 872 = .ok (.iaload, 1) := by decide +kernel
theorem dL_law_873 : decode cL_law 873 = .ok (.aload_n 0, 1) := by decide +kernel
theorem dL_law_874 : decode cL_law 874 = .ok (.iload_n 3, 1) := by decide +kernel
theorem dL_law_875 : decode cL_law 875 = .ok (.iconst 3, 1) := by decide +kernel
theorem dL_law_876 : decode cL_law 876 = .ok (.iadd, 1) := by decide +kernel
theorem dL_law_877 : decode cL_law 877 = .ok (.iaload, 1) := by decide +kernel
theorem dL_law_878 : decode cL_law 878 = .ok (.invokevirtual 104, 3) := by decide +kernel
theorem dL_law_881 : decode cL_law 881 = .ok (.if_icmp .eq 159, 3) := by decide +kernel
theorem dL_law_884 : decode cL_law 884 = .ok (.iconst 0, 1) := by decide +kernel
theorem dL_law_885 : decode cL_law 885 = .ok (.ireturn, 1) := by decide +kernel
theorem dL_law_886 : decode cL_law 886 = .ok (.aload_n 1, 1) := by decide +kernel
theorem dL_law_887 : decode cL_law 887 = .ok (.aload_n 0, 1) := by decide +kernel
theorem dL_law_888 : decode cL_law 888 = .ok (.iload_n 3, 1) := by decide +kernel
theorem dL_law_889 : decode cL_law 889 = .ok (.iconst 1, 1) := by decide +kernel
theorem dL_law_890 : decode cL_law 890 = .ok (.iadd, 1) := by decide +kernel
theorem dL_law_891 : decode cL_law 891 = .ok (.iaload, 1) := by decide +kernel
theorem dL_law_892 : decode cL_law 892 = .ok (.aload_n 0, 1) := by decide +kernel
theorem dL_law_893 : decode cL_law 893 = .ok (.iload_n 3, 1) := by decide +kernel
theorem dL_law_894 : decode cL_law 894 = .ok (.iconst 2, 1) := by decide +kernel
theorem dL_law_895 : decode cL_law 895 = .ok (.iadd, 1) := by decide +kernel
theorem dL_law_896 : decode cL_law 896 = .ok (.iaload, 1) := by decide +kernel
theorem dL_law_897 : decode cL_law 897 = .ok (.invokevirtual 105, 3) := by decide +kernel
theorem dL_law_900 : decode cL_law 900 = .ok (.aload_n 2, 1) := by decide +kernel
theorem dL_law_901 : decode cL_law 901 = .ok (.aload_n 0, 1) := by decide +kernel
theorem dL_law_902 : decode cL_law 902 = .ok (.iload_n 3, 1) := by decide +kernel
theorem dL_law_903 : decode cL_law 903 = .ok (.iconst 1, 1) := by decide +kernel
theorem dL_law_904 : decode cL_law 904 = .ok (.iadd, 1) := by decide +kernel
theorem dL_law_905 : decode cL_law 905 = .ok (.iaload, 1) := by decide +kernel
theorem dL_law_906 : decode cL_law 906 = .ok (.aload_n 0, 1) := by decide +kernel
theorem dL_law_907 : decode cL_law 907 = .ok (.iload_n 3, 1) := by decide +kernel
theorem dL_law_908 : decode cL_law 908 = .ok (.iconst 2, 1) := by decide +kernel
theorem dL_law_909 : decode cL_law 909 = .ok (.iadd, 1) := by decide +kernel
theorem dL_law_910 : decode cL_law 910 = .ok (.iaload, 1) := by decide +kernel
theorem dL_law_911 : decode cL_law 911 = .ok (.invokevirtual 108, 3) := by decide +kernel
theorem dL_law_914 : decode cL_law 914 = .ok (.if_icmp .eq 126, 3) := by decide +kernel
theorem dL_law_917 : decode cL_law 917 = .ok (.iconst 0, 1) := by decide +kernel
theorem dL_law_918 : decode cL_law 918 = .ok (.ireturn, 1) := by decide +kernel
theorem dL_law_919 : decode cL_law 919 = .ok (.aload_n 1, 1) := by decide +kernel
theorem dL_law_920 : decode cL_law 920 = .ok (.invokevirtual 109, 3) := by decide +kernel
theorem dL_law_923 : decode cL_law 923 = .ok (.aload_n 2, 1) := by decide +kernel
theorem dL_law_924 : decode cL_law 924 = .ok (.invokevirtual 113, 3) := by decide +kernel
theorem dL_law_927 : decode cL_law 927 = .ok (.if_icmp .eq 113, 3) := by decide +kernel
theorem dL_law_930 : decode cL_law 930 = .ok (.iconst 0, 1) := by decide +kernel
theorem dL_law_931 : decode cL_law 931 = .ok (.ireturn, 1) := by decide +kernel
theorem dL_law_932 : decode cL_law 932 = .ok (.aload_n 1, 1) := by decide +kernel
theorem dL_law_933 : decode cL_law 933 = .ok (.aload_n 0, 1) := by decide +kernel
theorem dL_law_934 : decode cL_law 934 = .ok (.iload_n 3, 1) := by decide +kernel
theorem dL_law_935 : decode cL_law 935 = .ok (.iconst 1, 1) := by decide +kernel
theorem dL_law_936 : decode cL_law 936 = .ok (.iadd, 1) := by decide +kernel
theorem dL_law_937 : decode cL_law 937 = .ok (.iaload, 1) := by decide +kernel
theorem dL_law_938 : decode cL_law 938 = .ok (.invokevirtual 114, 3) := by decide +kernel
theorem dL_law_941 : decode cL_law 941 = .ok (.aload_n 2, 1) := by decide +kernel
theorem dL_law_942 : decode cL_law 942 = .ok (.aload_n 0, 1) := by decide +kernel
theorem dL_law_943 : decode cL_law 943 = .ok (.iload_n 3, 1) := by decide +kernel
theorem dL_law_944 : decode cL_law 944 = .ok (.iconst 1, 1) := by decide +kernel
theorem dL_law_945 : decode cL_law 945 = .ok (.iadd, 1) := by decide +kernel
theorem dL_law_946 : decode cL_law 946 = .ok (.iaload, 1) := by decide +kernel
theorem dL_law_947 : decode cL_law 947 = .ok (.invokevirtual 117, 3) := by decide +kernel
theorem dL_law_950 : decode cL_law 950 = .ok (.if_icmp .eq 90, 3) := by decide +kernel
theorem dL_law_953 : decode cL_law 953 = .ok (.iconst 0, 1) := by decide +kernel
theorem dL_law_954 : decode cL_law 954 = .ok (.ireturn, 1) := by decide +kernel
theorem dL_law_955 : decode cL_law 955 = .ok (.aload_n 1, 1) := by decide +kernel
theorem dL_law_956 : decode cL_law 956 = .ok (.invokevirtual 118, 3) := by decide +kernel
theorem dL_law_959 : decode cL_law 959 = .ok (.aload_n 2, 1) := by decide +kernel
theorem dL_law_960 : decode cL_law 960 = .ok (.invokevirtual 121, 3) := by decide +kernel
theorem dL_law_963 : decode cL_law 963 = .ok (.if_icmp .eq 77, 3) := by decide +kernel
theorem dL_law_966 : decode cL_law 966 = .ok (.iconst 0, 1) := by decide +kernel
theorem dL_law_967 : decode cL_law 967 = .ok (.ireturn, 1) := by decide +kernel
theorem dL_law_968 : decode cL_law 968 = .ok (.aload_n 1, 1) := by decide +kernel
theorem dL_law_969 : decode cL_law 969 = .ok (.aload_n 0, 1) := by decide +kernel
theorem dL_law_970 : decode cL_law 970 = .ok (.iload_n 3, 1) := by decide +kernel
theorem dL_law_971 : decode cL_law 971 = .ok (.iconst 1, 1) := by decide +kernel
theorem dL_law_972 : decode cL_law 972 = .ok (.iadd, 1) := by decide +kernel
theorem dL_law_973 : decode cL_law 973 = .ok (.iaload, 1) := by decide +kernel
theorem dL_law_974 : decode cL_law 974 = .ok (.invokevirtual 122, 3) := by decide +kernel
theorem dL_law_977 : decode cL_law 977 = .ok (.aload_n 2, 1) := by decide +kernel
theorem dL_law_978 : decode cL_law 978 = .ok (.aload_n 0, 1) := by decide +kernel
theorem dL_law_979 : decode cL_law 979 = .ok (.iload_n 3, 1) := by decide +kernel
theorem dL_law_980 : decode cL_law 980 = .ok (.iconst 1, 1) := by decide +kernel
theorem dL_law_981 : decode cL_law 981 = .ok (.iadd, 1) := by decide +kernel
theorem dL_law_982 : decode cL_law 982 = .ok (.iaload, 1) := by decide +kernel
theorem dL_law_983 : decode cL_law 983 = .ok (.invokevirtual 125, 3) := by decide +kernel
theorem dL_law_986 : decode cL_law 986 = .ok (.if_icmp .eq 54, 3) := by decide +kernel
theorem dL_law_989 : decode cL_law 989 = .ok (.iconst 0, 1) := by decide +kernel
theorem dL_law_990 : decode cL_law 990 = .ok (.ireturn, 1) := by decide +kernel
theorem dL_law_991 : decode cL_law 991 = .ok (.aload_n 1, 1) := by decide +kernel
theorem dL_law_992 : decode cL_law 992 = .ok (.invokevirtual 126, 3) := by decide +kernel
theorem dL_law_995 : decode cL_law 995 = .ok (.aload_n 2, 1) := by decide +kernel
theorem dL_law_996 : decode cL_law 996 = .ok (.invokevirtual 129, 3) := by decide +kernel
theorem dL_law_999 : decode cL_law 999 = .ok (.if_icmp .eq 41, 3) := by decide +kernel
theorem dL_law_1002 : decode cL_law 1002 = .ok (.iconst 0, 1) := by decide +kernel
theorem dL_law_1003 : decode cL_law 1003 = .ok (.ireturn, 1) := by decide +kernel
theorem dL_law_1004 : decode cL_law 1004 = .ok (.aload_n 1, 1) := by decide +kernel
theorem dL_law_1005 : decode cL_law 1005 = .ok (.invokevirtual 130, 3) := by decide +kernel
theorem dL_law_1008 : decode cL_law 1008 = .ok (.aload_n 2, 1) := by decide +kernel
theorem dL_law_1009 : decode cL_law 1009 = .ok (.invokevirtual 133, 3) := by decide +kernel
theorem dL_law_1012 : decode cL_law 1012 = .ok (.if_icmp .eq 28, 3) := by decide +kernel
theorem dL_law_1015 : decode cL_law 1015 = .ok (.iconst 0, 1) := by decide +kernel
theorem dL_law_1016 : decode cL_law 1016 = .ok (.ireturn, 1) := by decide +kernel
theorem dL_law_1017 : decode cL_law 1017 = .ok (.aload_n 1, 1) := by decide +kernel
theorem dL_law_1018 : decode cL_law 1018 = .ok (.aload_n 0, 1) := by decide +kernel
theorem dL_law_1019 : decode cL_law 1019 = .ok (.iload_n 3, 1) := by decide +kernel
theorem dL_law_1020 : decode cL_law 1020 = .ok (.iconst 1, 1) := by decide +kernel
theorem dL_law_1021 : decode cL_law 1021 = .ok (.iadd, 1) := by decide +kernel
theorem dL_law_1022 : decode cL_law 1022 = .ok (.iaload, 1) := by decide +kernel
theorem dL_law_1023 : decode cL_law 1023 = .ok (.invokevirtual 134, 3) := by decide +kernel
theorem dL_law_1026 : decode cL_law 1026 = .ok (.aload_n 2, 1) := by decide +kernel
theorem dL_law_1027 : decode cL_law 1027 = .ok (.aload_n 0, 1) := by decide +kernel
theorem dL_law_1028 : decode cL_law 1028 = .ok (.iload_n 3, 1) := by decide +kernel
theorem dL_law_1029 : decode cL_law 1029 = .ok (.iconst 1, 1) := by decide +kernel
theorem dL_law_1030 : decode cL_law 1030 = .ok (.iadd, 1) := by decide +kernel
theorem dL_law_1031 : decode cL_law 1031 = .ok (.iaload, 1) := by decide +kernel
theorem dL_law_1032 : decode cL_law 1032 = .ok (.invokevirtual 137, 3) := by decide +kernel
theorem dL_law_1035 : decode cL_law 1035 = .ok (.if_icmp .eq 5, 3) := by decide +kernel
theorem dL_law_1038 : decode cL_law 1038 = .ok (.iconst 0, 1) := by decide +kernel
theorem dL_law_1039 : decode cL_law 1039 = .ok (.ireturn, 1) := by decide +kernel
theorem dL_law_1040 : decode cL_law 1040 = .ok (.iinc 3 5, 3) := by decide +kernel
theorem dL_law_1043 : decode cL_law 1043 = .ok (.goto (-1025), 3) := by decide +kernel
theorem dL_law_1046 : decode cL_law 1046 = .ok (.iconst 1, 1) := by decide +kernel
theorem dL_law_1047 : decode cL_law 1047 = .ok (.ireturn, 1) := by decide +kernel
end
section
def qv_kl : List (List (Option (Nat × Nat))) := [[some (37, 4), some (36, 3), some (20, 7)],
  [some (21, 9), some (21, 9), none, some (7, 2), some (7, 2), some (7, 2)],
  [some (20, 192), some (20, 1344), some (20, 1344), some (20, 192), some (20, 192), some (20, 192), some (20, 7), some (7, 2), none, none],
  [some (36, 8), some (20, 8), none, none],
  [some (7, 2), some (7, 2), some (1, 6)],
  [some (20, 300), some (20, 60), some (20, 5), some (20, 5), none, none, none],
  [some (20, 60), none],
  [some (21, 16), none],
  [some (20, 80), none],
  [some (0, 3), some (0, 3), none, some (3, 4), some (8, 2), some (5, 7), some (2, 10), some (1, 6), some (4, 3), some (6, 2), some (7, 2), some (7, 2), some (7, 2), some (7, 2)],
  [some (21, 340), some (21, 3264), some (21, 68), some (20, 7), some (20, 7), some (20, 180), some (20, 3), some (20, 180), some (20, 3), none, some (21, 9), some (21, 9), some (20, 1344), some (20, 1344), none, some (20, 192), some (20, 192), some (20, 600), none, some (20, 480), some (20, 8), some (20, 8), none, some (20, 80), none, none, none, none, some (20, 120)]]
def qv_kd (c k : Nat) : Option (Nat × Nat) := if c = 36 then some (6, 2) else if c = 37 then some (7, 2) else (qv_kl.getD c []).getD k none
def qv_nl : List (String × Nat × MethodName × String) := [("RootGates$Bench", 28, ⟨"RootGates$Row", "<init>", "()V"⟩, "RootGates"),
  ("RootGates$History", 28, ⟨"RootGates$Row", "<init>", "()V"⟩, "RootGates"),
  ("RootGates", 34, ⟨"RootGates$Tape", "<init>", "()V"⟩, "RootGates"),
  ("RootGates", 41, ⟨"RootGates$Reader", "<init>", "()V"⟩, "RootGates"),
  ("RootGates", 48, ⟨"RootGates$Cliffords", "<init>", "()V"⟩, "RootGates"),
  ("RootGates", 55, ⟨"RootGates$Channel", "<init>", "()V"⟩, "RootGates"),
  ("RootGates", 62, ⟨"RootGates$Normal", "<init>", "()V"⟩, "RootGates"),
  ("RootGates$Normal", 23, ⟨"RootGates$Channel", "<init>", "()V"⟩, "RootGates"),
  ("RootGates", 69, ⟨"RootGates$Row", "<init>", "()V"⟩, "RootGates"),
  ("RootGates$Row", 25, ⟨"RootGates", "isBelow", "(II)Z"⟩, "RootGates"),
  ("RootGates$Tape", 27, ⟨"RootGates", "gateOfLetter", "(I)I"⟩, "RootGates"),
  ("RootGates$Tape", 19, ⟨"RootGates", "isBelow", "(II)Z"⟩, "RootGates"),
  ("RootGates$Reader", 52, ⟨"RootGates", "gateOfLetter", "(I)I"⟩, "RootGates")]
def qv_nst : List Cond := qv_nl.map (fun q => Cond.methodLinkNest q.1 q.2.1 q.2.2.1 q.2.2.2)
theorem qv_nst_form (w : Cond) (h : w ∈ qv_nst) : ∃ a i x hh, w = Cond.methodLinkNest a i x hh := by
  obtain ⟨q, -, e⟩ := List.mem_map.mp h
  exact ⟨_, _, _, _, e.symm⟩
end
section
/-! THE CORE. Memory is three maps (ints, longs, scalar fields of cell number id); T says what each cell is: an object of a class number (0 .. 10), 20: int[], 21: long[], 30 + class: an array of such. A cell's address is B + its number. -/
abbrev qv_Ent : Type := Nat × Nat × List (Option (Option Nat))
abbrev qv_Mem : Type := (Nat → Nat → Int32) × (Nat → Nat → Int64) × (Nat → Nat → Int32)
abbrev qv_Res : Type := Option Value × qv_Mem
abbrev qv_X : Type := va_G × (Nat → ClassId) × Nat × Nat
abbrev qv_G : Type := Program × Launch × Env × Room × State × MethodId × Array Value × List Frame × Method × Code
def qv_fv (B : Nat) (s : Int32) (e : Option (Option Nat)) : Value := match e with
  | none => .int s
  | some r => va_rf (r.map (fun i => B + i))
def qv_fvs (B : Nat) (s : Nat → Int32) (fs : List (Option (Option Nat))) : List Value := (List.range fs.length).map (fun k => qv_fv B (s k) (fs.getD k none))
def qv_cel (X : qv_X) (e : qv_Ent) (i : Nat → Int32) (l : Nat → Int64) (s : Nat → Int32) : va_E :=
  if e.1 = 20 then .inl (X.2.1 20, e.2.1, .inl i)
  else if e.1 = 21 then .inl (X.2.1 21, e.2.1, .inr (.inl l))
  else if 30 ≤ e.1 then .inl (X.2.1 e.1, e.2.1, .inr (.inr (.inr (.inr (fun j => ((e.2.2.getD j none).getD none).map (fun i => X.2.2.2 + i))))))
  else .inr (e.1, qv_fvs X.2.2.2 s e.2.2)
def qv_Hp (X : qv_X) (T : List qv_Ent) (M : qv_Mem) (H : Heap) : Prop := H.size = X.2.2.2 + T.length ∧ ∀ (id : Nat) (e : qv_Ent), T[id]? = some e → va_at X.1 vwCl (X.2.2.2 + id, qv_cel X e (M.1 id) (M.2.1 id) (M.2.2 id)) H
def qv_tys (X : qv_X) : List (ClassId × FieldType) := [(X.2.1 20, .int), (X.2.1 21, .long), (X.2.1 37, .object RX7), (X.2.1 36, .object RX6)]
def qv_pg (j : Nat) : Int32 := ([0, 2, 3, 4, 5] : List Int32).getD j 0
def qv_A (X : qv_X) : Nat → Prop := fun q => X.2.2.2 ≤ q
def qv_gt : List Cond := lw_tbl.filter goodWord
theorem qv_gin {w : Cond} (i : Nat) (h : lw_tbl[i]? = some w) (hg : goodWord w = true) : w ∈ qv_gt := List.mem_filter.mpr ⟨List.mem_of_getElem? h, hg⟩
theorem qv_gsub {w : Cond} (h : w ∈ qv_gt) : w ∈ lw_tbl := (List.mem_filter.mp h).1
theorem qv_good (w : Cond) (h : w ∈ qv_gt) : w ∈ qv_gt ∧ ((w.onTables && w.keeps) = true ∨ ∃ ty, w = .arrayClass ty) := ⟨h, good_of_word (List.mem_filter.mp h).2⟩
def qv_Kd (X : qv_X) (U : State) (H : Heap) : Prop := va_K X.1 vwCl (qv_tys X) U ∧ va_Z "RootGates$Cliffords" "PLAIN_GATES" "[I" (.ref X.2.2.1) (qv_A X) U H ∧ va_T .int X.2.2.1 5 (fun j => .int (qv_pg j)) (qv_A X) U H ∧ (∀ w ∈ qv_nst, va_Nw w U) ∧ va_AO RX7 U ∧ va_AO RX6 U
theorem qv_Kd.go {X : qv_X} {s U : State} {H H1 : Heap} (h : qv_Kd X s H) (hW : s.WarmedH U.vm) (hq : ∀ a : Nat, a < H.size → ¬ qv_A X a → H1[a]? = H[a]?) : qv_Kd X U H1 := by
  obtain ⟨h1, h2, h3, h4, h5, h6⟩ := h
  refine ⟨va_K.moved hW.alike h1, (va_Z.moved hW.alike h2).kept hq, (va_T.moved hW.alike h3).kept hq, fun w hw => ?_, h5.moved hW.alike, h6.moved hW.alike⟩
  obtain ⟨a, i, x, hh, rfl⟩ := qv_nst_form w hw
  exact va_Nw.warmM hW (h4 _ hw)
def qv_Wd (X : qv_X) (T : List qv_Ent) (M : qv_Mem) (U : State) : Prop := qv_Hp X T M U.heap ∧ qv_Kd X U U.heap
abbrev gp (G : qv_G) : Program := G.1
abbrev gl (G : qv_G) : Launch := G.2.1
abbrev ge (G : qv_G) : Env := G.2.2.1
abbrev gR (G : qv_G) : Room := G.2.2.2.1
abbrev gs (G : qv_G) : State := G.2.2.2.2.1
abbrev gm (G : qv_G) : MethodId := G.2.2.2.2.2.1
abbrev ga (G : qv_G) : Array Value := G.2.2.2.2.2.2.1
abbrev gb (G : qv_G) : List Frame := G.2.2.2.2.2.2.2.1
abbrev gM (G : qv_G) : Method := G.2.2.2.2.2.2.2.2.1
abbrev gc (G : qv_G) : Code := G.2.2.2.2.2.2.2.2.2
def qv_V {α : Type} (G : qv_G) (X : qv_X) (nL : Nat) (Q : α → State → Prop) (T : List qv_Ent) (cs : Nat × Nat) (pc : Nat) (lv : List (Nat × Value)) (st : List Value) (M : qv_Mem) (o : Option α) : Prop :=
  ∀ a : α, o = some a → ∀ (ls : Array Slot) (H : Heap) (locs : List Loc), lv_has ls nL lv → qv_Hp X T M H → va_S (qv_A X) (gs G).heap H locs → W (gp G) (gl G) (ge G) (gR G) (gs G) (gm G) (ga G) (gb G) (gM G) (gc G) H locs cs.1 cs.2 (Q a) (F0 (gm G) pc ls st)
def qv_ok (G : qv_G) (X : qv_X) (cc : ByteArray) (own : String) (nL : Nat) : Prop :=
  (gp G).tables.exec = Jvm.exec ∧ (gc G).code = cc ∧ (gc G).maxLocals = nL ∧ (gs G).vm.findClass own = some (gm G).cls ∧ (∀ w ∈ qv_gt, w.before (ga G) (gs G) = true) ∧ qv_Kd X (gs G) (gs G).heap ∧ X.2.2.2 ≤ (gs G).heap.size ∧ (gM G).locks = false ∧ 1 ≤ (gR G).frames ∧ 64 ≤ (gR G).locals
def qv_inb (i : Int32) (n : Nat) : Bool := !(decide (i < 0) || decide (n ≤ i.toNatClampNeg))
theorem qv_inb_in {i : Int32} {n : Nat} (h : qv_inb i n = true) : vp_in i n := by
  simp only [qv_inb, Bool.not_eq_true', Bool.or_eq_false_iff, decide_eq_false_iff_not] at h
  exact fun q => q.elim h.1 h.2
def qv_lk (lv : List (Nat × Value)) (i : Nat) : Option Value := lv.lookup i
theorem qv_lk_at {ls : Array Slot} {nL : Nat} {lv : List (Nat × Value)} (h : lv_has ls nL lv) {i : Nat} {v : Value} (hk : qv_lk lv i = some v) : ls[i]? = some (.val v) := by
  refine h.2.2 (i, v) ?_
  unfold qv_lk at hk
  induction lv with
  | nil => simp at hk
  | cons q l ih =>
    obtain ⟨j, u⟩ := q
    rw [List.lookup_cons] at hk
    by_cases e : i == j
    · rw [e] at hk
      have e2 : i = j := by simpa using e
      subst e2
      cases hk
      exact List.mem_cons_self
    · have e3 : (i == j) = false := by simpa using e
      rw [e3] at hk
      exact List.mem_cons_of_mem _ (ih ⟨h.1, h.2.1, fun q hq => h.2.2 q (List.mem_cons_of_mem _ hq)⟩ hk)
def qv_s1 (lv : List (Nat × Value)) (i : Nat) (v : Value) : List (Nat × Value) := (i, v) :: lv.filter (fun q => !(q.1 == i) && !(q.1 + 1 == i && q.2.category == 2))
def qv_s2 (lv : List (Nat × Value)) (i : Nat) (v : Value) : List (Nat × Value) := (i, v) :: lv.filter (fun q => !(q.1 == i) && (!(q.1 == i + 1) && !(q.1 + 1 == i && q.2.category == 2)))
/-- a continuation that several branches share -/
def qv_jn {β γ : Type} (k : β) (b : β → γ) : γ := b k
def qv_bo {β α : Type} (o : Option β) (k : β → Option α) : Option α := match o with
  | none => none
  | some b => k b
def qv_bp {β α : Type} (o : Option (β × qv_Mem)) (k : β → qv_Mem → Option α) : Option α := match o with
  | none => none
  | some b => k b.1 b.2
def qv_gd {α : Type} (b : Bool) (o : Option α) : Option α := if b = true then o else none
def qv_upI (M : qv_Mem) (id j : Nat) (v : Int32) : qv_Mem := (fun a b => if a = id ∧ b = j then v else M.1 a b, M.2.1, M.2.2)
def qv_upL (M : qv_Mem) (id j : Nat) (v : Int64) : qv_Mem := (M.1, fun a b => if a = id ∧ b = j then v else M.2.1 a b, M.2.2)
def qv_upS (M : qv_Mem) (id k : Nat) (v : Int32) : qv_Mem := (M.1, M.2.1, fun a b => if a = id ∧ b = k then v else M.2.2 a b)
def qv_cpI (M : qv_Mem) (a0 a1 sp dp n : Nat) : qv_Mem := (fun a b => if a = a1 then va_cpy (M.1 a0) (M.1 a1) sp dp n b else M.1 a b, M.2.1, M.2.2)
def qv_cpL (M : qv_Mem) (a0 a1 sp dp n : Nat) : qv_Mem := (M.1, fun a b => if a = a1 then va_cpy (M.2.1 a0) (M.2.1 a1) sp dp n b else M.2.1 a b, M.2.2)
def qv_ldI {α : Type} (n id : Nat) (i : Int32) (M : qv_Mem) (k : Int32 → Option α) : Option α := if qv_inb i n = true then k (M.1 id i.toNatClampNeg) else none
def qv_ldL {α : Type} (n id : Nat) (i : Int32) (M : qv_Mem) (k : Int64 → Option α) : Option α := if qv_inb i n = true then k (M.2.1 id i.toNatClampNeg) else none
def qv_stI {α : Type} (n id : Nat) (i : Int32) (v : Int32) (M : qv_Mem) (k : qv_Mem → Option α) : Option α := if qv_inb i n = true then k (qv_upI M id i.toNatClampNeg v) else none
def qv_stL {α : Type} (n id : Nat) (i : Int32) (v : Int64) (M : qv_Mem) (k : qv_Mem → Option α) : Option α := if qv_inb i n = true then k (qv_upL M id i.toNatClampNeg v) else none
def qv_ldP {α : Type} (i : Int32) (k : Int32 → Option α) : Option α := if qv_inb i 5 = true then k (qv_pg i.toNatClampNeg) else none
def qv_gS {α : Type} (id f : Nat) (M : qv_Mem) (k : Int32 → Option α) : Option α := k (M.2.2 id f)
def qv_pS {α : Type} (id f : Nat) (v : Int32) (M : qv_Mem) (k : qv_Mem → Option α) : Option α := k (qv_upS M id f v)
def qv_01 (v : Int32) : Bool := decide (v = 0) || decide (v = 1)
def qv_pZ {α : Type} (id f : Nat) (v : Int32) (M : qv_Mem) (k : qv_Mem → Option α) : Option α := if qv_01 v = true then k (qv_upS M id f v) else none
def qv_rf (T : List qv_Ent) (id k : Nat) : Nat := match T[id]? with
  | none => 0
  | some e => (((e.2.2.getD k none).getD none).getD 0)
def qv_cc {α : Type} (n0 a0 : Nat) (sp : Int32) (n1 a1 : Nat) (dp n : Int32) (o : Option α) : Option α := if (qv_inb sp (n0 + 1) && (qv_inb dp (n1 + 1) && (decide (0 ≤ n) && (decide (sp.toNatClampNeg + n.toNatClampNeg ≤ n0) && decide (dp.toNatClampNeg + n.toNatClampNeg ≤ n1))))) = true then o else none
def qv_ki : Nat → Nat → Option (Nat × Nat) := qv_kd
/-- what is known of a cell: its kind, and to a depth n those that it refers to -/
def qv_is : Nat → List qv_Ent → Nat → Nat → Nat → Prop
  | 0, T, c, s, id => ∃ fs, T[id]? = some (c, s, fs)
  | n + 1, T, c, s, id => ∃ fs, T[id]? = some (c, s, fs) ∧ (c = 20 ∨ c = 21 ∨ (fs.length = s ∧ ∀ k, k < s → match qv_kd c k with
    | none => fs[k]? = some none
    | some q => ∃ r, fs[k]? = some (some (some r)) ∧ qv_is n T q.1 q.2 r))
theorem qv_is.sh {n : Nat} {T : List qv_Ent} {c s id : Nat} (h : qv_is n T c s id) : ∃ fs, T[id]? = some (c, s, fs) := by
  cases n with
  | zero => exact h
  | succ n => obtain ⟨fs, h1, -⟩ := h; exact ⟨fs, h1⟩
theorem qv_is.rf {n : Nat} {T : List qv_Ent} {c s id k c' s' : Nat} (h : qv_is (n + 1) T c s id) (hc : c ≠ 20 ∧ c ≠ 21) (hk : k < s) (hq : qv_kd c k = some (c', s')) : (∃ fs, T[id]? = some (c, s, fs) ∧ fs.length = s ∧ fs[k]? = some (some (some (qv_rf T id k)))) ∧ qv_is n T c' s' (qv_rf T id k) := by
  obtain ⟨fs, h1, h2⟩ := h
  rcases h2 with h2 | h2 | ⟨h2, h3⟩
  · exact absurd h2 hc.1
  · exact absurd h2 hc.2
  · have h4 := h3 k hk
    rw [hq] at h4
    obtain ⟨r, h5, h6⟩ := h4
    have e : qv_rf T id k = r := by
      unfold qv_rf
      rw [h1]
      show (((fs.getD k none).getD none).getD 0) = r
      rw [List.getD_eq_getElem?_getD, h5]
      rfl
    rw [e]
    exact ⟨⟨fs, h1, h2, h5⟩, h6⟩
theorem qv_is.to {n : Nat} {T : List qv_Ent} {c s id : Nat} (k : Nat) {c' s' : Nat} (h : qv_is (n + 1) T c s id) (hc : c ≠ 20 ∧ c ≠ 21) (hk : k < s) (hq : qv_kd c k = some (c', s')) : qv_is n T c' s' (qv_rf T id k) := (qv_is.rf h hc hk hq).2
theorem qv_is.sc {n : Nat} {T : List qv_Ent} {c s id k : Nat} (h : qv_is (n + 1) T c s id) (hc : c ≠ 20 ∧ c ≠ 21) (hk : k < s) (hq : qv_kd c k = none) : ∃ fs, T[id]? = some (c, s, fs) ∧ fs.length = s ∧ fs[k]? = some none := by
  obtain ⟨fs, h1, h2⟩ := h
  rcases h2 with h2 | h2 | ⟨h2, h3⟩
  · exact absurd h2 hc.1
  · exact absurd h2 hc.2
  · have h4 := h3 k hk
    rw [hq] at h4
    exact ⟨fs, h1, h2, h4⟩
theorem qv_fvs_len (B : Nat) (s : Nat → Int32) (fs : List (Option (Option Nat))) : (qv_fvs B s fs).length = fs.length := by simp [qv_fvs]
theorem qv_fvs_at {B : Nat} {s : Nat → Int32} {fs : List (Option (Option Nat))} {k : Nat} (h : k < fs.length) : (qv_fvs B s fs)[k]? = some (qv_fv B (s k) (fs.getD k none)) := by
  simp [qv_fvs, h]
theorem qv_cel_i (X : qv_X) (n : Nat) (fs : List (Option (Option Nat))) (i : Nat → Int32) (l : Nat → Int64) (s : Nat → Int32) : qv_cel X (20, n, fs) i l s = .inl (X.2.1 20, n, .inl i) := rfl
theorem qv_cel_l (X : qv_X) (n : Nat) (fs : List (Option (Option Nat))) (i : Nat → Int32) (l : Nat → Int64) (s : Nat → Int32) : qv_cel X (21, n, fs) i l s = .inl (X.2.1 21, n, .inr (.inl l)) := rfl
theorem qv_cel_o (X : qv_X) {c : Nat} (hc : c < 20) (n : Nat) (fs : List (Option (Option Nat))) (i : Nat → Int32) (l : Nat → Int64) (s : Nat → Int32) : qv_cel X (c, n, fs) i l s = .inr (c, qv_fvs X.2.2.2 s fs) := by
  unfold qv_cel
  rw [if_neg (by show ¬ c = 20; omega), if_neg (by show ¬ c = 21; omega), if_neg (by show ¬ 30 ≤ c; omega)]
theorem qv_cel_q (X : qv_X) {c : Nat} (hc : 30 ≤ c) (n : Nat) (fs : List (Option (Option Nat))) (i : Nat → Int32) (l : Nat → Int64) (s : Nat → Int32) : qv_cel X (c, n, fs) i l s = .inl (X.2.1 c, n, .inr (.inr (.inr (.inr (fun j => ((fs.getD j none).getD none).map (fun i => X.2.2.2 + i)))))) := by
  unfold qv_cel
  rw [if_neg (by show ¬ c = 20; omega), if_neg (by show ¬ c = 21; omega), if_pos hc]
/-- one cell alone, as the kit's rows take it -/
theorem qv_Hp.one {X : qv_X} {T : List qv_Ent} {M : qv_Mem} {H : Heap} (h : qv_Hp X T M H) {id : Nat} {e : qv_Ent} (he : T[id]? = some e) : va_P X.1 vwCl [(X.2.2.2 + id, qv_cel X e (M.1 id) (M.2.1 id) (M.2.2 id))] H := by
  intro k q hk
  have hz : k < 1 := (List.getElem?_eq_some_iff.mp hk).1
  have hk0 : k = 0 := by omega
  subst hk0
  cases hk
  exact h.2 id e he
/-- a cell is written: the others stay -/
theorem qv_Hp.wr {X : qv_X} {T : List qv_Ent} {M M1 : qv_Mem} {H H1 : Heap} (h : qv_Hp X T M H) {id : Nat} (hz : H1.size = H.size) (ho : ∀ q : Nat, q ≠ X.2.2.2 + id → H1[q]? = H[q]?) (hm : ∀ a, a ≠ id → M1.1 a = M.1 a ∧ M1.2.1 a = M.2.1 a ∧ M1.2.2 a = M.2.2 a) (hn : ∀ e, T[id]? = some e → va_at X.1 vwCl (X.2.2.2 + id, qv_cel X e (M1.1 id) (M1.2.1 id) (M1.2.2 id)) H1) : qv_Hp X T M1 H1 := by
  refine ⟨by rw [hz]; exact h.1, fun a e he => ?_⟩
  by_cases ha : a = id
  · subst ha
    exact hn e he
  · obtain ⟨m1, m2, m3⟩ := hm a ha
    rw [m1, m2, m3]
    exact (h.2 a e he).kept (ho _ (by show X.2.2.2 + a ≠ X.2.2.2 + id; omega))
section QV
variable {α : Type} {G : qv_G} {X : qv_X} {nL : Nat} {Q : α → State → Prop} {T : List qv_Ent} {cs : Nat × Nat} {pc : Nat} {lv : List (Nat × Value)} {st : List Value} {M : qv_Mem} {o o1 o2 : Option α} {cc : ByteArray} {own : String}
theorem qv_none : qv_V G X nL Q T cs pc lv st M none := fun a h => by cases h
theorem qv_eq (h : o = o1) (k : qv_V G X nL Q T cs pc lv st M o1) : qv_V G X nL Q T cs pc lv st M o := by rw [h]; exact k
theorem qv_lv {lv1 : List (Nat × Value)} (ks : List Nat) (h : lv_pick lv ks = lv1) (k : qv_V G X nL Q T cs pc lv1 st M o) : qv_V G X nL Q T cs pc lv st M o := fun a ha ls H locs h1 h2 h3 => k a ha ls H locs (lv_sub h1 ks h) h2 h3
theorem qv_ite {c : Prop} (d : Decidable c) (k1 : c → qv_V G X nL Q T cs pc lv st M o1) (k2 : ¬ c → qv_V G X nL Q T cs pc lv st M o2) : qv_V G X nL Q T cs pc lv st M (@ite _ c d o1 o2) := by
  by_cases h : c
  · rw [if_pos h]; exact k1 h
  · rw [if_neg h]; exact k2 h
theorem qv_join {β : Type} {k : β} {b : β → Option α} (P : β → Prop) (hk : P k) (hb : ∀ k1, P k1 → qv_V G X nL Q T cs pc lv st M (b k1)) : qv_V G X nL Q T cs pc lv st M (qv_jn k b) := hb k hk

theorem qv_iconst (g : qv_ok G X cc own nL) {n : Int} {v : Int32} (hd : decode cc pc = .ok (.iconst n, 1)) (hv : Int32.ofInt n = v) (k : qv_V G X nL Q T cs (pc + 1) lv (.int v :: st) M o) : qv_V G X nL Q T cs pc lv (st) M o := fun a ha ls H locs h1 h2 h3 => lv_iconst g.1 g.2.1 hd hv (k a ha ls H locs h1 h2 h3)
theorem qv_bipush (g : qv_ok G X cc own nL) {n : Int} {v : Int32} (hd : decode cc pc = .ok (.bipush n, 2)) (hv : (Int8.ofInt n).toInt32 = v) (k : qv_V G X nL Q T cs (pc + 2) lv (.int v :: st) M o) : qv_V G X nL Q T cs pc lv (st) M o := fun a ha ls H locs h1 h2 h3 => lv_bipush g.1 g.2.1 hd hv (k a ha ls H locs h1 h2 h3)
theorem qv_sipush (g : qv_ok G X cc own nL) {n : Int} {v : Int32} (hd : decode cc pc = .ok (.sipush n, 3)) (hv : (Int16.ofInt n).toInt32 = v) (k : qv_V G X nL Q T cs (pc + 3) lv (.int v :: st) M o) : qv_V G X nL Q T cs pc lv (st) M o := fun a ha ls H locs h1 h2 h3 => lv_sipush g.1 g.2.1 hd hv (k a ha ls H locs h1 h2 h3)
theorem qv_lconst (g : qv_ok G X cc own nL) {n : Fin 2} {v : Int64} (hd : decode cc pc = .ok (.lconst n, 1)) (hv : Int64.ofNat (n : Nat) = v) (k : qv_V G X nL Q T cs (pc + 1) lv (.long v :: st) M o) : qv_V G X nL Q T cs pc lv (st) M o := fun a ha ls H locs h1 h2 h3 => lv_lconst g.1 g.2.1 hd hv (k a ha ls H locs h1 h2 h3)
theorem qv_iload_n (g : qv_ok G X cc own nL) {k : Fin 4} {i : Nat} {x : Int32} (hd : decode cc pc = .ok (.iload_n k, 1)) (hi : (k : Nat) = i) (hl : qv_lk lv i = some (.int x)) (kk : qv_V G X nL Q T cs (pc + 1) lv (.int x :: st) M o) : qv_V G X nL Q T cs pc lv st M o := fun a ha ls H locs h1 h2 h3 => lv_iload_n g.1 g.2.1 hd hi (qv_lk_at h1 hl) (kk a ha ls H locs h1 h2 h3)
theorem qv_iload (g : qv_ok G X cc own nL) {i : Nat} {x : Int32} (hd : decode cc pc = .ok (.iload i, 2)) (hl : qv_lk lv i = some (.int x)) (kk : qv_V G X nL Q T cs (pc + 2) lv (.int x :: st) M o) : qv_V G X nL Q T cs pc lv st M o := fun a ha ls H locs h1 h2 h3 => lv_iload g.1 g.2.1 hd (qv_lk_at h1 hl) (kk a ha ls H locs h1 h2 h3)
theorem qv_istore_n (g : qv_ok G X cc own nL) {k : Fin 4} {i : Nat} {x : Int32} {lv1 : List (Nat × Value)} (hd : decode cc pc = .ok (.istore_n k, 1)) (hi : (k : Nat) = i) (hn : i < nL) (hl : qv_s1 lv i (.int x) = lv1) (kk : qv_V G X nL Q T cs (pc + 1) lv1 st M o) : qv_V G X nL Q T cs pc lv (.int x :: st) M o := fun a ha ls H locs h1 h2 h3 => lv_istore_n g.1 g.2.1 hd hi h1 hn hl (fun ls1 h4 => kk a ha ls1 H locs h4 h2 h3)
theorem qv_istore (g : qv_ok G X cc own nL) {i : Nat} {x : Int32} {lv1 : List (Nat × Value)} (hd : decode cc pc = .ok (.istore i, 2)) (hn : i < nL) (hl : qv_s1 lv i (.int x) = lv1) (kk : qv_V G X nL Q T cs (pc + 2) lv1 st M o) : qv_V G X nL Q T cs pc lv (.int x :: st) M o := fun a ha ls H locs h1 h2 h3 => lv_istore g.1 g.2.1 hd h1 hn hl (fun ls1 h4 => kk a ha ls1 H locs h4 h2 h3)
theorem qv_lload_n (g : qv_ok G X cc own nL) {k : Fin 4} {i : Nat} {x : Int64} (hd : decode cc pc = .ok (.lload_n k, 1)) (hi : (k : Nat) = i) (hl : qv_lk lv i = some (.long x)) (kk : qv_V G X nL Q T cs (pc + 1) lv (.long x :: st) M o) : qv_V G X nL Q T cs pc lv st M o := fun a ha ls H locs h1 h2 h3 => lv_lload_n g.1 g.2.1 hd hi (qv_lk_at h1 hl) (kk a ha ls H locs h1 h2 h3)
theorem qv_lload (g : qv_ok G X cc own nL) {i : Nat} {x : Int64} (hd : decode cc pc = .ok (.lload i, 2)) (hl : qv_lk lv i = some (.long x)) (kk : qv_V G X nL Q T cs (pc + 2) lv (.long x :: st) M o) : qv_V G X nL Q T cs pc lv st M o := fun a ha ls H locs h1 h2 h3 => lv_lload g.1 g.2.1 hd (qv_lk_at h1 hl) (kk a ha ls H locs h1 h2 h3)
theorem qv_lstore_n (g : qv_ok G X cc own nL) {k : Fin 4} {i : Nat} {x : Int64} {lv1 : List (Nat × Value)} (hd : decode cc pc = .ok (.lstore_n k, 1)) (hi : (k : Nat) = i) (hn : i + 1 < nL) (hl : qv_s2 lv i (.long x) = lv1) (kk : qv_V G X nL Q T cs (pc + 1) lv1 st M o) : qv_V G X nL Q T cs pc lv (.long x :: st) M o := fun a ha ls H locs h1 h2 h3 => lv_lstore_n g.1 g.2.1 hd hi h1 hn hl (fun ls1 h4 => kk a ha ls1 H locs h4 h2 h3)
theorem qv_lstore (g : qv_ok G X cc own nL) {i : Nat} {x : Int64} {lv1 : List (Nat × Value)} (hd : decode cc pc = .ok (.lstore i, 2)) (hn : i + 1 < nL) (hl : qv_s2 lv i (.long x) = lv1) (kk : qv_V G X nL Q T cs (pc + 2) lv1 st M o) : qv_V G X nL Q T cs pc lv (.long x :: st) M o := fun a ha ls H locs h1 h2 h3 => lv_lstore g.1 g.2.1 hd h1 hn hl (fun ls1 h4 => kk a ha ls1 H locs h4 h2 h3)
theorem qv_aload_n (g : qv_ok G X cc own nL) {k : Fin 4} {i : Nat} {x : Nat} (hd : decode cc pc = .ok (.aload_n k, 1)) (hi : (k : Nat) = i) (hl : qv_lk lv i = some (.ref x)) (kk : qv_V G X nL Q T cs (pc + 1) lv (.ref x :: st) M o) : qv_V G X nL Q T cs pc lv st M o := fun a ha ls H locs h1 h2 h3 => lv_aload_n g.1 g.2.1 hd hi (qv_lk_at h1 hl) (kk a ha ls H locs h1 h2 h3)
theorem qv_aload (g : qv_ok G X cc own nL) {i : Nat} {x : Nat} (hd : decode cc pc = .ok (.aload i, 2)) (hl : qv_lk lv i = some (.ref x)) (kk : qv_V G X nL Q T cs (pc + 2) lv (.ref x :: st) M o) : qv_V G X nL Q T cs pc lv st M o := fun a ha ls H locs h1 h2 h3 => lv_aload g.1 g.2.1 hd (qv_lk_at h1 hl) (kk a ha ls H locs h1 h2 h3)
theorem qv_astore_n (g : qv_ok G X cc own nL) {k : Fin 4} {i : Nat} {x : Nat} {lv1 : List (Nat × Value)} (hd : decode cc pc = .ok (.astore_n k, 1)) (hi : (k : Nat) = i) (hn : i < nL) (hl : qv_s1 lv i (.ref x) = lv1) (kk : qv_V G X nL Q T cs (pc + 1) lv1 st M o) : qv_V G X nL Q T cs pc lv (.ref x :: st) M o := fun a ha ls H locs h1 h2 h3 => lv_astore_n g.1 g.2.1 hd hi h1 hn hl (fun ls1 h4 => kk a ha ls1 H locs h4 h2 h3)
theorem qv_astore (g : qv_ok G X cc own nL) {i : Nat} {x : Nat} {lv1 : List (Nat × Value)} (hd : decode cc pc = .ok (.astore i, 2)) (hn : i < nL) (hl : qv_s1 lv i (.ref x) = lv1) (kk : qv_V G X nL Q T cs (pc + 2) lv1 st M o) : qv_V G X nL Q T cs pc lv (.ref x :: st) M o := fun a ha ls H locs h1 h2 h3 => lv_astore g.1 g.2.1 hd h1 hn hl (fun ls1 h4 => kk a ha ls1 H locs h4 h2 h3)
theorem qv_lk_mem {lv : List (Nat × Value)} {i : Nat} {v : Value} (hk : qv_lk lv i = some v) : ∃ k : Nat, lv[k]? = some (i, v) := by
  unfold qv_lk at hk
  induction lv with
  | nil => simp at hk
  | cons q l ih =>
    obtain ⟨j, u⟩ := q
    rw [List.lookup_cons] at hk
    by_cases e : i == j
    · rw [e] at hk
      have e2 : i = j := by simpa using e
      subst e2
      cases hk
      exact ⟨0, rfl⟩
    · have e3 : (i == j) = false := by simpa using e
      rw [e3] at hk
      obtain ⟨k, h⟩ := ih hk
      exact ⟨k + 1, h⟩
theorem qv_iinc (g : qv_ok G X cc own nL) {i : Nat} {n : Int} {x v : Int32} {lv1 : List (Nat × Value)} (hd : decode cc pc = .ok (.iinc i n, 3)) (hk : qv_lk lv i = some (.int x)) (hv : x + Int32.ofInt n = v) (hn : i < nL) (hl : qv_s1 lv i (.int v) = lv1) (kk : qv_V G X nL Q T cs (pc + 3) lv1 st M o) : qv_V G X nL Q T cs pc lv st M o := by
  intro a ha ls H locs h1 h2 h3
  obtain ⟨k, hk1⟩ := qv_lk_mem hk
  exact lv_iinc g.1 g.2.1 hd h1 hk1 hv hn hl (fun ls1 h4 => kk a ha ls1 H locs h4 h2 h3)
theorem qv_iadd (g : qv_ok G X cc own nL) {x y : Int32} (hd : decode cc pc = .ok (.iadd, 1)) (k : qv_V G X nL Q T cs (pc + 1) lv (.int (x + y) :: st) M o) : qv_V G X nL Q T cs pc lv (.int y :: .int x :: st) M o := fun a ha ls H locs h1 h2 h3 => lv_iadd g.1 g.2.1 hd (k a ha ls H locs h1 h2 h3)
theorem qv_isub (g : qv_ok G X cc own nL) {x y : Int32} (hd : decode cc pc = .ok (.isub, 1)) (k : qv_V G X nL Q T cs (pc + 1) lv (.int (x - y) :: st) M o) : qv_V G X nL Q T cs pc lv (.int y :: .int x :: st) M o := fun a ha ls H locs h1 h2 h3 => lv_isub g.1 g.2.1 hd (k a ha ls H locs h1 h2 h3)
theorem qv_imul (g : qv_ok G X cc own nL) {x y : Int32} (hd : decode cc pc = .ok (.imul, 1)) (k : qv_V G X nL Q T cs (pc + 1) lv (.int (x * y) :: st) M o) : qv_V G X nL Q T cs pc lv (.int y :: .int x :: st) M o := fun a ha ls H locs h1 h2 h3 => lv_imul g.1 g.2.1 hd (k a ha ls H locs h1 h2 h3)
theorem qv_iand (g : qv_ok G X cc own nL) {x y : Int32} (hd : decode cc pc = .ok (.iand, 1)) (k : qv_V G X nL Q T cs (pc + 1) lv (.int (x &&& y) :: st) M o) : qv_V G X nL Q T cs pc lv (.int y :: .int x :: st) M o := fun a ha ls H locs h1 h2 h3 => lv_iand g.1 g.2.1 hd (k a ha ls H locs h1 h2 h3)
theorem qv_ior (g : qv_ok G X cc own nL) {x y : Int32} (hd : decode cc pc = .ok (.ior, 1)) (k : qv_V G X nL Q T cs (pc + 1) lv (.int (x ||| y) :: st) M o) : qv_V G X nL Q T cs pc lv (.int y :: .int x :: st) M o := fun a ha ls H locs h1 h2 h3 => lv_ior g.1 g.2.1 hd (k a ha ls H locs h1 h2 h3)
theorem qv_ishl (g : qv_ok G X cc own nL) {x y : Int32} (hd : decode cc pc = .ok (.ishl, 1)) (k : qv_V G X nL Q T cs (pc + 1) lv (.int (x <<< (y &&& 31)) :: st) M o) : qv_V G X nL Q T cs pc lv (.int y :: .int x :: st) M o := fun a ha ls H locs h1 h2 h3 => lv_ishl g.1 g.2.1 hd (k a ha ls H locs h1 h2 h3)
theorem qv_idiv (g : qv_ok G X cc own nL) {x y : Int32} (hd : decode cc pc = .ok (.idiv, 1)) (hne : ¬ y = 0) (k : qv_V G X nL Q T cs (pc + 1) lv (.int (x / y) :: st) M o) : qv_V G X nL Q T cs pc lv (.int y :: .int x :: st) M o := fun a ha ls H locs h1 h2 h3 => lv_idiv g.1 g.2.1 hd hne (k a ha ls H locs h1 h2 h3)
theorem qv_irem (g : qv_ok G X cc own nL) {x y : Int32} (hd : decode cc pc = .ok (.irem, 1)) (hne : ¬ y = 0) (k : qv_V G X nL Q T cs (pc + 1) lv (.int (x - x / y * y) :: st) M o) : qv_V G X nL Q T cs pc lv (.int y :: .int x :: st) M o := fun a ha ls H locs h1 h2 h3 => lv_irem g.1 g.2.1 hd hne (k a ha ls H locs h1 h2 h3)
theorem qv_ladd (g : qv_ok G X cc own nL) {x y : Int64} (hd : decode cc pc = .ok (.ladd, 1)) (k : qv_V G X nL Q T cs (pc + 1) lv (.long (x + y) :: st) M o) : qv_V G X nL Q T cs pc lv (.long y :: .long x :: st) M o := fun a ha ls H locs h1 h2 h3 => lv_ladd g.1 g.2.1 hd (k a ha ls H locs h1 h2 h3)
theorem qv_lsub (g : qv_ok G X cc own nL) {x y : Int64} (hd : decode cc pc = .ok (.lsub, 1)) (k : qv_V G X nL Q T cs (pc + 1) lv (.long (x - y) :: st) M o) : qv_V G X nL Q T cs pc lv (.long y :: .long x :: st) M o := fun a ha ls H locs h1 h2 h3 => lv_lsub g.1 g.2.1 hd (k a ha ls H locs h1 h2 h3)
theorem qv_lmul (g : qv_ok G X cc own nL) {x y : Int64} (hd : decode cc pc = .ok (.lmul, 1)) (k : qv_V G X nL Q T cs (pc + 1) lv (.long (x * y) :: st) M o) : qv_V G X nL Q T cs pc lv (.long y :: .long x :: st) M o := fun a ha ls H locs h1 h2 h3 => lv_lmul g.1 g.2.1 hd (k a ha ls H locs h1 h2 h3)
theorem qv_land (g : qv_ok G X cc own nL) {x y : Int64} (hd : decode cc pc = .ok (.land, 1)) (k : qv_V G X nL Q T cs (pc + 1) lv (.long (x &&& y) :: st) M o) : qv_V G X nL Q T cs pc lv (.long y :: .long x :: st) M o := fun a ha ls H locs h1 h2 h3 => lv_land g.1 g.2.1 hd (k a ha ls H locs h1 h2 h3)
theorem qv_ldiv (g : qv_ok G X cc own nL) {x y : Int64} (hd : decode cc pc = .ok (.ldiv, 1)) (hne : ¬ y = 0) (k : qv_V G X nL Q T cs (pc + 1) lv (.long (x / y) :: st) M o) : qv_V G X nL Q T cs pc lv (.long y :: .long x :: st) M o := fun a ha ls H locs h1 h2 h3 => lv_ldiv g.1 g.2.1 hd hne (k a ha ls H locs h1 h2 h3)
theorem qv_lrem (g : qv_ok G X cc own nL) {x y : Int64} (hd : decode cc pc = .ok (.lrem, 1)) (hne : ¬ y = 0) (k : qv_V G X nL Q T cs (pc + 1) lv (.long (x - x / y * y) :: st) M o) : qv_V G X nL Q T cs pc lv (.long y :: .long x :: st) M o := fun a ha ls H locs h1 h2 h3 => lv_lrem g.1 g.2.1 hd hne (k a ha ls H locs h1 h2 h3)
theorem qv_lneg (g : qv_ok G X cc own nL) {x : Int64} (hd : decode cc pc = .ok (.lneg, 1)) (k : qv_V G X nL Q T cs (pc + 1) lv (.long (-x) :: st) M o) : qv_V G X nL Q T cs pc lv (.long x :: st) M o := fun a ha ls H locs h1 h2 h3 => lv_lneg g.1 g.2.1 hd (k a ha ls H locs h1 h2 h3)
theorem qv_lcmp (g : qv_ok G X cc own nL) {x y : Int64} (hd : decode cc pc = .ok (.lcmp, 1)) (k : qv_V G X nL Q T cs (pc + 1) lv (.int (lg_cmp x y) :: st) M o) : qv_V G X nL Q T cs pc lv (.long y :: .long x :: st) M o := fun a ha ls H locs h1 h2 h3 => W.lcmp g.1 g.2.1 hd (k a ha ls H locs h1 h2 h3)
theorem qv_i2l (g : qv_ok G X cc own nL) {x : Int32} (hd : decode cc pc = .ok (.i2l, 1)) (k : qv_V G X nL Q T cs (pc + 1) lv (.long x.toInt64 :: st) M o) : qv_V G X nL Q T cs pc lv (.int x :: st) M o := fun a ha ls H locs h1 h2 h3 => lv_i2l g.1 g.2.1 hd rfl (k a ha ls H locs h1 h2 h3)
theorem qv_l2i (g : qv_ok G X cc own nL) {x : Int64} (hd : decode cc pc = .ok (.l2i, 1)) (k : qv_V G X nL Q T cs (pc + 1) lv (.int x.toInt32 :: st) M o) : qv_V G X nL Q T cs pc lv (.long x :: st) M o := fun a ha ls H locs h1 h2 h3 => lv_l2i g.1 g.2.1 hd rfl (k a ha ls H locs h1 h2 h3)
theorem qv_dup (g : qv_ok G X cc own nL) {va : Value} (hd : decode cc pc = .ok (.dup, 1)) (hva : va.category = 1) (k : qv_V G X nL Q T cs (pc + 1) lv (va :: va :: st) M o) : qv_V G X nL Q T cs pc lv (va :: st) M o := fun a ha ls H locs h1 h2 h3 => lv_dup g.1 g.2.1 hd hva (k a ha ls H locs h1 h2 h3)
theorem qv_pop (g : qv_ok G X cc own nL) {va : Value} (hd : decode cc pc = .ok (.pop, 1)) (hva : va.category = 1) (k : qv_V G X nL Q T cs (pc + 1) lv (st) M o) : qv_V G X nL Q T cs pc lv (va :: st) M o := fun a ha ls H locs h1 h2 h3 => lv_pop g.1 g.2.1 hd hva (k a ha ls H locs h1 h2 h3)
theorem qv_dup2 (g : qv_ok G X cc own nL) {va vb : Value} (hd : decode cc pc = .ok (.dup2, 1)) (hva : va.category = 1) (hvb : vb.category = 1) (k : qv_V G X nL Q T cs (pc + 1) lv (va :: vb :: va :: vb :: st) M o) : qv_V G X nL Q T cs pc lv (va :: vb :: st) M o := fun a ha ls H locs h1 h2 h3 => lv_dup2_11 g.1 g.2.1 hd hva hvb (k a ha ls H locs h1 h2 h3)
theorem qv_if_eq (g : qv_ok G X cc own nL) {x : Int32} {off : Int} {tgt : Nat} (hd : decode cc pc = .ok (.ifCond .eq off, 3)) (ht : (pc : Int) + off = (tgt : Int)) (k1 : qv_V G X nL Q T cs tgt lv st M o1) (k2 : qv_V G X nL Q T cs (pc + 3) lv st M o2) : qv_V G X nL Q T cs pc lv (.int x :: st) M (if x = 0 then o1 else o2) := fun a ha ls H locs h1 h2 h3 => lv_if_eq g.1 g.2.1 hd ht (fun c => k1 a (by rw [if_pos c] at ha; exact ha) ls H locs h1 h2 h3) (fun c => k2 a (by rw [if_neg c] at ha; exact ha) ls H locs h1 h2 h3)
theorem qv_icmp_eq (g : qv_ok G X cc own nL) {x y : Int32} {off : Int} {tgt : Nat} (hd : decode cc pc = .ok (.if_icmp .eq off, 3)) (ht : (pc : Int) + off = (tgt : Int)) (k1 : qv_V G X nL Q T cs tgt lv st M o1) (k2 : qv_V G X nL Q T cs (pc + 3) lv st M o2) : qv_V G X nL Q T cs pc lv (.int y :: .int x :: st) M (if x = y then o1 else o2) := fun a ha ls H locs h1 h2 h3 => lv_icmp_eq g.1 g.2.1 hd ht (fun c => k1 a (by rw [if_pos c] at ha; exact ha) ls H locs h1 h2 h3) (fun c => k2 a (by rw [if_neg c] at ha; exact ha) ls H locs h1 h2 h3)
theorem qv_if_ne (g : qv_ok G X cc own nL) {x : Int32} {off : Int} {tgt : Nat} (hd : decode cc pc = .ok (.ifCond .ne off, 3)) (ht : (pc : Int) + off = (tgt : Int)) (k1 : qv_V G X nL Q T cs tgt lv st M o1) (k2 : qv_V G X nL Q T cs (pc + 3) lv st M o2) : qv_V G X nL Q T cs pc lv (.int x :: st) M (if x = 0 then o2 else o1) := fun a ha ls H locs h1 h2 h3 => lv_if_ne g.1 g.2.1 hd ht (fun c => k1 a (by rw [if_neg c] at ha; exact ha) ls H locs h1 h2 h3) (fun c => k2 a (by rw [if_pos c] at ha; exact ha) ls H locs h1 h2 h3)
theorem qv_icmp_ne (g : qv_ok G X cc own nL) {x y : Int32} {off : Int} {tgt : Nat} (hd : decode cc pc = .ok (.if_icmp .ne off, 3)) (ht : (pc : Int) + off = (tgt : Int)) (k1 : qv_V G X nL Q T cs tgt lv st M o1) (k2 : qv_V G X nL Q T cs (pc + 3) lv st M o2) : qv_V G X nL Q T cs pc lv (.int y :: .int x :: st) M (if x = y then o2 else o1) := fun a ha ls H locs h1 h2 h3 => lv_icmp_ne g.1 g.2.1 hd ht (fun c => k1 a (by rw [if_neg c] at ha; exact ha) ls H locs h1 h2 h3) (fun c => k2 a (by rw [if_pos c] at ha; exact ha) ls H locs h1 h2 h3)
theorem qv_if_lt (g : qv_ok G X cc own nL) {x : Int32} {off : Int} {tgt : Nat} (hd : decode cc pc = .ok (.ifCond .lt off, 3)) (ht : (pc : Int) + off = (tgt : Int)) (k1 : qv_V G X nL Q T cs tgt lv st M o1) (k2 : qv_V G X nL Q T cs (pc + 3) lv st M o2) : qv_V G X nL Q T cs pc lv (.int x :: st) M (if x < 0 then o1 else o2) := fun a ha ls H locs h1 h2 h3 => lv_if_lt g.1 g.2.1 hd ht (fun c => k1 a (by rw [if_pos c] at ha; exact ha) ls H locs h1 h2 h3) (fun c => k2 a (by rw [if_neg c] at ha; exact ha) ls H locs h1 h2 h3)
theorem qv_icmp_lt (g : qv_ok G X cc own nL) {x y : Int32} {off : Int} {tgt : Nat} (hd : decode cc pc = .ok (.if_icmp .lt off, 3)) (ht : (pc : Int) + off = (tgt : Int)) (k1 : qv_V G X nL Q T cs tgt lv st M o1) (k2 : qv_V G X nL Q T cs (pc + 3) lv st M o2) : qv_V G X nL Q T cs pc lv (.int y :: .int x :: st) M (if x < y then o1 else o2) := fun a ha ls H locs h1 h2 h3 => lv_icmp_lt g.1 g.2.1 hd ht (fun c => k1 a (by rw [if_pos c] at ha; exact ha) ls H locs h1 h2 h3) (fun c => k2 a (by rw [if_neg c] at ha; exact ha) ls H locs h1 h2 h3)
theorem qv_if_ge (g : qv_ok G X cc own nL) {x : Int32} {off : Int} {tgt : Nat} (hd : decode cc pc = .ok (.ifCond .ge off, 3)) (ht : (pc : Int) + off = (tgt : Int)) (k1 : qv_V G X nL Q T cs tgt lv st M o1) (k2 : qv_V G X nL Q T cs (pc + 3) lv st M o2) : qv_V G X nL Q T cs pc lv (.int x :: st) M (if 0 ≤ x then o1 else o2) := fun a ha ls H locs h1 h2 h3 => lv_if_ge g.1 g.2.1 hd ht (fun c => k1 a (by rw [if_pos c] at ha; exact ha) ls H locs h1 h2 h3) (fun c => k2 a (by rw [if_neg c] at ha; exact ha) ls H locs h1 h2 h3)
theorem qv_icmp_ge (g : qv_ok G X cc own nL) {x y : Int32} {off : Int} {tgt : Nat} (hd : decode cc pc = .ok (.if_icmp .ge off, 3)) (ht : (pc : Int) + off = (tgt : Int)) (k1 : qv_V G X nL Q T cs tgt lv st M o1) (k2 : qv_V G X nL Q T cs (pc + 3) lv st M o2) : qv_V G X nL Q T cs pc lv (.int y :: .int x :: st) M (if y ≤ x then o1 else o2) := fun a ha ls H locs h1 h2 h3 => lv_icmp_ge g.1 g.2.1 hd ht (fun c => k1 a (by rw [if_pos c] at ha; exact ha) ls H locs h1 h2 h3) (fun c => k2 a (by rw [if_neg c] at ha; exact ha) ls H locs h1 h2 h3)
theorem qv_if_gt (g : qv_ok G X cc own nL) {x : Int32} {off : Int} {tgt : Nat} (hd : decode cc pc = .ok (.ifCond .gt off, 3)) (ht : (pc : Int) + off = (tgt : Int)) (k1 : qv_V G X nL Q T cs tgt lv st M o1) (k2 : qv_V G X nL Q T cs (pc + 3) lv st M o2) : qv_V G X nL Q T cs pc lv (.int x :: st) M (if 0 < x then o1 else o2) := fun a ha ls H locs h1 h2 h3 => lv_if_gt g.1 g.2.1 hd ht (fun c => k1 a (by rw [if_pos c] at ha; exact ha) ls H locs h1 h2 h3) (fun c => k2 a (by rw [if_neg c] at ha; exact ha) ls H locs h1 h2 h3)
theorem qv_icmp_gt (g : qv_ok G X cc own nL) {x y : Int32} {off : Int} {tgt : Nat} (hd : decode cc pc = .ok (.if_icmp .gt off, 3)) (ht : (pc : Int) + off = (tgt : Int)) (k1 : qv_V G X nL Q T cs tgt lv st M o1) (k2 : qv_V G X nL Q T cs (pc + 3) lv st M o2) : qv_V G X nL Q T cs pc lv (.int y :: .int x :: st) M (if y < x then o1 else o2) := fun a ha ls H locs h1 h2 h3 => lv_icmp_gt g.1 g.2.1 hd ht (fun c => k1 a (by rw [if_pos c] at ha; exact ha) ls H locs h1 h2 h3) (fun c => k2 a (by rw [if_neg c] at ha; exact ha) ls H locs h1 h2 h3)
theorem qv_if_le (g : qv_ok G X cc own nL) {x : Int32} {off : Int} {tgt : Nat} (hd : decode cc pc = .ok (.ifCond .le off, 3)) (ht : (pc : Int) + off = (tgt : Int)) (k1 : qv_V G X nL Q T cs tgt lv st M o1) (k2 : qv_V G X nL Q T cs (pc + 3) lv st M o2) : qv_V G X nL Q T cs pc lv (.int x :: st) M (if x ≤ 0 then o1 else o2) := fun a ha ls H locs h1 h2 h3 => lv_if_le g.1 g.2.1 hd ht (fun c => k1 a (by rw [if_pos c] at ha; exact ha) ls H locs h1 h2 h3) (fun c => k2 a (by rw [if_neg c] at ha; exact ha) ls H locs h1 h2 h3)
theorem qv_icmp_le (g : qv_ok G X cc own nL) {x y : Int32} {off : Int} {tgt : Nat} (hd : decode cc pc = .ok (.if_icmp .le off, 3)) (ht : (pc : Int) + off = (tgt : Int)) (k1 : qv_V G X nL Q T cs tgt lv st M o1) (k2 : qv_V G X nL Q T cs (pc + 3) lv st M o2) : qv_V G X nL Q T cs pc lv (.int y :: .int x :: st) M (if x ≤ y then o1 else o2) := fun a ha ls H locs h1 h2 h3 => lv_icmp_le g.1 g.2.1 hd ht (fun c => k1 a (by rw [if_pos c] at ha; exact ha) ls H locs h1 h2 h3) (fun c => k2 a (by rw [if_neg c] at ha; exact ha) ls H locs h1 h2 h3)
theorem qv_goto (g : qv_ok G X cc own nL) {off : Int} {tgt : Nat} (hd : decode cc pc = .ok (.goto off, 3)) (ht : (pc : Int) + off = (tgt : Int)) (k : qv_V G X nL Q T cs tgt lv st M o) : qv_V G X nL Q T cs pc lv st M o := fun a ha ls H locs h1 h2 h3 => lv_goto g.1 g.2.1 hd ht (k a ha ls H locs h1 h2 h3)
theorem qv_tabO (g : qv_ok G X cc own nL) {dflt lo hi : Int} {offs : Array Int} {len : Nat} {x : Int32} {tgt : Nat} (hd : decode cc pc = .ok (.tableswitch dflt lo hi offs, len)) (h : x.toInt < lo ∨ hi < x.toInt) (ht : (pc : Int) + dflt = (tgt : Int)) (k : qv_V G X nL Q T cs tgt lv st M o) : qv_V G X nL Q T cs pc lv (.int x :: st) M o := fun a ha ls H locs h1 h2 h3 => lv_tableOut g.1 g.2.1 hd h ht (k a ha ls H locs h1 h2 h3)
theorem qv_tabI (g : qv_ok G X cc own nL) {dflt lo hi : Int} {offs : Array Int} {len : Nat} {x : Int32} {off : Int} {tgt : Nat} (hd : decode cc pc = .ok (.tableswitch dflt lo hi offs, len)) (h1 : ¬ x.toInt < lo) (h2 : ¬ hi < x.toInt) (ho : offs[(x.toInt - lo).toNat]? = some off) (ht : (pc : Int) + off = (tgt : Int)) (k : qv_V G X nL Q T cs tgt lv st M o) : qv_V G X nL Q T cs pc lv (.int x :: st) M o := fun a ha ls H locs i1 i2 i3 => lv_tableIn g.1 g.2.1 hd h1 h2 ho ht (k a ha ls H locs i1 i2 i3)
theorem qv_look (g : qv_ok G X cc own nL) {dflt : Int} {ps : Array (Int × Int)} {len : Nat} {x : Int32} {off : Int} {tgt : Nat} (hd : decode cc pc = .ok (.lookupswitch dflt ps, len)) (hp : (ps.toList.zip (ps.toList.drop 1)).all (fun (a, next) => a.1 < next.1) = true) (ho : Op.lookupswitch.offset ps.toList dflt x.toInt = off) (ht : (pc : Int) + off = (tgt : Int)) (k : qv_V G X nL Q T cs tgt lv st M o) : qv_V G X nL Q T cs pc lv (.int x :: st) M o := fun a ha ls H locs i1 i2 i3 => lv_lookup g.1 g.2.1 hd hp ho ht (k a ha ls H locs i1 i2 i3)
theorem qv_ldc (g : qv_ok G X cc own nL) {index : Nat} {v : Int32} (hw : Cond.constant own index v ∈ qv_gt) (hd : decode cc pc = .ok (.ldc index, 2)) (k : qv_V G X nL Q T cs (pc + 2) lv (.int v :: st) M o) : qv_V G X nL Q T cs pc lv st M o := fun a ha ls H locs h1 h2 h3 => lv_ldc g.1 g.2.1 g.2.2.2.1 (g.2.2.2.2.1 _ hw) hd (k a ha ls H locs h1 h2 h3)
theorem qv_ldc2 (g : qv_ok G X cc own nL) {index : Nat} {v : Int64} (hw : Cond.constantLong own index v ∈ qv_gt) (hd : decode cc pc = .ok (.ldc2_w index, 3)) (k : qv_V G X nL Q T cs (pc + 3) lv (.long v :: st) M o) : qv_V G X nL Q T cs pc lv st M o := fun a ha ls H locs h1 h2 h3 => lv_ldc2 g.1 g.2.1 g.2.2.2.1 (g.2.2.2.2.1 _ hw) hd (k a ha ls H locs h1 h2 h3)
/-- a field's words: which class, which place -/
def qv_fw (own : String) (index ci k : Nat) : Prop := ∃ (C : String) (TT : u_T) (N : Nat), vwCl[ci]? = some (C, TT, N) ∧ k < N ∧ (∀ w ∈ u_ws C TT N, w ∈ qv_gt) ∧ Cond.fieldLink own index C (TT k).2.1 (TT k).2.2.1 ∈ qv_gt ∧ (TT k).1 = C
theorem qv_get (g : qv_ok G X cc own nL) {index ci k id s : Nat} {fs : List (Option (Option Nat))} {v : Value} (hf : qv_fw own index ci k) (hci : ci < 20) (he : T[id]? = some (ci, s, fs)) (hk : k < fs.length) (hv : qv_fv X.2.2.2 (M.2.2 id k) (fs.getD k none) = v) (hd : decode cc pc = .ok (.getfield index, 3)) (kk : qv_V G X nL Q T cs (pc + 3) lv (v :: st) M o) : qv_V G X nL Q T cs pc lv (.ref (X.2.2.2 + id) :: st) M o := by
  intro a ha ls H locs h1 h2 h3
  obtain ⟨C, TT, N, f1, f2, f3, f4, f5⟩ := hf
  have hP := h2.one he
  rw [qv_cel_o X hci] at hP
  exact va_get g.1 g.2.1 g.2.2.2.2.1 f3 g.2.2.2.1 g.2.2.2.2.2.1.1 hP 0 rfl f1 k f2 (g.2.2.2.2.1 _ f4) (fun x hx => by rw [← f5]; exact hx) (by rw [qv_fvs_at hk, hv]) hd (kk a ha ls H locs h1 h2 h3)
/-- a number is read -/
theorem qv_gets (g : qv_ok G X cc own nL) {n index ci k id s : Nat} {kk : Int32 → Option α} (hf : qv_fw own index ci k) (hi : qv_is (n + 1) T ci s id) (hci : ci < 20) (hk : k < s) (hq : qv_kd ci k = none) (hd : decode cc pc = .ok (.getfield index, 3)) (h : ∀ v, qv_V G X nL Q T cs (pc + 3) lv (.int v :: st) M (kk v)) : qv_V G X nL Q T cs pc lv (.ref (X.2.2.2 + id) :: st) M (qv_gS id k M kk) := by
  obtain ⟨fs, e1, e2, e3⟩ := hi.sc ⟨by omega, by omega⟩ hk hq
  refine qv_get g hf hci e1 (by omega) ?_ hd (h _)
  rw [List.getD_eq_getElem?_getD, e3]
  rfl
/-- a reference is read -/
theorem qv_getr (g : qv_ok G X cc own nL) {n index ci k id s c' s' : Nat} (hf : qv_fw own index ci k) (hi : qv_is (n + 1) T ci s id) (hci : ci < 20) (hk : k < s) (hq : qv_kd ci k = some (c', s')) (hd : decode cc pc = .ok (.getfield index, 3)) (h : qv_V G X nL Q T cs (pc + 3) lv (.ref (X.2.2.2 + qv_rf T id k) :: st) M o) : qv_V G X nL Q T cs pc lv (.ref (X.2.2.2 + id) :: st) M o := by
  obtain ⟨⟨fs, e1, e2, e3⟩, -⟩ := hi.rf ⟨by omega, by omega⟩ hk hq
  refine qv_get g hf hci e1 (by omega) ?_ hd h
  rw [List.getD_eq_getElem?_getD, e3]
  rfl
/-- a field's words for writing -/
def qv_pw (own : String) (index ci k : Nat) (fin : Bool) (ty : FieldType) : Prop := ∃ (C : String) (TT : u_T) (N : Nat) (ty0 : Nat → FieldType), vwCl[ci]? = some (C, TT, N) ∧ k < N ∧ (∀ w ∈ u_ws C TT N, w ∈ qv_gt) ∧ Cond.fieldLink own index C (TT k).2.1 (TT k).2.2.1 ∈ qv_gt ∧ (TT k).1 = C ∧ (∀ k, k < N → parseFieldDescriptor (TT k).2.2.1 = some (ty0 k)) ∧ (∀ a, a < N → ∀ b, b < N → a ≠ b → (TT a).2.1 ≠ (TT b).2.1) ∧ (TT k).2.2.2 = fin ∧ parseFieldDescriptor (TT k).2.2.1 = some ty
theorem qv_fvs_set {B : Nat} {s s1 : Nat → Int32} {fs fs1 : List (Option (Option Nat))} {k : Nat} {v : Value} (hl : fs1.length = fs.length) (hk : k < fs.length) (h1 : qv_fv B (s1 k) (fs1.getD k none) = v) (h2 : ∀ j, j ≠ k → qv_fv B (s1 j) (fs1.getD j none) = qv_fv B (s j) (fs.getD j none)) : (qv_fvs B s fs).set k v = qv_fvs B s1 fs1 := by
  apply List.ext_getElem?
  intro j
  rw [List.getElem?_set, qv_fvs_len]
  by_cases hj : k = j
  · subst hj
    rw [if_pos rfl, if_pos hk, qv_fvs_at (by omega), h1]
  · rw [if_neg hj]
    by_cases hlt : j < fs.length
    · rw [qv_fvs_at hlt, qv_fvs_at (by omega), h2 j (fun e => hj e.symm)]
    · rw [List.getElem?_eq_none (by rw [qv_fvs_len]; omega), List.getElem?_eq_none (by rw [qv_fvs_len]; omega)]
/-- a field that isn't final is written -/
theorem qv_put (g : qv_ok G X cc own nL) {index ci k id s : Nat} {fs : List (Option (Option Nat))} {ty : FieldType} {v : Int32} (hf : qv_pw own index ci k false ty) (hci : ci < 20) (he : T[id]? = some (ci, s, fs)) (hk : k < fs.length) (h0 : fs[k]? = some none) (hn : narrow ty (.int v) = .int v) (hfit : fits ty (.int v) = true) (hd : decode cc pc = .ok (.putfield index, 3)) (kk : qv_V G X nL Q T cs (pc + 3) lv st (qv_upS M id k v) o) : qv_V G X nL Q T cs pc lv (.int v :: .ref (X.2.2.2 + id) :: st) M o := by
  intro a ha ls H locs h1 h2 h3
  obtain ⟨C, TT, N, ty0, f1, f2, f3, f4, f5, f6, f7, f8, f9⟩ := hf
  have hK := g.2.2.2.2.2.1.1
  have hts := g.2.2.2.2.1
  have hap := va_apart (own := own) hts f3 ty0 f6 f7 hK f1
  have hP := h2.2 id _ he
  rw [qv_cel_o X hci] at hP
  obtain ⟨r, i1, cell, q1, q2, q3, q4⟩ := hP
  have hr : r = (C, TT, N) := Option.some.inj (i1.symm.trans f1)
  subst hr
  obtain ⟨hS, hfc, kC, hkC, hkind⟩ := hK.1 ci _ f1
  obtain ⟨cf, kf, fi, f, hi, hsl⟩ := hS k f2
  have hlay := hts _ (f3 _ (u_in_lay f2))
  unfold u_lay at hlay
  rw [if_neg (by rw [f8]; decide)] at hlay
  have hst := (u_facts hfc hkC (u_lays hts f3 f2) hi).1
  have h6 := u_store hfc hkC hkind hlay hi f9 hn hfit
  refine W.putK g.1 g.2.1 (f := f) ⟨g.2.2.2.1, hts _ f4, ⟨_, _, _, by rw [← f5]; exact hi⟩, hst⟩ (by rw [q2]; exact h6) q1 q3 (by rw [hsl]; exact k2_hasslot (q4 k f2)) rfl rfl hd fun H' e1 e2 e3 => ?_
  rw [hsl] at e1 ⊢
  refine kk a ha ls H' _ h1 (h2.wr (id := id) e2 e3 (fun b hb => ⟨rfl, rfl, by funext j; simp [qv_upS, hb]⟩) (fun e he1 => ?_)) (h3.put e2 e3 (by show X.2.2.2 ≤ _; omega))
  have : e = (ci, s, fs) := Option.some.inj (he1.symm.trans he)
  subst this
  rw [qv_cel_o X hci, ← qv_fvs_set (s := M.2.2 id) (fs := fs) (k := k) (v := .int v) rfl hk (by rw [List.getD_eq_getElem?_getD, h0]; simp [qv_upS, qv_fv]) (fun j hj => by simp [qv_upS, hj])]
  exact ⟨_, f1, t_OB.to (V := updV (vp_V (qv_fvs X.2.2.2 (M.2.2 id) fs)) k (.int v)) ⟨_, e1, q2, q3, t_set q4 hap f2 _⟩ (fun j _ => vp_updV_set (by rw [qv_fvs_len]; exact hk) _ j)⟩
theorem qv_puti (g : qv_ok G X cc own nL) {n index ci k id s : Nat} {v : Int32} {kk : qv_Mem → Option α} (hf : qv_pw own index ci k false .int) (hi : qv_is (n + 1) T ci s id) (hci : ci < 20) (hk : k < s) (hq : qv_kd ci k = none) (hd : decode cc pc = .ok (.putfield index, 3)) (h : ∀ M1, qv_V G X nL Q T cs (pc + 3) lv st M1 (kk M1)) : qv_V G X nL Q T cs pc lv (.int v :: .ref (X.2.2.2 + id) :: st) M (qv_pS id k v M kk) := by
  obtain ⟨fs, e1, e2, e3⟩ := hi.sc ⟨by omega, by omega⟩ hk hq
  exact qv_put g hf hci e1 (by omega) e3 rfl rfl hd (h _)
theorem qv_putz (g : qv_ok G X cc own nL) {n index ci k id s : Nat} {v : Int32} {kk : qv_Mem → Option α} (hf : qv_pw own index ci k false .boolean) (hi : qv_is (n + 1) T ci s id) (hci : ci < 20) (hk : k < s) (hq : qv_kd ci k = none) (hd : decode cc pc = .ok (.putfield index, 3)) (h : ∀ M1, qv_V G X nL Q T cs (pc + 3) lv st M1 (kk M1)) : qv_V G X nL Q T cs pc lv (.int v :: .ref (X.2.2.2 + id) :: st) M (qv_pZ id k v M kk) := by
  unfold qv_pZ
  refine qv_ite _ (fun hz => ?_) (fun _ => qv_none)
  obtain ⟨fs, e1, e2, e3⟩ := hi.sc ⟨by omega, by omega⟩ hk hq
  have hv : v = 0 ∨ v = 1 := by simpa [qv_01] using hz
  exact qv_put g hf hci e1 (by omega) e3 (by rcases hv with rfl | rfl <;> rfl) (by rcases hv with rfl | rfl <;> rfl) hd (h _)
theorem qv_iald (g : qv_ok G X cc own nL) {n m id : Nat} {i : Int32} {kk : Int32 → Option α} (hi : qv_is m T 20 n id) (hd : decode cc pc = .ok (.iaload, 1)) (h : ∀ v, qv_V G X nL Q T cs (pc + 1) lv (.int v :: st) M (kk v)) : qv_V G X nL Q T cs pc lv (.int i :: .ref (X.2.2.2 + id) :: st) M (qv_ldI n id i M kk) := by
  unfold qv_ldI
  refine qv_ite _ (fun hz => ?_) (fun _ => qv_none)
  obtain ⟨fs, he⟩ := hi.sh
  intro a ha ls H locs h1 h2 h3
  exact va_iald g.1 g.2.1 g.2.2.2.2.2.1.1 (h2.one he) 0 0 rfl rfl (qv_inb_in hz) hd (h _ a ha ls H locs h1 h2 h3)
theorem qv_lald (g : qv_ok G X cc own nL) {n m id : Nat} {i : Int32} {kk : Int64 → Option α} (hi : qv_is m T 21 n id) (hd : decode cc pc = .ok (.laload, 1)) (h : ∀ v, qv_V G X nL Q T cs (pc + 1) lv (.long v :: st) M (kk v)) : qv_V G X nL Q T cs pc lv (.int i :: .ref (X.2.2.2 + id) :: st) M (qv_ldL n id i M kk) := by
  unfold qv_ldL
  refine qv_ite _ (fun hz => ?_) (fun _ => qv_none)
  obtain ⟨fs, he⟩ := hi.sh
  intro a ha ls H locs h1 h2 h3
  exact va_lald g.1 g.2.1 g.2.2.2.2.2.1.1 (h2.one he) 0 1 rfl rfl (qv_inb_in hz) hd (h _ a ha ls H locs h1 h2 h3)
theorem qv_iast (g : qv_ok G X cc own nL) {n m id : Nat} {i x : Int32} {kk : qv_Mem → Option α} (hi : qv_is m T 20 n id) (hd : decode cc pc = .ok (.iastore, 1)) (h : ∀ M1, qv_V G X nL Q T cs (pc + 1) lv st M1 (kk M1)) : qv_V G X nL Q T cs pc lv (.int x :: .int i :: .ref (X.2.2.2 + id) :: st) M (qv_stI n id i x M kk) := by
  unfold qv_stI
  refine qv_ite _ (fun hz => ?_) (fun _ => qv_none)
  have hin := qv_inb_in hz
  obtain ⟨fs, he⟩ := hi.sh
  intro a ha ls H locs h1 h2 h3
  refine W.iast g.1 g.2.1 (h2.2 id _ he) ((g.2.2.2.2.2.1.1.2 0 _ rfl).1 n (fun j => .int (M.1 id j))) (fun q => by cases q) (by show ¬ (i < 0 ∨ (arrV _ _ _).slots.size ≤ _); rw [arrV_size]; exact hin) rfl rfl hd fun H1 e z oq => ?_
  refine h (qv_upI M id i.toNatClampNeg x) a ha ls H1 _ h1 (h2.wr (id := id) z oq (fun b hb => ⟨by funext j; simp [qv_upI, hb], rfl, rfl⟩) (fun e1 he1 => ?_)) (h3.put z oq (by show X.2.2.2 ≤ _; omega))
  have : e1 = (20, n, fs) := Option.some.inj (he1.symm.trans he)
  subst this
  show H1[X.2.2.2 + id]? = some (vp_cell (X.2.1 20) (n, .inl ((qv_upI M id i.toNatClampNeg x).1 id)))
  rw [e]
  show some ((arrV (X.2.1 20) n (fun j => .int (M.1 id j))).setSlot _ _) = some (arrV (X.2.1 20) n (fun j => .int ((qv_upI M id i.toNatClampNeg x).1 id j)))
  rw [arrV_store]
  congr 2
  funext q
  by_cases hq : q = i.toNatClampNeg
  · simp [updV, qv_upI, hq]
  · simp [updV, qv_upI, hq]
theorem qv_last (g : qv_ok G X cc own nL) {n m id : Nat} {i : Int32} {x : Int64} {kk : qv_Mem → Option α} (hi : qv_is m T 21 n id) (hd : decode cc pc = .ok (.lastore, 1)) (h : ∀ M1, qv_V G X nL Q T cs (pc + 1) lv st M1 (kk M1)) : qv_V G X nL Q T cs pc lv (.long x :: .int i :: .ref (X.2.2.2 + id) :: st) M (qv_stL n id i x M kk) := by
  unfold qv_stL
  refine qv_ite _ (fun hz => ?_) (fun _ => qv_none)
  have hin := qv_inb_in hz
  obtain ⟨fs, he⟩ := hi.sh
  intro a ha ls H locs h1 h2 h3
  refine W.last g.1 g.2.1 (h2.2 id _ he) ((g.2.2.2.2.2.1.1.2 1 _ rfl).1 n (fun j => .long (M.2.1 id j))) (fun q => by cases q) (by show ¬ (i < 0 ∨ (arrV _ _ _).slots.size ≤ _); rw [arrV_size]; exact hin) rfl rfl hd fun H1 e z oq => ?_
  refine h (qv_upL M id i.toNatClampNeg x) a ha ls H1 _ h1 (h2.wr (id := id) z oq (fun b hb => ⟨rfl, by funext j; simp [qv_upL, hb], rfl⟩) (fun e1 he1 => ?_)) (h3.put z oq (by show X.2.2.2 ≤ _; omega))
  have : e1 = (21, n, fs) := Option.some.inj (he1.symm.trans he)
  subst this
  show H1[X.2.2.2 + id]? = some (vp_cell (X.2.1 21) (n, .inr (.inl ((qv_upL M id i.toNatClampNeg x).2.1 id))))
  rw [e]
  show some ((arrV (X.2.1 21) n (fun j => .long (M.2.1 id j))).setSlot _ _) = some (arrV (X.2.1 21) n (fun j => .long ((qv_upL M id i.toNatClampNeg x).2.1 id j)))
  rw [arrV_store]
  congr 2
  funext q
  by_cases hq : q = i.toNatClampNeg
  · simp [updV, qv_upL, hq]
  · simp [updV, qv_upL, hq]
/-- a reference out of a row of Tables or Rows -/
theorem qv_aald (g : qv_ok G X cc own nL) {n m id c s' : Nat} {i : Int32} (hc : c = 36 ∨ c = 37) (hi : qv_is (m + 1) T c n id) (hq : ∀ k, k < n → ∃ c', qv_kd c k = some (c', s')) (hd : decode cc pc = .ok (.aaload, 1)) (h : qv_V G X nL Q T cs (pc + 1) lv (.ref (X.2.2.2 + qv_rf T id i.toNatClampNeg) :: st) M o) : qv_V G X nL Q T cs pc lv (.int i :: .ref (X.2.2.2 + id) :: st) M (qv_gd (qv_inb i n) o) := by
  unfold qv_gd
  refine qv_ite _ (fun hz => ?_) (fun _ => qv_none)
  have hin := qv_inb_in hz
  have hlt : i.toNatClampNeg < n := Nat.not_le.mp fun q => hin (Or.inr q)
  obtain ⟨c', hq⟩ := hq _ hlt
  obtain ⟨⟨fs, e1, e2, e3⟩, -⟩ := hi.rf (by omega) hlt hq
  intro a ha ls H locs h1 h2 h3
  have hP := h2.one e1
  rw [qv_cel_q X (by omega)] at hP
  have hv : va_rf (((fs.getD i.toNatClampNeg none).getD none).map (fun i => X.2.2.2 + i)) = .ref (X.2.2.2 + qv_rf T id i.toNatClampNeg) := by
    rw [List.getD_eq_getElem?_getD, e3]
    rfl
  have hk := h a ha ls H locs h1 h2 h3
  rw [← hv] at hk
  rcases hc with rfl | rfl
  · exact va_aldq g.1 g.2.1 g.2.2.2.2.2.1.1 hP 0 3 rfl rfl hin hd hk
  · exact va_aldq g.1 g.2.1 g.2.2.2.2.2.1.1 hP 0 2 rfl rfl hin hd hk
theorem qv_alen (g : qv_ok G X cc own nL) {n m id c : Nat} {v : Int32} (hc : c = 20 ∨ c = 21 ∨ c = 36 ∨ c = 37) (hi : qv_is m T c n id) (hv : Int32.ofNat n = v) (hd : decode cc pc = .ok (.arraylength, 1)) (h : qv_V G X nL Q T cs (pc + 1) lv (.int v :: st) M o) : qv_V G X nL Q T cs pc lv (.ref (X.2.2.2 + id) :: st) M o := by
  obtain ⟨fs, he⟩ := hi.sh
  intro a ha ls H locs h1 h2 h3
  have hP := h2.one he
  rcases hc with rfl | rfl | rfl | rfl
  · exact va_alen g.1 g.2.1 g.2.2.2.2.2.1.1 hP 0 0 rfl rfl hv hd (h a ha ls H locs h1 h2 h3)
  · exact va_alen g.1 g.2.1 g.2.2.2.2.2.1.1 hP 0 1 rfl rfl hv hd (h a ha ls H locs h1 h2 h3)
  · exact va_alen g.1 g.2.1 g.2.2.2.2.2.1.1 hP 0 3 rfl rfl hv hd (h a ha ls H locs h1 h2 h3)
  · exact va_alen g.1 g.2.1 g.2.2.2.2.2.1.1 hP 0 2 rfl rfl hv hd (h a ha ls H locs h1 h2 h3)

end QV
end
section
/-! Ends of methods, contracts, calls. -/
def qv_eI (M : qv_Mem) (v : Int32) : qv_Res := (some (.int v), M)
def qv_eL (M : qv_Mem) (v : Int64) : qv_Res := (some (.long v), M)
def qv_eIM (a : Int32 × qv_Mem) : qv_Res := (some (.int a.1), a.2)
def qv_eLM (a : Int64 × qv_Mem) : qv_Res := (some (.long a.1), a.2)
def qv_eV (M : qv_Mem) : qv_Res := (none, M)
def qv_Qo (X : qv_X) (T : List qv_Ent) (r : qv_Res) : Array Value → State → Outcome → State → Prop := fun _ st oc t => oc = .returned r.1 ∧ qv_Wd X T r.2 t ∧ va_F (qv_A X) st t
def qv_QM {α : Type} (G : qv_G) (X : qv_X) (T : List qv_Ent) (emb : α → qv_Res) (cs : Nat × Nat) : α → State → Prop := fun a => MQ (gb G) (qv_Qo X T (emb a)) (ga G) (gs G) cs.1 cs.2 (qv_A X)
def qv_rm (d : Nat) : Room := { frames := d + 1, cells := 0, slots := 0, locals := 64 * (d + 1) }
def qv_Ok {α : Type} (l : Launch) (X : qv_X) (y : MethodName) (bytes : ByteArray) (maxL : Nat) (ret : Option FieldType) (d : Nat) (T : List qv_Ent) (M : qv_Mem) (av : List Value) (emb : α → qv_Res) (o : Option α) : Prop :=
  ∀ a, o = some a → Met l y (Cond.code y bytes maxL ret :: qv_gt) (qv_rm d) (va_Pc av (qv_Wd X T M)) (qv_Qo X T (emb a)) 0 0 (qv_A X)
theorem qv_mk {α : Type} {l : Launch} {X : qv_X} {y : MethodName} {bytes : ByteArray} {maxL : Nat} {ret : Option FieldType} {d : Nat} {T : List qv_Ent} {M : qv_Mem} {av : List Value} {emb : α → qv_Res} {o : Option α} (hy : plainName y.cls = true) (hle : (lg_sl av).length ≤ maxL)
    (body : ∀ G : qv_G, gl G = l → gR G = qv_rm d → qv_ok G X bytes y.cls maxL → (gM G).sig.returnType = ret → qv_V G X maxL (qv_QM G X T emb (0, 0)) T (0, 0) 0 (lv_args 0 av) [] M o) : qv_Ok l X y bytes maxL ret d T M av emb o := by
  intro a ha
  refine Met.ofW (cc := bytes) (maxL := maxL) (ret := ret) hy rfl ?_
  intro p e s m args below meth c s₁ B hml hv
  obtain ⟨rfl, hW, hK⟩ := hv
  have hts := atoms_spec (ws := Cond.code y bytes maxL ret :: qv_gt) B.pre
  rw [lg_entry_eq]
  have hl := lv_entry av (n := maxL) hle
  exact body (p, l, e, qv_rm d, s, m, av.toArray, below, meth, c) rfl rfl ⟨B.exec, B.bytes, hml, findClass_of_methodNamed B.named, fun w hw => hts w (List.mem_cons_of_mem _ hw), hK, by show _ ≤ s.heap.size; rw [hW.1]; exact Nat.le_add_right _ _, B.notSynchronized, by show 1 ≤ d + 1; omega, by show 64 ≤ 64 * (d + 1); omega⟩ B.returns a ha _ s.heap [] hl hW va_S.rf
section QE
variable {α : Type} {G : qv_G} {X : qv_X} {nL : Nat} {T : List qv_Ent} {cs : Nat × Nat} {pc : Nat} {lv : List (Nat × Value)} {st : List Value} {M : qv_Mem} {cc : ByteArray} {own : String} {emb : α → qv_Res} {b : α}
theorem qv_end (g : qv_ok G X cc own nL) {H : Heap} {locs : List Loc} (h2 : qv_Hp X T M H) (h3 : va_S (qv_A X) (gs G).heap H locs) {r : Option Value} (he : emb b = (r, M)) (t : State) (ht : t.heap = H) (hW : (gs G).WarmedH t.vm) : qv_Qo X T (emb b) (ga G) (gs G) (.returned r) t :=
  ⟨by rw [he], ⟨by rw [he, ht]; exact h2, g.2.2.2.2.2.1.go hW (fun q h1 h4 => by rw [ht]; exact h3.2.1 q h1 h4)⟩, h3.F ht⟩
theorem qv_iret (g : qv_ok G X cc own nL) {v : Int32} (hr : (gM G).sig.returnType = some .int) (he : emb b = (some (.int v), M)) (hd : decode cc pc = .ok (.ireturn, 1)) : qv_V G X nL (qv_QM G X T emb cs) T cs pc lv [.int v] M (some b) := by
  intro a ha ls H locs h1 h2 h3
  cases ha
  exact W.iret g.1 g.2.1 hr (qv_end g h2 h3 he) h3.2.2 hd g.2.2.2.2.2.2.2.1
theorem qv_zret (g : qv_ok G X cc own nL) {v : Int32} (hr : (gM G).sig.returnType = some .boolean) (hv : narrow .boolean (.int v) = .int v) (he : emb b = (some (.int v), M)) (hd : decode cc pc = .ok (.ireturn, 1)) : qv_V G X nL (qv_QM G X T emb cs) T cs pc lv [.int v] M (some b) := by
  intro a ha ls H locs h1 h2 h3
  cases ha
  exact W.zret g.1 g.2.1 hr hv (qv_end g h2 h3 he) h3.2.2 hd g.2.2.2.2.2.2.2.1
theorem qv_zretg (g : qv_ok G X cc own nL) {v : Int32} (hr : (gM G).sig.returnType = some .boolean) (he : emb b = (some (.int v), M)) (hd : decode cc pc = .ok (.ireturn, 1)) : qv_V G X nL (qv_QM G X T emb cs) T cs pc lv [.int v] M (qv_gd (qv_01 v) (some b)) := by
  unfold qv_gd
  refine qv_ite _ (fun hz => ?_) (fun _ => qv_none)
  have hv : v = 0 ∨ v = 1 := by simpa [qv_01] using hz
  exact qv_zret g hr (by rcases hv with rfl | rfl <;> rfl) he hd
theorem qv_lret (g : qv_ok G X cc own nL) {v : Int64} (hr : (gM G).sig.returnType = some .long) (he : emb b = (some (.long v), M)) (hd : decode cc pc = .ok (.lreturn, 1)) : qv_V G X nL (qv_QM G X T emb cs) T cs pc lv [.long v] M (some b) := by
  intro a ha ls H locs h1 h2 h3
  cases ha
  exact W.lret g.1 g.2.1 hr (qv_end g h2 h3 he) h3.2.2 hd g.2.2.2.2.2.2.2.1
theorem qv_vret (g : qv_ok G X cc own nL) (hr : (gM G).sig.returnType = none) (he : emb b = (none, M)) (hd : decode cc pc = .ok (.return_, 1)) : qv_V G X nL (qv_QM G X T emb cs) T cs pc lv [] M (some b) := by
  intro a ha ls H locs h1 h2 h3
  cases ha
  exact W.vret g.1 g.2.1 hr (qv_end g h2 h3 he) h3.2.2 hd g.2.2.2.2.2.2.2.1
end QE
def qv_Cl {β : Type} (G : qv_G) (X : qv_X) (nL : Nat) (T : List qv_Ent) (cs : Nat × Nat) (pc : Nat) (stk rest : List Value) (M : qv_Mem) (emb : β → qv_Res) (o1 : Option β) : Prop :=
  ∀ b, o1 = some b → ∀ (ls : Array Slot) (H : Heap) (locs : List Loc), ls.size = nL → qv_Hp X T M H → va_S (qv_A X) (gs G).heap H locs → ∃ av, va_Run (gp G) (gl G) (ge G) (gR G) (gs G) (gm G) (ga G) (gb G) (gM G) (gc G) H locs cs.1 cs.2 0 0 (F0 (gm G) pc ls stk) rest (qv_Qo X T (emb b) av) (qv_A X)
def qv_mw (y : MethodName) (bytes : ByteArray) (maxL : Nat) (ret : Option FieldType) : Prop := Cond.code y bytes maxL ret ∈ qv_gt ∧ Cond.initialized y.cls ∈ qv_gt ∧ y.cls ≠ "java/lang/invoke/MethodHandle" ∧ y.cls ≠ "java/lang/invoke/VarHandle"
theorem qv_goodc {y : MethodName} {bytes : ByteArray} {maxL : Nat} {ret : Option FieldType} (h : qv_mw y bytes maxL ret) : GoodIn qv_gt (Cond.code y bytes maxL ret :: qv_gt) := fun w hw => by
  rcases List.mem_cons.mp hw with e | e
  · rw [e]; exact qv_good _ h.1
  · exact qv_good _ e
section QC
variable {α : Type} {G : qv_G} {X : qv_X} {nL : Nat} {Q : α → State → Prop} {T : List qv_Ent} {cs : Nat × Nat} {pc : Nat} {lv : List (Nat × Value)} {st : List Value} {M : qv_Mem} {o : Option α} {cc : ByteArray} {own : String}
theorem qv_run {H : Heap} {locs : List Loc} {ls : Array Slot} {stk rest : List Value} {r : qv_Res} {av : Array Value} {Qw : State → Prop} (hr : va_Run (gp G) (gl G) (ge G) (gR G) (gs G) (gm G) (ga G) (gb G) (gM G) (gc G) H locs cs.1 cs.2 0 0 (F0 (gm G) pc ls stk) rest (qv_Qo X T r av) (qv_A X)) (hS : va_S (qv_A X) (gs G).heap H locs)
    (kk : ∀ (H1 : Heap) (locs1 : List Loc), qv_Hp X T r.2 H1 → va_S (qv_A X) (gs G).heap H1 locs1 → W (gp G) (gl G) (ge G) (gR G) (gs G) (gm G) (ga G) (gb G) (gM G) (gc G) H1 locs1 cs.1 cs.2 Qw (F0 (gm G) (pc + 3) ls (r.1.toList ++ rest))) : W (gp G) (gl G) (ge G) (gR G) (gs G) (gm G) (ga G) (gb G) (gM G) (gc G) H locs cs.1 cs.2 Qw (F0 (gm G) pc ls stk) := by
  intro T0 hT X0
  obtain ⟨v, st₀, t, T', L, h0, X', hL, e1, e2, ⟨hv, hb, hz, hk⟩, st⟩ := hr T0 hT X0
  cases hv
  rw [h0] at hz hk
  obtain ⟨t2, a1, b1⟩ := kk T'.heap (locs ++ L) (by rw [e1]; exact hb.1) ⟨Nat.le_trans hS.1 (by rw [e1]; exact hz), fun q h1 h2 => by rw [e1, hk q (Nat.lt_of_lt_of_le h1 hS.1) h2]; exact hS.2.1 q h1 h2, fun q hq => by
      rcases List.mem_append.mp hq with h | h
      · exact hS.2.2 q h
      · exact hL q h⟩ T' rfl X'
  exact ⟨t2, st t2 a1, b1⟩
theorem qv_blind (av : List Value) (hW : State → Prop) (h : ∀ (U : State) (g : JFrame) (mk : MethodId) (a : Array Value), hW U → hW (U.calling g mk a)) : FrameBlind (va_Pc av hW) := fun a U g mk q => ⟨q.1, h U g mk a q.2⟩
theorem qv_Wd.blind {U : State} (g : JFrame) (mk : MethodId) (a : Array Value) (h : qv_Wd X T M U) : qv_Wd X T M (U.calling g mk a) := by
  obtain ⟨h1, k1, k2, k3, k4, k5, k6⟩ := h
  exact ⟨h1, va_K.moved (u := U) (U := U.calling g mk a) (Vm.Alike.refl U.vm) k1, va_Z.moved (u := U) (U := U.calling g mk a) (Vm.Alike.refl U.vm) k2, va_T.moved (u := U) (U := U.calling g mk a) (Vm.Alike.refl U.vm) k3, fun w hw => va_Nw.same (by obtain ⟨_, _, _, _, rfl⟩ := qv_nst_form w hw; rfl) (u := U) (U := U.calling g mk a) rfl (k4 w hw), va_AO.moved (u := U) (U := U.calling g mk a) (Vm.Alike.refl U.vm) k5, va_AO.moved (u := U) (U := U.calling g mk a) (Vm.Alike.refl U.vm) k6⟩
theorem qv_pre (g : qv_ok G X cc own nL) {H : Heap} {locs : List Loc} (h2 : qv_Hp X T M H) (h3 : va_S (qv_A X) (gs G).heap H locs) (av : List Value) (U : State) (hU : U.heap = H) (hW : (gs G).WarmedH U.vm) : va_Pc av (qv_Wd X T M) av.toArray U :=
  ⟨rfl, by rw [hU]; exact h2, g.2.2.2.2.2.1.go hW (fun q h1 h4 => by rw [hU]; exact h3.2.1 q h1 h4)⟩
/-- a method of an object -/
theorem qv_cv (g : qv_ok G X cc own nL) {β : Type} {emb : β → qv_Res} {o1 : Option β} {y : MethodName} {bytes : ByteArray} {maxL d index id ci n s N : Nat} {ret : Option FieldType} {As stk rest : List Value} {TT : u_T} (hM : qv_Ok (gl G) X y bytes maxL ret d T M (.ref (X.2.2.2 + id) :: As) emb o1) (hR : d + 2 ≤ (gR G).frames ∧ 19 + maxL + 64 * (d + 1) ≤ (gR G).locals) (hc : cs.1 ≤ (gR G).cells ∧ cs.2 ≤ (gR G).slots) (hw : qv_mw y bytes maxL ret) (hl : Cond.methodLink own index y ∈ qv_gt) (hin : Cond.instanceMethod y ∈ qv_gt) (hsel : Cond.selects y.cls y y ∈ qv_gt) (hci : ci < 20) (hcl : vwCl[ci]? = some (y.cls, TT, N)) (hi : qv_is n T ci s id) (hn : (parseMethodDescriptor y.desc).map (fun d => d.parameters.length) = some As.length) (hst : stk = As.reverse ++ .ref (X.2.2.2 + id) :: rest) (hrs : (rest.map fun v => v.category).sum ≤ 8) (hd : decode cc pc = .ok (.invokevirtual index, 3)) : qv_Cl G X nL T cs pc stk rest M emb o1 := by
  intro b hb ls H locs hls h2 h3
  have hts := g.2.2.2.2.1
  obtain ⟨fs, he⟩ := hi.sh
  have hP := h2.one he
  rw [qv_cel_o X hci] at hP
  refine ⟨_, va_runV (As := As) (rest := rest) (Ts := qv_gt) (own := own) (C := y.cls) ⟨g.1, g.2.1, g.2.2.1, g.2.2.2.1, hts⟩ (hM b hb) ⟨callB_of As.length hts (qv_goodc hw) rfl rfl rfl (hts _ hw.2.1) (hts _ hl) ⟨hw.2.2.1, hw.2.2.2, hn⟩ ⟨hR.1, by show 8 + (maxL + 11) + 64 * (d + 1) ≤ _; omega⟩, hts _ hin, hts _ hsel⟩ ⟨qv_blind _ _ (fun U g mk a h => h.blind g mk a), va_recv g.2.2.2.2.2.1.1 hP hcl (q0 := 0) rfl, fun U hU hW => qv_pre g h2 h3 _ U hU hW⟩ rfl rfl hls hst (lv_room hrs) hd ⟨hc.1, hc.2⟩⟩
/-- a static method -/
theorem qv_cs (g : qv_ok G X cc own nL) {β : Type} {emb : β → qv_Res} {o1 : Option β} {y : MethodName} {bytes : ByteArray} {maxL d index : Nat} {ret : Option FieldType} {As stk rest : List Value} (hM : qv_Ok (gl G) X y bytes maxL ret d T M As emb o1) (hR : d + 2 ≤ (gR G).frames ∧ 19 + maxL + 64 * (d + 1) ≤ (gR G).locals) (hc : cs.1 ≤ (gR G).cells ∧ cs.2 ≤ (gR G).slots) (hw : qv_mw y bytes maxL ret) (hl : Cond.methodLink own index y ∈ qv_gt) (hin : Cond.static y ∈ qv_gt) (hn : (parseMethodDescriptor y.desc).map (fun d => d.parameters.length) = some As.length) (hst : stk = As.reverse ++ rest) (hrs : (rest.map fun v => v.category).sum ≤ 8) (hd : decode cc pc = .ok (.invokestatic index, 3)) : qv_Cl G X nL T cs pc stk rest M emb o1 := by
  intro b hb ls H locs hls h2 h3
  have hts := g.2.2.2.2.1
  refine ⟨_, va_runS (As := As) (rest := rest) (Ts := qv_gt) (own := own) ⟨g.1, g.2.1, g.2.2.1, g.2.2.2.1, hts⟩ (hM b hb) ⟨callB_of As.length hts (qv_goodc hw) rfl rfl rfl (hts _ hw.2.1) (hts _ hl) ⟨hw.2.2.1, hw.2.2.2, hn⟩ ⟨hR.1, by show 8 + (maxL + 11) + 64 * (d + 1) ≤ _; omega⟩, hts _ hin⟩ ⟨qv_blind _ _ (fun U g mk a h => h.blind g mk a), fun U hU hW => qv_pre g h2 h3 _ U hU hW⟩ rfl rfl hls hst (lv_room hrs) hd ⟨hc.1, hc.2⟩⟩
/-- a nest mate's static method -/
theorem qv_cn (g : qv_ok G X cc own nL) {β : Type} {emb : β → qv_Res} {o1 : Option β} {y : MethodName} {bytes : ByteArray} {maxL d index : Nat} {ret : Option FieldType} {As stk rest : List Value} {host : String} (hM : qv_Ok (gl G) X y bytes maxL ret d T M As emb o1) (hR : d + 2 ≤ (gR G).frames ∧ 19 + maxL + 64 * (d + 1) ≤ (gR G).locals) (hc : cs.1 ≤ (gR G).cells ∧ cs.2 ≤ (gR G).slots) (hw : qv_mw y bytes maxL ret) (hl : Cond.methodLinkNest own index y host ∈ qv_nst) (hin : Cond.static y ∈ qv_gt) (hn : (parseMethodDescriptor y.desc).map (fun d => d.parameters.length) = some As.length) (hst : stk = As.reverse ++ rest) (hrs : (rest.map fun v => v.category).sum ≤ 8) (hd : decode cc pc = .ok (.invokestatic index, 3)) : qv_Cl G X nL T cs pc stk rest M emb o1 := by
  intro b hb ls H locs hls h2 h3
  have hts := g.2.2.2.2.1
  refine ⟨_, va_runSN (As := As) (rest := rest) (Ts := qv_gt) (own := own) ⟨g.1, g.2.1, g.2.2.1, g.2.2.2.1, hts⟩ (hM b hb) ⟨va_cnB As.length hts (qv_goodc hw) rfl rfl rfl (g.2.2.2.2.2.1.2.2.2.1 _ hl) (hts _ hw.2.1) ⟨hw.2.2.1, hw.2.2.2, hn⟩ ⟨hR.1, by show 8 + (maxL + 11) + 64 * (d + 1) ≤ _; omega⟩, hts _ hin, trivial⟩ ⟨qv_blind _ _ (fun U g mk a h => h.blind g mk a), fun U hU hW => qv_pre g h2 h3 _ U hU hW⟩ rfl rfl hls hst (lv_room hrs) hd ⟨hc.1, hc.2⟩⟩
/-- behind a call that only answers -/
theorem qv_aI {M0 : qv_Mem} {o1 : Option Int32} {stk rest : List Value} {k : Int32 → Option α} (hM0 : M0 = M) (h : qv_Cl G X nL T cs pc stk rest M (qv_eI M0) o1) (kk : ∀ v, qv_V G X nL Q T cs (pc + 3) lv (.int v :: rest) M (k v)) : qv_V G X nL Q T cs pc lv stk M (qv_bo o1 k) := by
  subst hM0
  intro a ha ls H locs h1 h2 h3
  cases e : o1 with
  | none => rw [e] at ha; cases ha
  | some b =>
    rw [e] at ha
    obtain ⟨av, hr⟩ := h b e ls H locs h1.1 h2 h3
    exact qv_run hr h3 (fun H1 locs1 i2 i3 => kk b a ha ls H1 locs1 h1 i2 i3)
theorem qv_aL {M0 : qv_Mem} {o1 : Option Int64} {stk rest : List Value} {k : Int64 → Option α} (hM0 : M0 = M) (h : qv_Cl G X nL T cs pc stk rest M (qv_eL M0) o1) (kk : ∀ v, qv_V G X nL Q T cs (pc + 3) lv (.long v :: rest) M (k v)) : qv_V G X nL Q T cs pc lv stk M (qv_bo o1 k) := by
  subst hM0
  intro a ha ls H locs h1 h2 h3
  cases e : o1 with
  | none => rw [e] at ha; cases ha
  | some b =>
    rw [e] at ha
    obtain ⟨av, hr⟩ := h b e ls H locs h1.1 h2 h3
    exact qv_run hr h3 (fun H1 locs1 i2 i3 => kk b a ha ls H1 locs1 h1 i2 i3)
/-- behind a call that answers nothing, and changes -/
theorem qv_aV {o1 : Option qv_Mem} {stk rest : List Value} {k : qv_Mem → Option α} (h : qv_Cl G X nL T cs pc stk rest M qv_eV o1) (kk : ∀ M1, qv_V G X nL Q T cs (pc + 3) lv rest M1 (k M1)) : qv_V G X nL Q T cs pc lv stk M (qv_bo o1 k) := by
  intro a ha ls H locs h1 h2 h3
  cases e : o1 with
  | none => rw [e] at ha; cases ha
  | some b =>
    rw [e] at ha
    obtain ⟨av, hr⟩ := h b e ls H locs h1.1 h2 h3
    exact qv_run hr h3 (fun H1 locs1 i2 i3 => kk b a ha ls H1 locs1 h1 i2 i3)
theorem qv_aIM {o1 : Option (Int32 × qv_Mem)} {stk rest : List Value} {k : Int32 → qv_Mem → Option α} (h : qv_Cl G X nL T cs pc stk rest M qv_eIM o1) (kk : ∀ v M1, qv_V G X nL Q T cs (pc + 3) lv (.int v :: rest) M1 (k v M1)) : qv_V G X nL Q T cs pc lv stk M (qv_bp o1 k) := by
  intro a ha ls H locs h1 h2 h3
  cases e : o1 with
  | none => rw [e] at ha; cases ha
  | some b =>
    rw [e] at ha
    obtain ⟨av, hr⟩ := h b e ls H locs h1.1 h2 h3
    exact qv_run hr h3 (fun H1 locs1 i2 i3 => kk b.1 b.2 a ha ls H1 locs1 h1 i2 i3)
theorem qv_aLM {o1 : Option (Int64 × qv_Mem)} {stk rest : List Value} {k : Int64 → qv_Mem → Option α} (h : qv_Cl G X nL T cs pc stk rest M qv_eLM o1) (kk : ∀ v M1, qv_V G X nL Q T cs (pc + 3) lv (.long v :: rest) M1 (k v M1)) : qv_V G X nL Q T cs pc lv stk M (qv_bp o1 k) := by
  intro a ha ls H locs h1 h2 h3
  cases e : o1 with
  | none => rw [e] at ha; cases ha
  | some b =>
    rw [e] at ha
    obtain ⟨av, hr⟩ := h b e ls H locs h1.1 h2 h3
    exact qv_run hr h3 (fun H1 locs1 i2 i3 => kk b.1 b.2 a ha ls H1 locs1 h1 i2 i3)
/-- the greater, the lesser -/
theorem qv_mmax (g : qv_ok G X cc own nL) {index : Nat} {x y : Int32} (hl : Cond.methodLink own index Lib.Math.max.name ∈ qv_gt) (hs : Cond.static Lib.Math.max.name ∈ qv_gt) (hi : Cond.initialized "java/lang/Math" ∈ qv_gt) (hw : Cond.code Lib.Math.max.name Lib.Math.max.code 2 (some .int) ∈ qv_gt) (hrs : (st.map fun v => v.category).sum ≤ 8) (hc : cs.1 ≤ (gR G).cells ∧ cs.2 ≤ (gR G).slots) (hd : decode cc pc = .ok (.invokestatic index, 3)) (k : qv_V G X nL Q T cs (pc + 3) lv (.int (if x < y then y else x) :: st) M o) : qv_V G X nL Q T cs pc lv (.int y :: .int x :: st) M o := fun a ha ls H locs h1 h2 h3 => va_mmax g.1 g.2.1 (by rw [g.2.2.1, h1.1]) g.2.2.2.1 (g.2.2.2.2.1 _ hl) (g.2.2.2.2.1 _ hs) (g.2.2.2.2.1 _ hi) (g.2.2.2.2.1 _ hw) g.2.2.2.2.2.2.2.2.1 (by have := g.2.2.2.2.2.2.2.2.2; omega) hc.1 hc.2 hd (k a ha ls H locs h1 h2 h3)
theorem qv_mmin (g : qv_ok G X cc own nL) {index : Nat} {x y : Int32} (hl : Cond.methodLink own index Lib.Math.min.name ∈ qv_gt) (hs : Cond.static Lib.Math.min.name ∈ qv_gt) (hi : Cond.initialized "java/lang/Math" ∈ qv_gt) (hw : Cond.code Lib.Math.min.name Lib.Math.min.code 2 (some .int) ∈ qv_gt) (hrs : (st.map fun v => v.category).sum ≤ 8) (hc : cs.1 ≤ (gR G).cells ∧ cs.2 ≤ (gR G).slots) (hd : decode cc pc = .ok (.invokestatic index, 3)) (k : qv_V G X nL Q T cs (pc + 3) lv (.int (if y < x then y else x) :: st) M o) : qv_V G X nL Q T cs pc lv (.int y :: .int x :: st) M o := fun a ha ls H locs h1 h2 h3 => va_mmin g.1 g.2.1 (by rw [g.2.2.1, h1.1]) g.2.2.2.1 (g.2.2.2.2.1 _ hl) (g.2.2.2.2.1 _ hs) (g.2.2.2.2.1 _ hi) (g.2.2.2.2.1 _ hw) g.2.2.2.2.2.2.2.2.1 (by have := g.2.2.2.2.2.2.2.2.2; omega) hc.1 hc.2 hd (k a ha ls H locs h1 h2 h3)
/-- the row of plain gates -/
theorem qv_gst (g : qv_ok G X cc own nL) {index : Nat} (hw : Cond.fieldLink own index "RootGates$Cliffords" "PLAIN_GATES" "[I" ∈ qv_gt) (hd : decode cc pc = .ok (.getstatic index, 3)) (k : qv_V G X nL Q T cs (pc + 3) lv (.ref X.2.2.1 :: st) M o) : qv_V G X nL Q T cs pc lv st M o := fun a ha ls H locs h1 h2 h3 => va_gets g.1 g.2.1 g.2.2.2.2.2.1.2.1 h3 g.2.2.2.1 (g.2.2.2.2.1 _ hw) (fun x h => h) hd (k a ha ls H locs h1 h2 h3)
theorem qv_plen (g : qv_ok G X cc own nL) (hd : decode cc pc = .ok (.arraylength, 1)) (k : qv_V G X nL Q T cs (pc + 1) lv (.int 5 :: st) M o) : qv_V G X nL Q T cs pc lv (.ref X.2.2.1 :: st) M o := by
  intro a ha ls H locs h1 h2 h3
  obtain ⟨cell, c1, c2, c3, c4, c5, c6, c7⟩ := g.2.2.2.2.2.1.2.2.1
  exact W.alen (n := 5) g.1 g.2.1 (by rw [h3.2.1 _ (Array.getElem?_eq_some_iff.mp c1).1 c7]; exact c1) c2 c5 rfl rfl hd (k a ha ls H locs h1 h2 h3)
theorem qv_pald (g : qv_ok G X cc own nL) {i : Int32} {kk : Int32 → Option α} (hd : decode cc pc = .ok (.iaload, 1)) (k : ∀ v, qv_V G X nL Q T cs (pc + 1) lv (.int v :: st) M (kk v)) : qv_V G X nL Q T cs pc lv (.int i :: .ref X.2.2.1 :: st) M (qv_ldP i kk) := by
  unfold qv_ldP
  refine qv_ite _ (fun hz => ?_) (fun _ => qv_none)
  have hin := qv_inb_in hz
  intro a ha ls H locs h1 h2 h3
  obtain ⟨cell, c1, c2, c3, c4, c5, c6, c7⟩ := g.2.2.2.2.2.1.2.2.1
  have hlt : i.toNatClampNeg < 5 := Nat.not_le.mp fun q => hin (Or.inr q)
  exact W.iald g.1 g.2.1 (by rw [h3.2.1 _ (Array.getElem?_eq_some_iff.mp c1).1 c7]; exact c1) c2 c3 (fun q => q.elim (fun q => hin (Or.inl q)) (fun q => by omega)) (c6 _ hlt) rfl rfl hd (k _ a ha ls H locs h1 h2 h3)
end QC
end
