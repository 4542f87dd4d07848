section
-- ===== PART A: goes FIRST, ahead of the names: the tables' words, and 'selects' of the private methods out of them =====
/-- a private method of a class that the tables say can be made, by its rows of tables_1 -/
def lw_okq (q : MethodName × Nat) : Prop := (q.1.cls ≠ "java/lang/invoke/MethodHandle" ∧ q.1.cls ≠ "java/lang/invoke/VarHandle") ∧ Cond.instantiable q.1.cls q.2 ∈ tables_1 ∧ Cond.privateMethod q.1 ∈ tables_1 ∧ Cond.instanceMethod q.1 ∈ tables_1
theorem lw_p0 : lw_okq (⟨"Factloom", "headsChanged", "()V"⟩, 16) := ⟨⟨by decide +kernel, by decide +kernel⟩, List.mem_of_getElem? (i := 40) (by decide +kernel), List.mem_of_getElem? (i := 356) (by decide +kernel), List.mem_of_getElem? (i := 357) (by decide +kernel)⟩
theorem lw_p1 : lw_okq (⟨"Factloom", "rulesChanged", "()V"⟩, 16) := ⟨⟨by decide +kernel, by decide +kernel⟩, List.mem_of_getElem? (i := 40) (by decide +kernel), List.mem_of_getElem? (i := 372) (by decide +kernel), List.mem_of_getElem? (i := 373) (by decide +kernel)⟩
theorem lw_p2 : lw_okq (⟨"Factloom", "toldChanged", "()V"⟩, 16) := ⟨⟨by decide +kernel, by decide +kernel⟩, List.mem_of_getElem? (i := 40) (by decide +kernel), List.mem_of_getElem? (i := 376) (by decide +kernel), List.mem_of_getElem? (i := 377) (by decide +kernel)⟩
theorem lw_p3 : lw_okq (⟨"Factloom", "settleAnswers", "()V"⟩, 16) := ⟨⟨by decide +kernel, by decide +kernel⟩, List.mem_of_getElem? (i := 40) (by decide +kernel), List.mem_of_getElem? (i := 409) (by decide +kernel), List.mem_of_getElem? (i := 410) (by decide +kernel)⟩
theorem lw_p4 : lw_okq (⟨"Factloom", "settleHeld", "()V"⟩, 16) := ⟨⟨by decide +kernel, by decide +kernel⟩, List.mem_of_getElem? (i := 40) (by decide +kernel), List.mem_of_getElem? (i := 413) (by decide +kernel), List.mem_of_getElem? (i := 414) (by decide +kernel)⟩
theorem lw_p5 : lw_okq (⟨"Factloom$Binding", "bindFirst", "(I)I"⟩, 2) := ⟨⟨by decide +kernel, by decide +kernel⟩, List.mem_of_getElem? (i := 160) (by decide +kernel), List.mem_of_getElem? (i := 434) (by decide +kernel), List.mem_of_getElem? (i := 435) (by decide +kernel)⟩
theorem lw_p6 : lw_okq (⟨"Factloom$Grounds", "add", "(IIII)V"⟩, 6) := ⟨⟨by decide +kernel, by decide +kernel⟩, List.mem_of_getElem? (i := 154) (by decide +kernel), List.mem_of_getElem? (i := 446) (by decide +kernel), List.mem_of_getElem? (i := 447) (by decide +kernel)⟩
theorem lw_p7 : lw_okq (⟨"Factloom$Binding", "headAbove", "(I)I"⟩, 2) := ⟨⟨by decide +kernel, by decide +kernel⟩, List.mem_of_getElem? (i := 160) (by decide +kernel), List.mem_of_getElem? (i := 455) (by decide +kernel), List.mem_of_getElem? (i := 456) (by decide +kernel)⟩
theorem lw_p8 : lw_okq (⟨"Factloom$Depths", "reach", "(II)V"⟩, 3) := ⟨⟨by decide +kernel, by decide +kernel⟩, List.mem_of_getElem? (i := 203) (by decide +kernel), List.mem_of_getElem? (i := 469) (by decide +kernel), List.mem_of_getElem? (i := 470) (by decide +kernel)⟩
theorem lw_p9 : lw_okq (⟨"Factloom$Depths", "grow", "(ILFactloom$Grounds;)Z"⟩, 3) := ⟨⟨by decide +kernel, by decide +kernel⟩, List.mem_of_getElem? (i := 203) (by decide +kernel), List.mem_of_getElem? (i := 474) (by decide +kernel), List.mem_of_getElem? (i := 475) (by decide +kernel)⟩
theorem lw_p10 : lw_okq (⟨"Factloom$Origins", "countWays", "(LFactloom$Depths;LFactloom$Grounds;)V"⟩, 3) := ⟨⟨by decide +kernel, by decide +kernel⟩, List.mem_of_getElem? (i := 221) (by decide +kernel), List.mem_of_getElem? (i := 491) (by decide +kernel), List.mem_of_getElem? (i := 492) (by decide +kernel)⟩
theorem lw_p11 : lw_okq (⟨"Factloom$Origins", "startMerits", "(LFactloom$Rows;)V"⟩, 3) := ⟨⟨by decide +kernel, by decide +kernel⟩, List.mem_of_getElem? (i := 221) (by decide +kernel), List.mem_of_getElem? (i := 504) (by decide +kernel), List.mem_of_getElem? (i := 505) (by decide +kernel)⟩
theorem lw_p12 : lw_okq (⟨"Factloom$Origins", "raise", "(II)Z"⟩, 3) := ⟨⟨by decide +kernel, by decide +kernel⟩, List.mem_of_getElem? (i := 221) (by decide +kernel), List.mem_of_getElem? (i := 509) (by decide +kernel), List.mem_of_getElem? (i := 510) (by decide +kernel)⟩
theorem lw_p13 : lw_okq (⟨"Factloom$Origins", "raiseMerits", "(LFactloom$Grounds;)Z"⟩, 3) := ⟨⟨by decide +kernel, by decide +kernel⟩, List.mem_of_getElem? (i := 221) (by decide +kernel), List.mem_of_getElem? (i := 513) (by decide +kernel), List.mem_of_getElem? (i := 514) (by decide +kernel)⟩
theorem lw_p14 : lw_okq (⟨"Factloom$Question", "allHold", "(LFactloom$Depths;)Z"⟩, 9) := ⟨⟨by decide +kernel, by decide +kernel⟩, List.mem_of_getElem? (i := 240) (by decide +kernel), List.mem_of_getElem? (i := 525) (by decide +kernel), List.mem_of_getElem? (i := 526) (by decide +kernel)⟩
theorem lw_p15 : lw_okq (⟨"Factloom$Question", "isRefused", "(LFactloom$Depths;)Z"⟩, 9) := ⟨⟨by decide +kernel, by decide +kernel⟩, List.mem_of_getElem? (i := 240) (by decide +kernel), List.mem_of_getElem? (i := 532) (by decide +kernel), List.mem_of_getElem? (i := 533) (by decide +kernel)⟩
def lw_privs_1 : List (MethodName × Nat) := [(⟨"Factloom", "headsChanged", "()V"⟩, 16), (⟨"Factloom", "rulesChanged", "()V"⟩, 16), (⟨"Factloom", "toldChanged", "()V"⟩, 16), (⟨"Factloom", "settleAnswers", "()V"⟩, 16), (⟨"Factloom", "settleHeld", "()V"⟩, 16), (⟨"Factloom$Binding", "bindFirst", "(I)I"⟩, 2), (⟨"Factloom$Grounds", "add", "(IIII)V"⟩, 6), (⟨"Factloom$Binding", "headAbove", "(I)I"⟩, 2), (⟨"Factloom$Depths", "reach", "(II)V"⟩, 3), (⟨"Factloom$Depths", "grow", "(ILFactloom$Grounds;)Z"⟩, 3), (⟨"Factloom$Origins", "countWays", "(LFactloom$Depths;LFactloom$Grounds;)V"⟩, 3), (⟨"Factloom$Origins", "startMerits", "(LFactloom$Rows;)V"⟩, 3), (⟨"Factloom$Origins", "raise", "(II)Z"⟩, 3), (⟨"Factloom$Origins", "raiseMerits", "(LFactloom$Grounds;)Z"⟩, 3), (⟨"Factloom$Question", "allHold", "(LFactloom$Depths;)Z"⟩, 9), (⟨"Factloom$Question", "isRefused", "(LFactloom$Depths;)Z"⟩, 9)]
theorem lw_r1 : ∀ q ∈ lw_privs_1, lw_okq q := List.forall_mem_cons.mpr ⟨lw_p0, List.forall_mem_cons.mpr ⟨lw_p1, List.forall_mem_cons.mpr ⟨lw_p2, List.forall_mem_cons.mpr ⟨lw_p3, List.forall_mem_cons.mpr ⟨lw_p4, List.forall_mem_cons.mpr ⟨lw_p5, List.forall_mem_cons.mpr ⟨lw_p6, List.forall_mem_cons.mpr ⟨lw_p7, List.forall_mem_cons.mpr ⟨lw_p8, List.forall_mem_cons.mpr ⟨lw_p9, List.forall_mem_cons.mpr ⟨lw_p10, List.forall_mem_cons.mpr ⟨lw_p11, List.forall_mem_cons.mpr ⟨lw_p12, List.forall_mem_cons.mpr ⟨lw_p13, List.forall_mem_cons.mpr ⟨lw_p14, List.forall_mem_cons.mpr ⟨lw_p15, fun _ h => absurd h List.not_mem_nil⟩⟩⟩⟩⟩⟩⟩⟩⟩⟩⟩⟩⟩⟩⟩⟩
theorem lw_p16 : lw_okq (⟨"Factloom$Question", "coversLetters", "(I)Z"⟩, 9) := ⟨⟨by decide +kernel, by decide +kernel⟩, List.mem_of_getElem? (i := 240) (by decide +kernel), List.mem_of_getElem? (i := 567) (by decide +kernel), List.mem_of_getElem? (i := 568) (by decide +kernel)⟩
theorem lw_p17 : lw_okq (⟨"Factloom$Question", "powerOver", "(II)I"⟩, 9) := ⟨⟨by decide +kernel, by decide +kernel⟩, List.mem_of_getElem? (i := 240) (by decide +kernel), List.mem_of_getElem? (i := 572) (by decide +kernel), List.mem_of_getElem? (i := 573) (by decide +kernel)⟩
theorem lw_p18 : lw_okq (⟨"Factloom$Question", "productOf", "(I)J"⟩, 9) := ⟨⟨by decide +kernel, by decide +kernel⟩, List.mem_of_getElem? (i := 240) (by decide +kernel), List.mem_of_getElem? (i := 576) (by decide +kernel), List.mem_of_getElem? (i := 577) (by decide +kernel)⟩
theorem lw_p19 : lw_okq (⟨"Factloom", "tryBatch", "()V"⟩, 16) := ⟨⟨by decide +kernel, by decide +kernel⟩, List.mem_of_getElem? (i := 40) (by decide +kernel), List.mem_of_getElem? (i := 587) (by decide +kernel), List.mem_of_getElem? (i := 588) (by decide +kernel)⟩
theorem lw_p20 : lw_okq (⟨"Factloom$Rows", "end", "(II)V"⟩, 6) := ⟨⟨by decide +kernel, by decide +kernel⟩, List.mem_of_getElem? (i := 88) (by decide +kernel), List.mem_of_getElem? (i := 600) (by decide +kernel), List.mem_of_getElem? (i := 601) (by decide +kernel)⟩
theorem lw_p21 : lw_okq (⟨"Factloom$Rows", "begin", "(IIII)V"⟩, 6) := ⟨⟨by decide +kernel, by decide +kernel⟩, List.mem_of_getElem? (i := 88) (by decide +kernel), List.mem_of_getElem? (i := 604) (by decide +kernel), List.mem_of_getElem? (i := 605) (by decide +kernel)⟩
theorem lw_p22 : lw_okq (⟨"Factloom$Rows", "openRowOf", "(I)I"⟩, 6) := ⟨⟨by decide +kernel, by decide +kernel⟩, List.mem_of_getElem? (i := 88) (by decide +kernel), List.mem_of_getElem? (i := 608) (by decide +kernel), List.mem_of_getElem? (i := 609) (by decide +kernel)⟩
theorem lw_p23 : lw_okq (⟨"Factloom$ToldTable", "isBrokenFor", "(ILFactloom$Names;)Z"⟩, 1) := ⟨⟨by decide +kernel, by decide +kernel⟩, List.mem_of_getElem? (i := 119) (by decide +kernel), List.mem_of_getElem? (i := 619) (by decide +kernel), List.mem_of_getElem? (i := 620) (by decide +kernel)⟩
theorem lw_p24 : lw_okq (⟨"Factloom", "isAllSound", "()Z"⟩, 16) := ⟨⟨by decide +kernel, by decide +kernel⟩, List.mem_of_getElem? (i := 40) (by decide +kernel), List.mem_of_getElem? (i := 634) (by decide +kernel), List.mem_of_getElem? (i := 635) (by decide +kernel)⟩
theorem lw_p25 : lw_okq (⟨"Factloom", "areTriplesSound", "()Z"⟩, 16) := ⟨⟨by decide +kernel, by decide +kernel⟩, List.mem_of_getElem? (i := 40) (by decide +kernel), List.mem_of_getElem? (i := 638) (by decide +kernel), List.mem_of_getElem? (i := 639) (by decide +kernel)⟩
theorem lw_p26 : lw_okq (⟨"Factloom", "storeNumber", "(I)I"⟩, 16) := ⟨⟨by decide +kernel, by decide +kernel⟩, List.mem_of_getElem? (i := 40) (by decide +kernel), List.mem_of_getElem? (i := 655) (by decide +kernel), List.mem_of_getElem? (i := 656) (by decide +kernel)⟩
theorem lw_p27 : lw_okq (⟨"Factloom", "mixHeld", "(J)J"⟩, 16) := ⟨⟨by decide +kernel, by decide +kernel⟩, List.mem_of_getElem? (i := 40) (by decide +kernel), List.mem_of_getElem? (i := 664) (by decide +kernel), List.mem_of_getElem? (i := 665) (by decide +kernel)⟩
theorem lw_p28 : lw_okq (⟨"Factloom", "factNumber", "(II)I"⟩, 16) := ⟨⟨by decide +kernel, by decide +kernel⟩, List.mem_of_getElem? (i := 40) (by decide +kernel), List.mem_of_getElem? (i := 668) (by decide +kernel), List.mem_of_getElem? (i := 669) (by decide +kernel)⟩
theorem lw_p29 : lw_okq (⟨"Factloom", "mixAnswers", "(J)J"⟩, 16) := ⟨⟨by decide +kernel, by decide +kernel⟩, List.mem_of_getElem? (i := 40) (by decide +kernel), List.mem_of_getElem? (i := 678) (by decide +kernel), List.mem_of_getElem? (i := 679) (by decide +kernel)⟩
theorem lw_p30 : lw_okq (⟨"Factloom", "toldCount", "(I)I"⟩, 16) := ⟨⟨by decide +kernel, by decide +kernel⟩, List.mem_of_getElem? (i := 40) (by decide +kernel), List.mem_of_getElem? (i := 682) (by decide +kernel), List.mem_of_getElem? (i := 683) (by decide +kernel)⟩
theorem lw_p31 : lw_okq (⟨"Factloom", "chainLength", "(III)I"⟩, 16) := ⟨⟨by decide +kernel, by decide +kernel⟩, List.mem_of_getElem? (i := 40) (by decide +kernel), List.mem_of_getElem? (i := 687) (by decide +kernel), List.mem_of_getElem? (i := 688) (by decide +kernel)⟩
def lw_privs_2 : List (MethodName × Nat) := [(⟨"Factloom$Question", "coversLetters", "(I)Z"⟩, 9), (⟨"Factloom$Question", "powerOver", "(II)I"⟩, 9), (⟨"Factloom$Question", "productOf", "(I)J"⟩, 9), (⟨"Factloom", "tryBatch", "()V"⟩, 16), (⟨"Factloom$Rows", "end", "(II)V"⟩, 6), (⟨"Factloom$Rows", "begin", "(IIII)V"⟩, 6), (⟨"Factloom$Rows", "openRowOf", "(I)I"⟩, 6), (⟨"Factloom$ToldTable", "isBrokenFor", "(ILFactloom$Names;)Z"⟩, 1), (⟨"Factloom", "isAllSound", "()Z"⟩, 16), (⟨"Factloom", "areTriplesSound", "()Z"⟩, 16), (⟨"Factloom", "storeNumber", "(I)I"⟩, 16), (⟨"Factloom", "mixHeld", "(J)J"⟩, 16), (⟨"Factloom", "factNumber", "(II)I"⟩, 16), (⟨"Factloom", "mixAnswers", "(J)J"⟩, 16), (⟨"Factloom", "toldCount", "(I)I"⟩, 16), (⟨"Factloom", "chainLength", "(III)I"⟩, 16)]
theorem lw_r2 : ∀ q ∈ lw_privs_2, lw_okq q := List.forall_mem_cons.mpr ⟨lw_p16, List.forall_mem_cons.mpr ⟨lw_p17, List.forall_mem_cons.mpr ⟨lw_p18, List.forall_mem_cons.mpr ⟨lw_p19, List.forall_mem_cons.mpr ⟨lw_p20, List.forall_mem_cons.mpr ⟨lw_p21, List.forall_mem_cons.mpr ⟨lw_p22, List.forall_mem_cons.mpr ⟨lw_p23, List.forall_mem_cons.mpr ⟨lw_p24, List.forall_mem_cons.mpr ⟨lw_p25, List.forall_mem_cons.mpr ⟨lw_p26, List.forall_mem_cons.mpr ⟨lw_p27, List.forall_mem_cons.mpr ⟨lw_p28, List.forall_mem_cons.mpr ⟨lw_p29, List.forall_mem_cons.mpr ⟨lw_p30, List.forall_mem_cons.mpr ⟨lw_p31, fun _ h => absurd h List.not_mem_nil⟩⟩⟩⟩⟩⟩⟩⟩⟩⟩⟩⟩⟩⟩⟩⟩
theorem lw_p32 : lw_okq (⟨"Factloom", "behind", "(II)I"⟩, 16) := ⟨⟨by decide +kernel, by decide +kernel⟩, List.mem_of_getElem? (i := 40) (by decide +kernel), List.mem_of_getElem? (i := 692) (by decide +kernel), List.mem_of_getElem? (i := 693) (by decide +kernel)⟩
theorem lw_p33 : lw_okq (⟨"java/lang/Throwable", "fillInStackTrace", "(I)Ljava/lang/Throwable;"⟩, 6) := ⟨⟨by decide +kernel, by decide +kernel⟩, List.mem_of_getElem? (i := 759) (by decide +kernel), List.mem_of_getElem? (i := 757) (by decide +kernel), List.mem_of_getElem? (i := 758) (by decide +kernel)⟩
theorem lw_p34 : lw_okq (⟨"Factloom", "checkBatchRoom", "()V"⟩, 16) := ⟨⟨by decide +kernel, by decide +kernel⟩, List.mem_of_getElem? (i := 40) (by decide +kernel), List.mem_of_getElem? (i := 790) (by decide +kernel), List.mem_of_getElem? (i := 791) (by decide +kernel)⟩
theorem lw_p35 : lw_okq (⟨"Factloom", "checkMoment", "(I)V"⟩, 16) := ⟨⟨by decide +kernel, by decide +kernel⟩, List.mem_of_getElem? (i := 40) (by decide +kernel), List.mem_of_getElem? (i := 950) (by decide +kernel), List.mem_of_getElem? (i := 951) (by decide +kernel)⟩
theorem lw_p36 : lw_okq (⟨"Factloom", "originText", "(I)Ljava/lang/String;"⟩, 16) := ⟨⟨by decide +kernel, by decide +kernel⟩, List.mem_of_getElem? (i := 40) (by decide +kernel), List.mem_of_getElem? (i := 994) (by decide +kernel), List.mem_of_getElem? (i := 995) (by decide +kernel)⟩
theorem lw_p37 : lw_okq (⟨"FactloomModel", "refuse", "(I)I"⟩, 12) := ⟨⟨by decide +kernel, by decide +kernel⟩, List.mem_of_getElem? (i := 1279) (by decide +kernel), List.mem_of_getElem? (i := 1368) (by decide +kernel), List.mem_of_getElem? (i := 1369) (by decide +kernel)⟩
theorem lw_p38 : lw_okq (⟨"java/util/ArrayList", "add", "(Ljava/lang/Object;[Ljava/lang/Object;I)V"⟩, 3) := ⟨⟨by decide +kernel, by decide +kernel⟩, List.mem_of_getElem? (i := 1285) (by decide +kernel), List.mem_of_getElem? (i := 1380) (by decide +kernel), List.mem_of_getElem? (i := 1381) (by decide +kernel)⟩
theorem lw_p39 : lw_okq (⟨"java/util/ArrayList", "grow", "()[Ljava/lang/Object;"⟩, 3) := ⟨⟨by decide +kernel, by decide +kernel⟩, List.mem_of_getElem? (i := 1285) (by decide +kernel), List.mem_of_getElem? (i := 1384) (by decide +kernel), List.mem_of_getElem? (i := 1385) (by decide +kernel)⟩
theorem lw_p40 : lw_okq (⟨"java/util/ArrayList", "grow", "(I)[Ljava/lang/Object;"⟩, 3) := ⟨⟨by decide +kernel, by decide +kernel⟩, List.mem_of_getElem? (i := 1285) (by decide +kernel), List.mem_of_getElem? (i := 1388) (by decide +kernel), List.mem_of_getElem? (i := 1389) (by decide +kernel)⟩
theorem lw_p41 : lw_okq (⟨"FactloomModel", "committed", "()Ljava/util/ArrayList;"⟩, 12) := ⟨⟨by decide +kernel, by decide +kernel⟩, List.mem_of_getElem? (i := 1279) (by decide +kernel), List.mem_of_getElem? (i := 1446) (by decide +kernel), List.mem_of_getElem? (i := 1447) (by decide +kernel)⟩
theorem lw_p42 : lw_okq (⟨"FactloomModel", "place", "(I)I"⟩, 12) := ⟨⟨by decide +kernel, by decide +kernel⟩, List.mem_of_getElem? (i := 1279) (by decide +kernel), List.mem_of_getElem? (i := 1522) (by decide +kernel), List.mem_of_getElem? (i := 1523) (by decide +kernel)⟩
theorem lw_p43 : lw_okq (⟨"FactloomModel", "place", "(I[I)I"⟩, 12) := ⟨⟨by decide +kernel, by decide +kernel⟩, List.mem_of_getElem? (i := 1279) (by decide +kernel), List.mem_of_getElem? (i := 1529) (by decide +kernel), List.mem_of_getElem? (i := 1530) (by decide +kernel)⟩
theorem lw_p44 : lw_okq (⟨"FactloomModel", "broken", "(Ljava/util/ArrayList;I)I"⟩, 12) := ⟨⟨by decide +kernel, by decide +kernel⟩, List.mem_of_getElem? (i := 1279) (by decide +kernel), List.mem_of_getElem? (i := 1534) (by decide +kernel), List.mem_of_getElem? (i := 1535) (by decide +kernel)⟩
theorem lw_p45 : lw_okq (⟨"FactloomModel", "told", "(Ljava/util/ArrayList;II)[Z"⟩, 12) := ⟨⟨by decide +kernel, by decide +kernel⟩, List.mem_of_getElem? (i := 1279) (by decide +kernel), List.mem_of_getElem? (i := 1538) (by decide +kernel), List.mem_of_getElem? (i := 1539) (by decide +kernel)⟩
theorem lw_p46 : lw_okq (⟨"FactloomModel", "forget", "()V"⟩, 12) := ⟨⟨by decide +kernel, by decide +kernel⟩, List.mem_of_getElem? (i := 1279) (by decide +kernel), List.mem_of_getElem? (i := 1542) (by decide +kernel), List.mem_of_getElem? (i := 1543) (by decide +kernel)⟩
theorem lw_p47 : lw_okq (⟨"FactloomModel", "countHeads", "()I"⟩, 12) := ⟨⟨by decide +kernel, by decide +kernel⟩, List.mem_of_getElem? (i := 1279) (by decide +kernel), List.mem_of_getElem? (i := 1559) (by decide +kernel), List.mem_of_getElem? (i := 1560) (by decide +kernel)⟩
def lw_privs_3 : List (MethodName × Nat) := [(⟨"Factloom", "behind", "(II)I"⟩, 16), (⟨"java/lang/Throwable", "fillInStackTrace", "(I)Ljava/lang/Throwable;"⟩, 6), (⟨"Factloom", "checkBatchRoom", "()V"⟩, 16), (⟨"Factloom", "checkMoment", "(I)V"⟩, 16), (⟨"Factloom", "originText", "(I)Ljava/lang/String;"⟩, 16), (⟨"FactloomModel", "refuse", "(I)I"⟩, 12), (⟨"java/util/ArrayList", "add", "(Ljava/lang/Object;[Ljava/lang/Object;I)V"⟩, 3), (⟨"java/util/ArrayList", "grow", "()[Ljava/lang/Object;"⟩, 3), (⟨"java/util/ArrayList", "grow", "(I)[Ljava/lang/Object;"⟩, 3), (⟨"FactloomModel", "committed", "()Ljava/util/ArrayList;"⟩, 12), (⟨"FactloomModel", "place", "(I)I"⟩, 12), (⟨"FactloomModel", "place", "(I[I)I"⟩, 12), (⟨"FactloomModel", "broken", "(Ljava/util/ArrayList;I)I"⟩, 12), (⟨"FactloomModel", "told", "(Ljava/util/ArrayList;II)[Z"⟩, 12), (⟨"FactloomModel", "forget", "()V"⟩, 12), (⟨"FactloomModel", "countHeads", "()I"⟩, 12)]
theorem lw_r3 : ∀ q ∈ lw_privs_3, lw_okq q := List.forall_mem_cons.mpr ⟨lw_p32, List.forall_mem_cons.mpr ⟨lw_p33, List.forall_mem_cons.mpr ⟨lw_p34, List.forall_mem_cons.mpr ⟨lw_p35, List.forall_mem_cons.mpr ⟨lw_p36, List.forall_mem_cons.mpr ⟨lw_p37, List.forall_mem_cons.mpr ⟨lw_p38, List.forall_mem_cons.mpr ⟨lw_p39, List.forall_mem_cons.mpr ⟨lw_p40, List.forall_mem_cons.mpr ⟨lw_p41, List.forall_mem_cons.mpr ⟨lw_p42, List.forall_mem_cons.mpr ⟨lw_p43, List.forall_mem_cons.mpr ⟨lw_p44, List.forall_mem_cons.mpr ⟨lw_p45, List.forall_mem_cons.mpr ⟨lw_p46, List.forall_mem_cons.mpr ⟨lw_p47, fun _ h => absurd h List.not_mem_nil⟩⟩⟩⟩⟩⟩⟩⟩⟩⟩⟩⟩⟩⟩⟩⟩
theorem lw_p48 : lw_okq (⟨"FactloomModel", "isHead", "(I)Z"⟩, 12) := ⟨⟨by decide +kernel, by decide +kernel⟩, List.mem_of_getElem? (i := 1279) (by decide +kernel), List.mem_of_getElem? (i := 1563) (by decide +kernel), List.mem_of_getElem? (i := 1564) (by decide +kernel)⟩
theorem lw_p49 : lw_okq (⟨"java/util/ArrayList", "fastRemove", "([Ljava/lang/Object;I)V"⟩, 3) := ⟨⟨by decide +kernel, by decide +kernel⟩, List.mem_of_getElem? (i := 1285) (by decide +kernel), List.mem_of_getElem? (i := 1598) (by decide +kernel), List.mem_of_getElem? (i := 1599) (by decide +kernel)⟩
theorem lw_p50 : lw_okq (⟨"FactloomModel", "ofFactNow", "(II)I"⟩, 12) := ⟨⟨by decide +kernel, by decide +kernel⟩, List.mem_of_getElem? (i := 1279) (by decide +kernel), List.mem_of_getElem? (i := 1639) (by decide +kernel), List.mem_of_getElem? (i := 1640) (by decide +kernel)⟩
theorem lw_p51 : lw_okq (⟨"FactloomModel", "depthsNow", "()[I"⟩, 12) := ⟨⟨by decide +kernel, by decide +kernel⟩, List.mem_of_getElem? (i := 1279) (by decide +kernel), List.mem_of_getElem? (i := 1643) (by decide +kernel), List.mem_of_getElem? (i := 1644) (by decide +kernel)⟩
theorem lw_p52 : lw_okq (⟨"FactloomModel", "depths", "([Z)[I"⟩, 12) := ⟨⟨by decide +kernel, by decide +kernel⟩, List.mem_of_getElem? (i := 1279) (by decide +kernel), List.mem_of_getElem? (i := 1647) (by decide +kernel), List.mem_of_getElem? (i := 1648) (by decide +kernel)⟩
theorem lw_p53 : lw_okq (⟨"FactloomModel", "next", "([II)Z"⟩, 12) := ⟨⟨by decide +kernel, by decide +kernel⟩, List.mem_of_getElem? (i := 1279) (by decide +kernel), List.mem_of_getElem? (i := 1654) (by decide +kernel), List.mem_of_getElem? (i := 1655) (by decide +kernel)⟩
theorem lw_p54 : lw_okq (⟨"FactloomModel", "waysNow", "([II)I"⟩, 12) := ⟨⟨by decide +kernel, by decide +kernel⟩, List.mem_of_getElem? (i := 1279) (by decide +kernel), List.mem_of_getElem? (i := 1658) (by decide +kernel), List.mem_of_getElem? (i := 1659) (by decide +kernel)⟩
theorem lw_p55 : lw_okq (⟨"FactloomModel", "merits", "()[I"⟩, 12) := ⟨⟨by decide +kernel, by decide +kernel⟩, List.mem_of_getElem? (i := 1279) (by decide +kernel), List.mem_of_getElem? (i := 1662) (by decide +kernel), List.mem_of_getElem? (i := 1663) (by decide +kernel)⟩
theorem lw_p56 : lw_okq (⟨"FactloomModel", "meritsNow", "()[I"⟩, 12) := ⟨⟨by decide +kernel, by decide +kernel⟩, List.mem_of_getElem? (i := 1279) (by decide +kernel), List.mem_of_getElem? (i := 1666) (by decide +kernel), List.mem_of_getElem? (i := 1667) (by decide +kernel)⟩
theorem lw_p57 : lw_okq (⟨"FactloomModel", "since", "(I)I"⟩, 12) := ⟨⟨by decide +kernel, by decide +kernel⟩, List.mem_of_getElem? (i := 1279) (by decide +kernel), List.mem_of_getElem? (i := 1670) (by decide +kernel), List.mem_of_getElem? (i := 1671) (by decide +kernel)⟩
theorem lw_p58 : lw_okq (⟨"FactloomModel", "answersNow", "([I)Ljava/util/ArrayList;"⟩, 12) := ⟨⟨by decide +kernel, by decide +kernel⟩, List.mem_of_getElem? (i := 1279) (by decide +kernel), List.mem_of_getElem? (i := 1692) (by decide +kernel), List.mem_of_getElem? (i := 1693) (by decide +kernel)⟩
theorem lw_p59 : lw_okq (⟨"FactloomModel", "lettersOfAll", "()I"⟩, 12) := ⟨⟨by decide +kernel, by decide +kernel⟩, List.mem_of_getElem? (i := 1279) (by decide +kernel), List.mem_of_getElem? (i := 1696) (by decide +kernel), List.mem_of_getElem? (i := 1697) (by decide +kernel)⟩
theorem lw_p60 : lw_okq (⟨"FactloomModel", "isDenied", "([I[II)Z"⟩, 12) := ⟨⟨by decide +kernel, by decide +kernel⟩, List.mem_of_getElem? (i := 1279) (by decide +kernel), List.mem_of_getElem? (i := 1713) (by decide +kernel), List.mem_of_getElem? (i := 1714) (by decide +kernel)⟩
theorem lw_p61 : lw_okq (⟨"FactloomModel", "sizeNow", "([II)I"⟩, 12) := ⟨⟨by decide +kernel, by decide +kernel⟩, List.mem_of_getElem? (i := 1279) (by decide +kernel), List.mem_of_getElem? (i := 1728) (by decide +kernel), List.mem_of_getElem? (i := 1729) (by decide +kernel)⟩
theorem lw_p62 : lw_okq (⟨"FactloomModel", "boundNow", "([I)J"⟩, 12) := ⟨⟨by decide +kernel, by decide +kernel⟩, List.mem_of_getElem? (i := 1279) (by decide +kernel), List.mem_of_getElem? (i := 1736) (by decide +kernel), List.mem_of_getElem? (i := 1737) (by decide +kernel)⟩
theorem lw_p63 : lw_okq (⟨"FactloomModel", "covers", "([I)Z"⟩, 12) := ⟨⟨by decide +kernel, by decide +kernel⟩, List.mem_of_getElem? (i := 1279) (by decide +kernel), List.mem_of_getElem? (i := 1741) (by decide +kernel), List.mem_of_getElem? (i := 1742) (by decide +kernel)⟩
def lw_privs_4 : List (MethodName × Nat) := [(⟨"FactloomModel", "isHead", "(I)Z"⟩, 12), (⟨"java/util/ArrayList", "fastRemove", "([Ljava/lang/Object;I)V"⟩, 3), (⟨"FactloomModel", "ofFactNow", "(II)I"⟩, 12), (⟨"FactloomModel", "depthsNow", "()[I"⟩, 12), (⟨"FactloomModel", "depths", "([Z)[I"⟩, 12), (⟨"FactloomModel", "next", "([II)Z"⟩, 12), (⟨"FactloomModel", "waysNow", "([II)I"⟩, 12), (⟨"FactloomModel", "merits", "()[I"⟩, 12), (⟨"FactloomModel", "meritsNow", "()[I"⟩, 12), (⟨"FactloomModel", "since", "(I)I"⟩, 12), (⟨"FactloomModel", "answersNow", "([I)Ljava/util/ArrayList;"⟩, 12), (⟨"FactloomModel", "lettersOfAll", "()I"⟩, 12), (⟨"FactloomModel", "isDenied", "([I[II)Z"⟩, 12), (⟨"FactloomModel", "sizeNow", "([II)I"⟩, 12), (⟨"FactloomModel", "boundNow", "([I)J"⟩, 12), (⟨"FactloomModel", "covers", "([I)Z"⟩, 12)]
theorem lw_r4 : ∀ q ∈ lw_privs_4, lw_okq q := List.forall_mem_cons.mpr ⟨lw_p48, List.forall_mem_cons.mpr ⟨lw_p49, List.forall_mem_cons.mpr ⟨lw_p50, List.forall_mem_cons.mpr ⟨lw_p51, List.forall_mem_cons.mpr ⟨lw_p52, List.forall_mem_cons.mpr ⟨lw_p53, List.forall_mem_cons.mpr ⟨lw_p54, List.forall_mem_cons.mpr ⟨lw_p55, List.forall_mem_cons.mpr ⟨lw_p56, List.forall_mem_cons.mpr ⟨lw_p57, List.forall_mem_cons.mpr ⟨lw_p58, List.forall_mem_cons.mpr ⟨lw_p59, List.forall_mem_cons.mpr ⟨lw_p60, List.forall_mem_cons.mpr ⟨lw_p61, List.forall_mem_cons.mpr ⟨lw_p62, List.forall_mem_cons.mpr ⟨lw_p63, fun _ h => absurd h List.not_mem_nil⟩⟩⟩⟩⟩⟩⟩⟩⟩⟩⟩⟩⟩⟩⟩⟩
theorem lw_p64 : lw_okq (⟨"FactloomModel", "chainNow", "([IIII)I"⟩, 12) := ⟨⟨by decide +kernel, by decide +kernel⟩, List.mem_of_getElem? (i := 1279) (by decide +kernel), List.mem_of_getElem? (i := 1750) (by decide +kernel), List.mem_of_getElem? (i := 1751) (by decide +kernel)⟩
theorem lw_p65 : lw_okq (⟨"FactloomModel", "whyNow", "(I)Ljava/lang/String;"⟩, 12) := ⟨⟨by decide +kernel, by decide +kernel⟩, List.mem_of_getElem? (i := 1279) (by decide +kernel), List.mem_of_getElem? (i := 1764) (by decide +kernel), List.mem_of_getElem? (i := 1765) (by decide +kernel)⟩
theorem lw_p66 : lw_okq (⟨"FactloomModel", "storeNow", "([II)I"⟩, 12) := ⟨⟨by decide +kernel, by decide +kernel⟩, List.mem_of_getElem? (i := 1279) (by decide +kernel), List.mem_of_getElem? (i := 1785) (by decide +kernel), List.mem_of_getElem? (i := 1786) (by decide +kernel)⟩
theorem lw_p67 : lw_okq (⟨"FactloomModel", "isSoundNow", "([I[I)Z"⟩, 12) := ⟨⟨by decide +kernel, by decide +kernel⟩, List.mem_of_getElem? (i := 1279) (by decide +kernel), List.mem_of_getElem? (i := 1807) (by decide +kernel), List.mem_of_getElem? (i := 1808) (by decide +kernel)⟩
theorem lw_p68 : lw_okq (⟨"FactloomModel", "hasWay", "([II)Z"⟩, 12) := ⟨⟨by decide +kernel, by decide +kernel⟩, List.mem_of_getElem? (i := 1279) (by decide +kernel), List.mem_of_getElem? (i := 1811) (by decide +kernel), List.mem_of_getElem? (i := 1812) (by decide +kernel)⟩
theorem lw_p69 : lw_okq (⟨"FactloomModel", "add", "(J)V"⟩, 12) := ⟨⟨by decide +kernel, by decide +kernel⟩, List.mem_of_getElem? (i := 1279) (by decide +kernel), List.mem_of_getElem? (i := 1820) (by decide +kernel), List.mem_of_getElem? (i := 1821) (by decide +kernel)⟩
def lw_privs_5 : List (MethodName × Nat) := [(⟨"FactloomModel", "chainNow", "([IIII)I"⟩, 12), (⟨"FactloomModel", "whyNow", "(I)Ljava/lang/String;"⟩, 12), (⟨"FactloomModel", "storeNow", "([II)I"⟩, 12), (⟨"FactloomModel", "isSoundNow", "([I[I)Z"⟩, 12), (⟨"FactloomModel", "hasWay", "([II)Z"⟩, 12), (⟨"FactloomModel", "add", "(J)V"⟩, 12)]
theorem lw_r5 : ∀ q ∈ lw_privs_5, lw_okq q := List.forall_mem_cons.mpr ⟨lw_p64, List.forall_mem_cons.mpr ⟨lw_p65, List.forall_mem_cons.mpr ⟨lw_p66, List.forall_mem_cons.mpr ⟨lw_p67, List.forall_mem_cons.mpr ⟨lw_p68, List.forall_mem_cons.mpr ⟨lw_p69, fun _ h => absurd h List.not_mem_nil⟩⟩⟩⟩⟩⟩
def lw_privs : List (MethodName × Nat) := lw_privs_1 ++ (lw_privs_2 ++ (lw_privs_3 ++ (lw_privs_4 ++ (lw_privs_5))))
def lw_tbl : List Cond := k2_sels lw_privs ++ tables_1
theorem lw_privs_ok : ∀ q ∈ lw_privs, lw_okq q := by
  show ∀ q ∈ lw_privs_1 ++ (lw_privs_2 ++ (lw_privs_3 ++ (lw_privs_4 ++ (lw_privs_5)))), lw_okq q
  exact List.forall_mem_append.mpr ⟨lw_r1, List.forall_mem_append.mpr ⟨lw_r2, List.forall_mem_append.mpr ⟨lw_r3, List.forall_mem_append.mpr ⟨lw_r4, lw_r5⟩⟩⟩⟩

def RX0 : String := "Factloom$Batch"
def TX0 : u_T := fun k => match k with
  | 0 => ("Factloom$Batch", "triples", "[I", true)
  | 1 => ("Factloom$Batch", "trusts", "[I", true)
  | _ => ("Factloom$Batch", "count", "I", false)
def tyX0 : Nat → FieldType := fun k => match k with
  | 0 => .array .int
  | 1 => .array .int
  | _ => .int
abbrev wsX00 : List Cond := u_ws RX0 TX0 3
theorem nmX0 : ∀ a, a < 3 → ∀ b, b < 3 → a ≠ b → (TX0 a).2.1 ≠ (TX0 b).2.1 := by decide +kernel
theorem tyX0_ok : ∀ k, k < 3 → parseFieldDescriptor (TX0 k).2.2.1 = some (tyX0 k) := by decide +kernel
abbrev cX0_init : ByteArray := prog_2_method_1_code
def yX0_init : MethodName := ⟨RX0, "<init>", "()V"⟩
abbrev cX0_add : ByteArray := prog_2_method_2_code
def yX0_add : MethodName := ⟨RX0, "add", "(II)I"⟩
abbrev cX0_empty : ByteArray := prog_2_method_3_code
def yX0_empty : MethodName := ⟨RX0, "empty", "()I"⟩
def RX1 : String := "Factloom$Binding"
def TX1 : u_T := fun k => match k with
  | 0 => ("Factloom$Binding", "meaning", "[I", true)
  | _ => ("Factloom$Binding", "letters", "I", false)
def tyX1 : Nat → FieldType := fun k => match k with
  | 0 => .array .int
  | _ => .int
abbrev wsX10 : List Cond := u_ws RX1 TX1 2
theorem nmX1 : ∀ a, a < 2 → ∀ b, b < 2 → a ≠ b → (TX1 a).2.1 ≠ (TX1 b).2.1 := by decide +kernel
theorem tyX1_ok : ∀ k, k < 2 → parseFieldDescriptor (TX1 k).2.2.1 = some (tyX1 k) := by decide +kernel
abbrev cX1_init : ByteArray := prog_3_method_1_code
def yX1_init : MethodName := ⟨RX1, "<init>", "()V"⟩
abbrev cX1_start : ByteArray := prog_3_method_2_code
def yX1_start : MethodName := ⟨RX1, "start", "(LFactloom$Names;I)I"⟩
abbrev cX1_startInside : ByteArray := prog_3_method_3_code
def yX1_startInside : MethodName := ⟨RX1, "startInside", "(LFactloom$Binding;I)I"⟩
abbrev cX1_bindFirst : ByteArray := prog_3_method_4_code
def yX1_bindFirst : MethodName := ⟨RX1, "bindFirst", "(I)I"⟩
abbrev cX1_next : ByteArray := prog_3_method_5_code
def yX1_next : MethodName := ⟨RX1, "next", "()V"⟩
abbrev cX1_headAbove : ByteArray := prog_3_method_6_code
def yX1_headAbove : MethodName := ⟨RX1, "headAbove", "(I)I"⟩
abbrev cX1_tripleOf : ByteArray := prog_3_method_7_code
def yX1_tripleOf : MethodName := ⟨RX1, "tripleOf", "(I)I"⟩
abbrev cX1_number : ByteArray := prog_3_method_8_code
def yX1_number : MethodName := ⟨RX1, "number", "()I"⟩
def RX2 : String := "Factloom$Depths"
def TX2 : u_T := fun k => match k with
  | 0 => ("Factloom$Depths", "depth", "[I", true)
  | 1 => ("Factloom$Depths", "count", "I", false)
  | _ => ("Factloom$Depths", "greatest", "I", false)
def tyX2 : Nat → FieldType := fun k => match k with
  | 0 => .array .int
  | 1 => .int
  | _ => .int
abbrev wsX20 : List Cond := u_ws RX2 TX2 3
theorem nmX2 : ∀ a, a < 3 → ∀ b, b < 3 → a ≠ b → (TX2 a).2.1 ≠ (TX2 b).2.1 := by decide +kernel
theorem tyX2_ok : ∀ k, k < 3 → parseFieldDescriptor (TX2 k).2.2.1 = some (tyX2 k) := by decide +kernel
abbrev cX2_init : ByteArray := prog_4_method_1_code
def yX2_init : MethodName := ⟨RX2, "<init>", "()V"⟩
abbrev cX2_spread : ByteArray := prog_4_method_2_code
def yX2_spread : MethodName := ⟨RX2, "spread", "(LFactloom$ToldTable;ILFactloom$Grounds;)V"⟩
abbrev cX2_grow : ByteArray := prog_4_method_3_code
def yX2_grow : MethodName := ⟨RX2, "grow", "(ILFactloom$Grounds;)Z"⟩
abbrev cX2_reach : ByteArray := prog_4_method_4_code
def yX2_reach : MethodName := ⟨RX2, "reach", "(II)V"⟩
abbrev cX2_of : ByteArray := prog_4_method_5_code
def yX2_of : MethodName := ⟨RX2, "of", "(I)I"⟩
abbrev cX2_holds : ByteArray := prog_4_method_6_code
def yX2_holds : MethodName := ⟨RX2, "holds", "(I)Z"⟩
abbrev cX2_isBelow : ByteArray := prog_4_method_7_code
def yX2_isBelow : MethodName := ⟨RX2, "isBelow", "(II)Z"⟩
def RX3 : String := "Factloom$Grounds"
def TX3 : u_T := fun k => match k with
  | 0 => ("Factloom$Grounds", "ruleOf", "[I", true)
  | 1 => ("Factloom$Grounds", "made", "[I", true)
  | 2 => ("Factloom$Grounds", "one", "[I", true)
  | 3 => ("Factloom$Grounds", "other", "[I", true)
  | 4 => ("Factloom$Grounds", "binding", "LFactloom$Binding;", true)
  | _ => ("Factloom$Grounds", "count", "I", false)
def tyX3 : Nat → FieldType := fun k => match k with
  | 0 => .array .int
  | 1 => .array .int
  | 2 => .array .int
  | 3 => .array .int
  | 4 => .object "Factloom$Binding"
  | _ => .int
abbrev wsX30 : List Cond := u_ws RX3 TX3 6
theorem nmX3 : ∀ a, a < 6 → ∀ b, b < 6 → a ≠ b → (TX3 a).2.1 ≠ (TX3 b).2.1 := by decide +kernel
theorem tyX3_ok : ∀ k, k < 6 → parseFieldDescriptor (TX3 k).2.2.1 = some (tyX3 k) := by decide +kernel
abbrev cX3_init : ByteArray := prog_5_method_1_code
def yX3_init : MethodName := ⟨RX3, "<init>", "()V"⟩
abbrev cX3_build : ByteArray := prog_5_method_2_code
def yX3_build : MethodName := ⟨RX3, "build", "(LFactloom$Rules;LFactloom$Names;)V"⟩
abbrev cX3_add : ByteArray := prog_5_method_3_code
def yX3_add : MethodName := ⟨RX3, "add", "(IIII)V"⟩
def RX4 : String := "Factloom$Names"
def TX4 : u_T := fun k => match k with
  | 0 => ("Factloom$Names", "heads", "[I", true)
  | _ => ("Factloom$Names", "singles", "I", false)
def tyX4 : Nat → FieldType := fun k => match k with
  | 0 => .array .int
  | _ => .int
abbrev wsX40 : List Cond := u_ws RX4 TX4 2
theorem nmX4 : ∀ a, a < 2 → ∀ b, b < 2 → a ≠ b → (TX4 a).2.1 ≠ (TX4 b).2.1 := by decide +kernel
theorem tyX4_ok : ∀ k, k < 2 → parseFieldDescriptor (TX4 k).2.2.1 = some (tyX4 k) := by decide +kernel
abbrev cX4_init : ByteArray := prog_6_method_1_code
def yX4_init : MethodName := ⟨RX4, "<init>", "()V"⟩
abbrev cX4_separate : ByteArray := prog_6_method_2_code
def yX4_separate : MethodName := ⟨RX4, "separate", "()V"⟩
abbrev cX4_unite : ByteArray := prog_6_method_3_code
def yX4_unite : MethodName := ⟨RX4, "unite", "(II)I"⟩
abbrev cX4_setSingle : ByteArray := prog_6_method_4_code
def yX4_setSingle : MethodName := ⟨RX4, "setSingle", "(IZ)V"⟩
abbrev cX4_headOf : ByteArray := prog_6_method_5_code
def yX4_headOf : MethodName := ⟨RX4, "headOf", "(I)I"⟩
abbrev cX4_headsOf : ByteArray := prog_6_method_6_code
def yX4_headsOf : MethodName := ⟨RX4, "headsOf", "(I)I"⟩
abbrev cX4_isHead : ByteArray := prog_6_method_7_code
def yX4_isHead : MethodName := ⟨RX4, "isHead", "(I)Z"⟩
abbrev cX4_headCount : ByteArray := prog_6_method_8_code
def yX4_headCount : MethodName := ⟨RX4, "headCount", "()I"⟩
def RX5 : String := "Factloom$Origins"
def TX5 : u_T := fun k => match k with
  | 0 => ("Factloom$Origins", "ways", "[I", true)
  | 1 => ("Factloom$Origins", "first", "[I", true)
  | _ => ("Factloom$Origins", "merit", "[I", true)
def tyX5 : Nat → FieldType := fun k => match k with
  | 0 => .array .int
  | 1 => .array .int
  | _ => .array .int
abbrev wsX50 : List Cond := u_ws RX5 TX5 3
theorem nmX5 : ∀ a, a < 3 → ∀ b, b < 3 → a ≠ b → (TX5 a).2.1 ≠ (TX5 b).2.1 := by decide +kernel
theorem tyX5_ok : ∀ k, k < 3 → parseFieldDescriptor (TX5 k).2.2.1 = some (tyX5 k) := by decide +kernel
abbrev cX5_init : ByteArray := prog_7_method_1_code
def yX5_init : MethodName := ⟨RX5, "<init>", "()V"⟩
abbrev cX5_trace : ByteArray := prog_7_method_2_code
def yX5_trace : MethodName := ⟨RX5, "trace", "(LFactloom$Rows;LFactloom$Depths;LFactloom$Grounds;)V"⟩
abbrev cX5_countWays : ByteArray := prog_7_method_3_code
def yX5_countWays : MethodName := ⟨RX5, "countWays", "(LFactloom$Depths;LFactloom$Grounds;)V"⟩
abbrev cX5_startMerits : ByteArray := prog_7_method_4_code
def yX5_startMerits : MethodName := ⟨RX5, "startMerits", "(LFactloom$Rows;)V"⟩
abbrev cX5_raiseMerits : ByteArray := prog_7_method_5_code
def yX5_raiseMerits : MethodName := ⟨RX5, "raiseMerits", "(LFactloom$Grounds;)Z"⟩
abbrev cX5_raise : ByteArray := prog_7_method_6_code
def yX5_raise : MethodName := ⟨RX5, "raise", "(II)Z"⟩
def RX6 : String := "Factloom$Question"
def TX6 : u_T := fun k => match k with
  | 0 => ("Factloom$Question", "patterns", "[I", true)
  | 1 => ("Factloom$Question", "sizes", "[I", true)
  | 2 => ("Factloom$Question", "found", "[I", true)
  | 3 => ("Factloom$Question", "outer", "LFactloom$Binding;", true)
  | 4 => ("Factloom$Question", "inner", "LFactloom$Binding;", true)
  | 5 => ("Factloom$Question", "count", "I", false)
  | 6 => ("Factloom$Question", "letters", "I", false)
  | 7 => ("Factloom$Question", "notPattern", "I", false)
  | _ => ("Factloom$Question", "answerCount", "I", false)
def tyX6 : Nat → FieldType := fun k => match k with
  | 0 => .array .int
  | 1 => .array .int
  | 2 => .array .int
  | 3 => .object "Factloom$Binding"
  | 4 => .object "Factloom$Binding"
  | 5 => .int
  | 6 => .int
  | 7 => .int
  | _ => .int
abbrev wsX60 : List Cond := u_ws RX6 TX6 9
theorem nmX6 : ∀ a, a < 9 → ∀ b, b < 9 → a ≠ b → (TX6 a).2.1 ≠ (TX6 b).2.1 := by decide +kernel
theorem tyX6_ok : ∀ k, k < 9 → parseFieldDescriptor (TX6 k).2.2.1 = some (tyX6 k) := by decide +kernel
abbrev cX6_init : ByteArray := prog_8_method_1_code
def yX6_init : MethodName := ⟨RX6, "<init>", "()V"⟩
abbrev cX6_add : ByteArray := prog_8_method_2_code
def yX6_add : MethodName := ⟨RX6, "add", "(I)I"⟩
abbrev cX6_replaceNot : ByteArray := prog_8_method_3_code
def yX6_replaceNot : MethodName := ⟨RX6, "replaceNot", "(I)I"⟩
abbrev cX6_hasNot : ByteArray := prog_8_method_4_code
def yX6_hasNot : MethodName := ⟨RX6, "hasNot", "()Z"⟩
abbrev cX6_empty : ByteArray := prog_8_method_5_code
def yX6_empty : MethodName := ⟨RX6, "empty", "()I"⟩
abbrev cX6_find : ByteArray := prog_8_method_6_code
def yX6_find : MethodName := ⟨RX6, "find", "(LFactloom$Names;LFactloom$Depths;)V"⟩
abbrev cX6_allHold : ByteArray := prog_8_method_7_code
def yX6_allHold : MethodName := ⟨RX6, "allHold", "(LFactloom$Depths;)Z"⟩
abbrev cX6_isRefused : ByteArray := prog_8_method_8_code
def yX6_isRefused : MethodName := ⟨RX6, "isRefused", "(LFactloom$Depths;)Z"⟩
abbrev cX6_sizeOf : ByteArray := prog_8_method_9_code
def yX6_sizeOf : MethodName := ⟨RX6, "sizeOf", "(ILFactloom$Names;LFactloom$Depths;)I"⟩
abbrev cX6_answersBound : ByteArray := prog_8_method_10_code
def yX6_answersBound : MethodName := ⟨RX6, "answersBound", "(LFactloom$Names;LFactloom$Depths;)J"⟩
abbrev cX6_coversLetters : ByteArray := prog_8_method_11_code
def yX6_coversLetters : MethodName := ⟨RX6, "coversLetters", "(I)Z"⟩
abbrev cX6_powerOver : ByteArray := prog_8_method_12_code
def yX6_powerOver : MethodName := ⟨RX6, "powerOver", "(II)I"⟩
abbrev cX6_productOf : ByteArray := prog_8_method_13_code
def yX6_productOf : MethodName := ⟨RX6, "productOf", "(I)J"⟩
def RX7 : String := "Factloom$Rows"
def TX7 : u_T := fun k => match k with
  | 0 => ("Factloom$Rows", "triples", "[I", true)
  | 1 => ("Factloom$Rows", "heads", "[I", true)
  | 2 => ("Factloom$Rows", "trusts", "[I", true)
  | 3 => ("Factloom$Rows", "since", "[I", true)
  | 4 => ("Factloom$Rows", "till", "[I", true)
  | _ => ("Factloom$Rows", "count", "I", false)
def tyX7 : Nat → FieldType := fun k => match k with
  | 0 => .array .int
  | 1 => .array .int
  | 2 => .array .int
  | 3 => .array .int
  | 4 => .array .int
  | _ => .int
abbrev wsX70 : List Cond := u_ws RX7 TX7 6
theorem nmX7 : ∀ a, a < 6 → ∀ b, b < 6 → a ≠ b → (TX7 a).2.1 ≠ (TX7 b).2.1 := by decide +kernel
theorem tyX7_ok : ∀ k, k < 6 → parseFieldDescriptor (TX7 k).2.2.1 = some (tyX7 k) := by decide +kernel
abbrev cX7_init : ByteArray := prog_9_method_1_code
def yX7_init : MethodName := ⟨RX7, "<init>", "()V"⟩
abbrev cX7_copyFrom : ByteArray := prog_9_method_2_code
def yX7_copyFrom : MethodName := ⟨RX7, "copyFrom", "(LFactloom$Rows;)V"⟩
abbrev cX7_rename : ByteArray := prog_9_method_3_code
def yX7_rename : MethodName := ⟨RX7, "rename", "(LFactloom$Names;)V"⟩
abbrev cX7_take : ByteArray := prog_9_method_4_code
def yX7_take : MethodName := ⟨RX7, "take", "(LFactloom$Batch;ILFactloom$Names;)V"⟩
abbrev cX7_end : ByteArray := prog_9_method_5_code
def yX7_end : MethodName := ⟨RX7, "end", "(II)V"⟩
abbrev cX7_begin : ByteArray := prog_9_method_6_code
def yX7_begin : MethodName := ⟨RX7, "begin", "(IIII)V"⟩
abbrev cX7_openRowOf : ByteArray := prog_9_method_7_code
def yX7_openRowOf : MethodName := ⟨RX7, "openRowOf", "(I)I"⟩
abbrev cX7_isOpen : ByteArray := prog_9_method_8_code
def yX7_isOpen : MethodName := ⟨RX7, "isOpen", "(I)Z"⟩
abbrev cX7_holdsIn : ByteArray := prog_9_method_9_code
def yX7_holdsIn : MethodName := ⟨RX7, "holdsIn", "(II)Z"⟩
abbrev cX7_earliest : ByteArray := prog_9_method_10_code
def yX7_earliest : MethodName := ⟨RX7, "earliest", "(I)I"⟩
abbrev cX7_greatestTrust : ByteArray := prog_9_method_11_code
def yX7_greatestTrust : MethodName := ⟨RX7, "greatestTrust", "()I"⟩
def RX8 : String := "Factloom$Rules"
def TX8 : u_T := fun k => match k with
  | 0 => ("Factloom$Rules", "made", "[I", true)
  | 1 => ("Factloom$Rules", "one", "[I", true)
  | 2 => ("Factloom$Rules", "other", "[I", true)
  | _ => ("Factloom$Rules", "count", "I", false)
def tyX8 : Nat → FieldType := fun k => match k with
  | 0 => .array .int
  | 1 => .array .int
  | 2 => .array .int
  | _ => .int
abbrev wsX80 : List Cond := u_ws RX8 TX8 4
theorem nmX8 : ∀ a, a < 4 → ∀ b, b < 4 → a ≠ b → (TX8 a).2.1 ≠ (TX8 b).2.1 := by decide +kernel
theorem tyX8_ok : ∀ k, k < 4 → parseFieldDescriptor (TX8 k).2.2.1 = some (tyX8 k) := by decide +kernel
abbrev cX8_init : ByteArray := prog_10_method_1_code
def yX8_init : MethodName := ⟨RX8, "<init>", "()V"⟩
abbrev cX8_add : ByteArray := prog_10_method_2_code
def yX8_add : MethodName := ⟨RX8, "add", "(III)I"⟩
abbrev cX8_removeLast : ByteArray := prog_10_method_3_code
def yX8_removeLast : MethodName := ⟨RX8, "removeLast", "()I"⟩
def RX9 : String := "Factloom$ToldTable"
def TX9 : u_T := fun k => match k with
  | _ => ("Factloom$ToldTable", "thirds", "[I", true)
def tyX9 : Nat → FieldType := fun k => match k with
  | _ => .array .int
abbrev wsX90 : List Cond := u_ws RX9 TX9 1
theorem nmX9 : ∀ a, a < 1 → ∀ b, b < 1 → a ≠ b → (TX9 a).2.1 ≠ (TX9 b).2.1 := by decide +kernel
theorem tyX9_ok : ∀ k, k < 1 → parseFieldDescriptor (TX9 k).2.2.1 = some (tyX9 k) := by decide +kernel
abbrev cX9_init : ByteArray := prog_11_method_1_code
def yX9_init : MethodName := ⟨RX9, "<init>", "()V"⟩
abbrev cX9_gather : ByteArray := prog_11_method_2_code
def yX9_gather : MethodName := ⟨RX9, "gather", "(LFactloom$Rows;I)V"⟩
abbrev cX9_has : ByteArray := prog_11_method_3_code
def yX9_has : MethodName := ⟨RX9, "has", "(I)Z"⟩
abbrev cX9_count : ByteArray := prog_11_method_4_code
def yX9_count : MethodName := ⟨RX9, "count", "()I"⟩
abbrev cX9_brokenHeads : ByteArray := prog_11_method_5_code
def yX9_brokenHeads : MethodName := ⟨RX9, "brokenHeads", "(LFactloom$Names;)I"⟩
abbrev cX9_isBrokenFor : ByteArray := prog_11_method_6_code
def yX9_isBrokenFor : MethodName := ⟨RX9, "isBrokenFor", "(ILFactloom$Names;)Z"⟩
def RX10 : String := "Factloom"
def TX10 : u_T := fun k => match k with
  | 0 => ("Factloom", "names", "LFactloom$Names;", true)
  | 1 => ("Factloom", "batch", "LFactloom$Batch;", true)
  | 2 => ("Factloom", "rows", "LFactloom$Rows;", true)
  | 3 => ("Factloom", "tried", "LFactloom$Rows;", true)
  | 4 => ("Factloom", "toldNow", "LFactloom$ToldTable;", true)
  | 5 => ("Factloom", "toldElse", "LFactloom$ToldTable;", true)
  | 6 => ("Factloom", "rules", "LFactloom$Rules;", true)
  | 7 => ("Factloom", "grounds", "LFactloom$Grounds;", true)
  | 8 => ("Factloom", "depths", "LFactloom$Depths;", true)
  | 9 => ("Factloom", "depthsWithout", "LFactloom$Depths;", true)
  | 10 => ("Factloom", "origins", "LFactloom$Origins;", true)
  | 11 => ("Factloom", "question", "LFactloom$Question;", true)
  | 12 => ("Factloom", "moment", "I", false)
  | 13 => ("Factloom", "groundsFresh", "Z", false)
  | 14 => ("Factloom", "heldFresh", "Z", false)
  | _ => ("Factloom", "answersFresh", "Z", false)
def tyX10 : Nat → FieldType := fun k => match k with
  | 0 => .object "Factloom$Names"
  | 1 => .object "Factloom$Batch"
  | 2 => .object "Factloom$Rows"
  | 3 => .object "Factloom$Rows"
  | 4 => .object "Factloom$ToldTable"
  | 5 => .object "Factloom$ToldTable"
  | 6 => .object "Factloom$Rules"
  | 7 => .object "Factloom$Grounds"
  | 8 => .object "Factloom$Depths"
  | 9 => .object "Factloom$Depths"
  | 10 => .object "Factloom$Origins"
  | 11 => .object "Factloom$Question"
  | 12 => .int
  | 13 => .boolean
  | 14 => .boolean
  | _ => .boolean
abbrev wsX100 : List Cond := u_ws RX10 TX10 16
theorem nmX10 : ∀ a, a < 16 → ∀ b, b < 16 → a ≠ b → (TX10 a).2.1 ≠ (TX10 b).2.1 := by decide +kernel
theorem tyX10_ok : ∀ k, k < 16 → parseFieldDescriptor (TX10 k).2.2.1 = some (tyX10 k) := by decide +kernel
abbrev cX10_init : ByteArray := prog_1_method_1_code
def yX10_init : MethodName := ⟨RX10, "<init>", "()V"⟩
abbrev cX10_tell : ByteArray := prog_1_method_2_code
def yX10_tell : MethodName := ⟨RX10, "tell", "(II)I"⟩
abbrev cX10_unsay : ByteArray := prog_1_method_3_code
def yX10_unsay : MethodName := ⟨RX10, "unsay", "(I)I"⟩
abbrev cX10_drop : ByteArray := prog_1_method_4_code
def yX10_drop : MethodName := ⟨RX10, "drop", "()I"⟩
abbrev cX10_commit : ByteArray := prog_1_method_5_code
def yX10_commit : MethodName := ⟨RX10, "commit", "()I"⟩
abbrev cX10_join : ByteArray := prog_1_method_6_code
def yX10_join : MethodName := ⟨RX10, "join", "(II)I"⟩
abbrev cX10_part : ByteArray := prog_1_method_7_code
def yX10_part : MethodName := ⟨RX10, "part", "()I"⟩
abbrev cX10_single : ByteArray := prog_1_method_8_code
def yX10_single : MethodName := ⟨RX10, "single", "(IZ)I"⟩
abbrev cX10_rule : ByteArray := prog_1_method_9_code
def yX10_rule : MethodName := ⟨RX10, "rule", "(III)I"⟩
abbrev cX10_unrule : ByteArray := prog_1_method_10_code
def yX10_unrule : MethodName := ⟨RX10, "unrule", "()I"⟩
abbrev cX10_pattern : ByteArray := prog_1_method_11_code
def yX10_pattern : MethodName := ⟨RX10, "pattern", "(I)I"⟩
abbrev cX10_not : ByteArray := prog_1_method_12_code
def yX10_not : MethodName := ⟨RX10, "not", "(I)I"⟩
abbrev cX10_clear : ByteArray := prog_1_method_13_code
def yX10_clear : MethodName := ⟨RX10, "clear", "()I"⟩
abbrev cX10_ofFact : ByteArray := prog_1_method_14_code
def yX10_ofFact : MethodName := ⟨RX10, "ofFact", "(II)I"⟩
abbrev cX10_told : ByteArray := prog_1_method_15_code
def yX10_told : MethodName := ⟨RX10, "told", "(II)Z"⟩
abbrev cX10_past : ByteArray := prog_1_method_16_code
def yX10_past : MethodName := ⟨RX10, "past", "(I)I"⟩
abbrev cX10_answers : ByteArray := prog_1_method_17_code
def yX10_answers : MethodName := ⟨RX10, "answers", "()I"⟩
abbrev cX10_answer : ByteArray := prog_1_method_18_code
def yX10_answer : MethodName := ⟨RX10, "answer", "(I)I"⟩
abbrev cX10_size : ByteArray := prog_1_method_19_code
def yX10_size : MethodName := ⟨RX10, "size", "(I)I"⟩
abbrev cX10_bound : ByteArray := prog_1_method_20_code
def yX10_bound : MethodName := ⟨RX10, "bound", "()J"⟩
abbrev cX10_chain : ByteArray := prog_1_method_21_code
def yX10_chain : MethodName := ⟨RX10, "chain", "(III)I"⟩
abbrev cX10_why : ByteArray := prog_1_method_22_code
def yX10_why : MethodName := ⟨RX10, "why", "(I)Ljava/lang/String;"⟩
abbrev cX10_store : ByteArray := prog_1_method_23_code
def yX10_store : MethodName := ⟨RX10, "store", "(I)I"⟩
abbrev cX10_broken : ByteArray := prog_1_method_24_code
def yX10_broken : MethodName := ⟨RX10, "broken", "()I"⟩
abbrev cX10_lost : ByteArray := prog_1_method_25_code
def yX10_lost : MethodName := ⟨RX10, "lost", "(I)I"⟩
abbrev cX10_isSound : ByteArray := prog_1_method_26_code
def yX10_isSound : MethodName := ⟨RX10, "isSound", "()Z"⟩
abbrev cX10_digest : ByteArray := prog_1_method_27_code
def yX10_digest : MethodName := ⟨RX10, "digest", "()J"⟩
abbrev cX10_mixHeld : ByteArray := prog_1_method_28_code
def yX10_mixHeld : MethodName := ⟨RX10, "mixHeld", "(J)J"⟩
abbrev cX10_mixAnswers : ByteArray := prog_1_method_29_code
def yX10_mixAnswers : MethodName := ⟨RX10, "mixAnswers", "(J)J"⟩
abbrev cX10_headsChanged : ByteArray := prog_1_method_30_code
def yX10_headsChanged : MethodName := ⟨RX10, "headsChanged", "()V"⟩
abbrev cX10_rulesChanged : ByteArray := prog_1_method_31_code
def yX10_rulesChanged : MethodName := ⟨RX10, "rulesChanged", "()V"⟩
abbrev cX10_toldChanged : ByteArray := prog_1_method_32_code
def yX10_toldChanged : MethodName := ⟨RX10, "toldChanged", "()V"⟩
abbrev cX10_settleHeld : ByteArray := prog_1_method_33_code
def yX10_settleHeld : MethodName := ⟨RX10, "settleHeld", "()V"⟩
abbrev cX10_settleAnswers : ByteArray := prog_1_method_34_code
def yX10_settleAnswers : MethodName := ⟨RX10, "settleAnswers", "()V"⟩
abbrev cX10_tryBatch : ByteArray := prog_1_method_35_code
def yX10_tryBatch : MethodName := ⟨RX10, "tryBatch", "()V"⟩
abbrev cX10_toldCount : ByteArray := prog_1_method_36_code
def yX10_toldCount : MethodName := ⟨RX10, "toldCount", "(I)I"⟩
abbrev cX10_factNumber : ByteArray := prog_1_method_37_code
def yX10_factNumber : MethodName := ⟨RX10, "factNumber", "(II)I"⟩
abbrev cX10_storeNumber : ByteArray := prog_1_method_38_code
def yX10_storeNumber : MethodName := ⟨RX10, "storeNumber", "(I)I"⟩
abbrev cX10_chainLength : ByteArray := prog_1_method_39_code
def yX10_chainLength : MethodName := ⟨RX10, "chainLength", "(III)I"⟩
abbrev cX10_behind : ByteArray := prog_1_method_40_code
def yX10_behind : MethodName := ⟨RX10, "behind", "(II)I"⟩
abbrev cX10_originText : ByteArray := prog_1_method_41_code
def yX10_originText : MethodName := ⟨RX10, "originText", "(I)Ljava/lang/String;"⟩
abbrev cX10_appendTriple : ByteArray := prog_1_method_42_code
def yX10_appendTriple : MethodName := ⟨RX10, "appendTriple", "(Ljava/lang/StringBuilder;I)V"⟩
abbrev cX10_isAllSound : ByteArray := prog_1_method_43_code
def yX10_isAllSound : MethodName := ⟨RX10, "isAllSound", "()Z"⟩
abbrev cX10_areTriplesSound : ByteArray := prog_1_method_44_code
def yX10_areTriplesSound : MethodName := ⟨RX10, "areTriplesSound", "()Z"⟩
abbrev cX10_checkTriple : ByteArray := prog_1_method_45_code
def yX10_checkTriple : MethodName := ⟨RX10, "checkTriple", "(I)V"⟩
abbrev cX10_checkPattern : ByteArray := prog_1_method_46_code
def yX10_checkPattern : MethodName := ⟨RX10, "checkPattern", "(I)V"⟩
abbrev cX10_checkPatternOrNone : ByteArray := prog_1_method_47_code
def yX10_checkPatternOrNone : MethodName := ⟨RX10, "checkPatternOrNone", "(I)V"⟩
abbrev cX10_checkWord : ByteArray := prog_1_method_48_code
def yX10_checkWord : MethodName := ⟨RX10, "checkWord", "(I)V"⟩
abbrev cX10_checkMoment : ByteArray := prog_1_method_49_code
def yX10_checkMoment : MethodName := ⟨RX10, "checkMoment", "(I)V"⟩
abbrev cX10_checkBatchRoom : ByteArray := prog_1_method_50_code
def yX10_checkBatchRoom : MethodName := ⟨RX10, "checkBatchRoom", "()V"⟩
abbrev cX10_at : ByteArray := prog_1_method_51_code
def yX10_at : MethodName := ⟨RX10, "at", "([III)I"⟩
abbrev cX10_put : ByteArray := prog_1_method_52_code
def yX10_put : MethodName := ⟨RX10, "put", "([III)V"⟩
abbrev cX10_fill : ByteArray := prog_1_method_53_code
def yX10_fill : MethodName := ⟨RX10, "fill", "([II)V"⟩
abbrev cX10_copy : ByteArray := prog_1_method_54_code
def yX10_copy : MethodName := ⟨RX10, "copy", "([I[II)V"⟩
abbrev cX10_isIn : ByteArray := prog_1_method_55_code
def yX10_isIn : MethodName := ⟨RX10, "isIn", "(II)Z"⟩
abbrev cX10_lettersOf : ByteArray := prog_1_method_56_code
def yX10_lettersOf : MethodName := ⟨RX10, "lettersOf", "(I)I"⟩
abbrev cX10_letterSet : ByteArray := prog_1_method_57_code
def yX10_letterSet : MethodName := ⟨RX10, "letterSet", "(I)I"⟩
def RX11 : String := "FactloomLaw$Out"
def TX11 : u_T := fun k => match k with
  | 0 => ("FactloomLaw$Out", "n", "J", false)
  | _ => ("FactloomLaw$Out", "s", "Ljava/lang/String;", false)
def tyX11 : Nat → FieldType := fun k => match k with
  | 0 => .long
  | _ => .object "java/lang/String"
abbrev wsX110 : List Cond := u_ws RX11 TX11 2
theorem nmX11 : ∀ a, a < 2 → ∀ b, b < 2 → a ≠ b → (TX11 a).2.1 ≠ (TX11 b).2.1 := by decide +kernel
theorem tyX11_ok : ∀ k, k < 2 → parseFieldDescriptor (TX11 k).2.2.1 = some (tyX11 k) := by decide +kernel
abbrev cX11_init : ByteArray := prog_13_method_1_code
def yX11_init : MethodName := ⟨RX11, "<init>", "()V"⟩
def RX12 : String := "FactloomModel$Row"
def TX12 : u_T := fun k => match k with
  | 0 => ("FactloomModel$Row", "triple", "I", false)
  | 1 => ("FactloomModel$Row", "trust", "I", false)
  | 2 => ("FactloomModel$Row", "from", "I", false)
  | _ => ("FactloomModel$Row", "till", "I", false)
def tyX12 : Nat → FieldType := fun k => match k with
  | 0 => .int
  | 1 => .int
  | 2 => .int
  | _ => .int
abbrev wsX120 : List Cond := u_ws RX12 TX12 4
theorem nmX12 : ∀ a, a < 4 → ∀ b, b < 4 → a ≠ b → (TX12 a).2.1 ≠ (TX12 b).2.1 := by decide +kernel
theorem tyX12_ok : ∀ k, k < 4 → parseFieldDescriptor (TX12 k).2.2.1 = some (tyX12 k) := by decide +kernel
abbrev cX12_init : ByteArray := prog_15_method_1_code
def yX12_init : MethodName := ⟨RX12, "<init>", "()V"⟩
abbrev cX12_holds : ByteArray := prog_15_method_2_code
def yX12_holds : MethodName := ⟨RX12, "holds", "(I)Z"⟩
def RX13 : String := "FactloomModel"
def TX13 : u_T := fun k => match k with
  | 0 => ("FactloomModel", "thrown", "I", false)
  | 1 => ("FactloomModel", "heads", "[I", true)
  | 2 => ("FactloomModel", "moment", "I", false)
  | 3 => ("FactloomModel", "rows", "Ljava/util/ArrayList;", true)
  | 4 => ("FactloomModel", "batch", "Ljava/util/ArrayList;", true)
  | 5 => ("FactloomModel", "rules", "Ljava/util/ArrayList;", true)
  | 6 => ("FactloomModel", "patterns", "Ljava/util/ArrayList;", true)
  | 7 => ("FactloomModel", "not", "I", false)
  | 8 => ("FactloomModel", "singles", "I", false)
  | 9 => ("FactloomModel", "known", "[I", false)
  | 10 => ("FactloomModel", "best", "[I", false)
  | _ => ("FactloomModel", "sum", "J", false)
def tyX13 : Nat → FieldType := fun k => match k with
  | 0 => .int
  | 1 => .array .int
  | 2 => .int
  | 3 => .object "java/util/ArrayList"
  | 4 => .object "java/util/ArrayList"
  | 5 => .object "java/util/ArrayList"
  | 6 => .object "java/util/ArrayList"
  | 7 => .int
  | 8 => .int
  | 9 => .array .int
  | 10 => .array .int
  | _ => .long
abbrev wsX130 : List Cond := u_ws RX13 TX13 12
theorem nmX13 : ∀ a, a < 12 → ∀ b, b < 12 → a ≠ b → (TX13 a).2.1 ≠ (TX13 b).2.1 := by decide +kernel
theorem tyX13_ok : ∀ k, k < 12 → parseFieldDescriptor (TX13 k).2.2.1 = some (tyX13 k) := by decide +kernel
abbrev cX13_init : ByteArray := prog_14_method_1_code
def yX13_init : MethodName := ⟨RX13, "<init>", "()V"⟩
abbrev cX13_thrown : ByteArray := prog_14_method_2_code
def yX13_thrown : MethodName := ⟨RX13, "thrown", "()I"⟩
abbrev cX13_refuse : ByteArray := prog_14_method_3_code
def yX13_refuse : MethodName := ⟨RX13, "refuse", "(I)I"⟩
abbrev cX13_is : ByteArray := prog_14_method_4_code
def yX13_is : MethodName := ⟨RX13, "is", "(III)Z"⟩
abbrev cX13_digit : ByteArray := prog_14_method_5_code
def yX13_digit : MethodName := ⟨RX13, "digit", "(II)I"⟩
abbrev cX13_isTriple : ByteArray := prog_14_method_6_code
def yX13_isTriple : MethodName := ⟨RX13, "isTriple", "(I)Z"⟩
abbrev cX13_isPattern : ByteArray := prog_14_method_7_code
def yX13_isPattern : MethodName := ⟨RX13, "isPattern", "(I)Z"⟩
abbrev cX13_isWord : ByteArray := prog_14_method_8_code
def yX13_isWord : MethodName := ⟨RX13, "isWord", "(I)Z"⟩
abbrev cX13_letters : ByteArray := prog_14_method_9_code
def yX13_letters : MethodName := ⟨RX13, "letters", "(I)I"⟩
abbrev cX13_isHead : ByteArray := prog_14_method_10_code
def yX13_isHead : MethodName := ⟨RX13, "isHead", "(I)Z"⟩
abbrev cX13_place : ByteArray := prog_14_method_11_code
def yX13_place : MethodName := ⟨RX13, "place", "(I[I)I"⟩
abbrev cX13_newBinding : ByteArray := prog_14_method_12_code
def yX13_newBinding : MethodName := ⟨RX13, "newBinding", "()[I"⟩
abbrev cX13_place_ : ByteArray := prog_14_method_13_code
def yX13_place_ : MethodName := ⟨RX13, "place", "(I)I"⟩
abbrev cX13_tripleAt : ByteArray := prog_14_method_14_code
def yX13_tripleAt : MethodName := ⟨RX13, "tripleAt", "(I)I"⟩
abbrev cX13_next : ByteArray := prog_14_method_15_code
def yX13_next : MethodName := ⟨RX13, "next", "([II)Z"⟩
abbrev cX13_first : ByteArray := prog_14_method_16_code
def yX13_first : MethodName := ⟨RX13, "first", "(I)[I"⟩
abbrev cX13_numberOf : ByteArray := prog_14_method_17_code
def yX13_numberOf : MethodName := ⟨RX13, "numberOf", "([I)I"⟩
abbrev cX13_tell : ByteArray := prog_14_method_18_code
def yX13_tell : MethodName := ⟨RX13, "tell", "(II)I"⟩
abbrev cX13_unsay : ByteArray := prog_14_method_19_code
def yX13_unsay : MethodName := ⟨RX13, "unsay", "(I)I"⟩
abbrev cX13_drop : ByteArray := prog_14_method_20_code
def yX13_drop : MethodName := ⟨RX13, "drop", "()I"⟩
abbrev cX13_committed : ByteArray := prog_14_method_21_code
def yX13_committed : MethodName := ⟨RX13, "committed", "()Ljava/util/ArrayList;"⟩
abbrev cX13_commit : ByteArray := prog_14_method_22_code
def yX13_commit : MethodName := ⟨RX13, "commit", "()I"⟩
abbrev cX13_forget : ByteArray := prog_14_method_23_code
def yX13_forget : MethodName := ⟨RX13, "forget", "()V"⟩
abbrev cX13_join : ByteArray := prog_14_method_24_code
def yX13_join : MethodName := ⟨RX13, "join", "(II)I"⟩
abbrev cX13_countHeads : ByteArray := prog_14_method_25_code
def yX13_countHeads : MethodName := ⟨RX13, "countHeads", "()I"⟩
abbrev cX13_part : ByteArray := prog_14_method_26_code
def yX13_part : MethodName := ⟨RX13, "part", "()I"⟩
abbrev cX13_told : ByteArray := prog_14_method_27_code
def yX13_told : MethodName := ⟨RX13, "told", "(Ljava/util/ArrayList;II)[Z"⟩
abbrev cX13_broken : ByteArray := prog_14_method_28_code
def yX13_broken : MethodName := ⟨RX13, "broken", "(Ljava/util/ArrayList;I)I"⟩
abbrev cX13_single : ByteArray := prog_14_method_29_code
def yX13_single : MethodName := ⟨RX13, "single", "(IZ)I"⟩
abbrev cX13_rule : ByteArray := prog_14_method_30_code
def yX13_rule : MethodName := ⟨RX13, "rule", "(III)I"⟩
abbrev cX13_unrule : ByteArray := prog_14_method_31_code
def yX13_unrule : MethodName := ⟨RX13, "unrule", "()I"⟩
abbrev cX13_depths : ByteArray := prog_14_method_32_code
def yX13_depths : MethodName := ⟨RX13, "depths", "([Z)[I"⟩
abbrev cX13_depthsNow : ByteArray := prog_14_method_33_code
def yX13_depthsNow : MethodName := ⟨RX13, "depthsNow", "()[I"⟩
abbrev cX13_pattern : ByteArray := prog_14_method_34_code
def yX13_pattern : MethodName := ⟨RX13, "pattern", "(I)I"⟩
abbrev cX13_not : ByteArray := prog_14_method_35_code
def yX13_not : MethodName := ⟨RX13, "not", "(I)I"⟩
abbrev cX13_clear : ByteArray := prog_14_method_36_code
def yX13_clear : MethodName := ⟨RX13, "clear", "()I"⟩
abbrev cX13_lettersOfAll : ByteArray := prog_14_method_37_code
def yX13_lettersOfAll : MethodName := ⟨RX13, "lettersOfAll", "()I"⟩
abbrev cX13_isDenied : ByteArray := prog_14_method_38_code
def yX13_isDenied : MethodName := ⟨RX13, "isDenied", "([I[II)Z"⟩
abbrev cX13_answersNow : ByteArray := prog_14_method_39_code
def yX13_answersNow : MethodName := ⟨RX13, "answersNow", "([I)Ljava/util/ArrayList;"⟩
abbrev cX13_sizeNow : ByteArray := prog_14_method_40_code
def yX13_sizeNow : MethodName := ⟨RX13, "sizeNow", "([II)I"⟩
abbrev cX13_boundNow : ByteArray := prog_14_method_41_code
def yX13_boundNow : MethodName := ⟨RX13, "boundNow", "([I)J"⟩
abbrev cX13_covers : ByteArray := prog_14_method_42_code
def yX13_covers : MethodName := ⟨RX13, "covers", "([I)Z"⟩
abbrev cX13_waysNow : ByteArray := prog_14_method_43_code
def yX13_waysNow : MethodName := ⟨RX13, "waysNow", "([II)I"⟩
abbrev cX13_merits : ByteArray := prog_14_method_44_code
def yX13_merits : MethodName := ⟨RX13, "merits", "()[I"⟩
abbrev cX13_meritsNow : ByteArray := prog_14_method_45_code
def yX13_meritsNow : MethodName := ⟨RX13, "meritsNow", "()[I"⟩
abbrev cX13_since : ByteArray := prog_14_method_46_code
def yX13_since : MethodName := ⟨RX13, "since", "(I)I"⟩
abbrev cX13_ofFactNow : ByteArray := prog_14_method_47_code
def yX13_ofFactNow : MethodName := ⟨RX13, "ofFactNow", "(II)I"⟩
abbrev cX13_ofFact : ByteArray := prog_14_method_48_code
def yX13_ofFact : MethodName := ⟨RX13, "ofFact", "(II)I"⟩
abbrev cX13_told_ : ByteArray := prog_14_method_49_code
def yX13_told_ : MethodName := ⟨RX13, "told", "(II)Z"⟩
abbrev cX13_count : ByteArray := prog_14_method_50_code
def yX13_count : MethodName := ⟨RX13, "count", "([Z)I"⟩
abbrev cX13_past : ByteArray := prog_14_method_51_code
def yX13_past : MethodName := ⟨RX13, "past", "(I)I"⟩
abbrev cX13_answers : ByteArray := prog_14_method_52_code
def yX13_answers : MethodName := ⟨RX13, "answers", "()I"⟩
abbrev cX13_answer : ByteArray := prog_14_method_53_code
def yX13_answer : MethodName := ⟨RX13, "answer", "(I)I"⟩
abbrev cX13_size : ByteArray := prog_14_method_54_code
def yX13_size : MethodName := ⟨RX13, "size", "(I)I"⟩
abbrev cX13_bound : ByteArray := prog_14_method_55_code
def yX13_bound : MethodName := ⟨RX13, "bound", "()J"⟩
abbrev cX13_chainNow : ByteArray := prog_14_method_56_code
def yX13_chainNow : MethodName := ⟨RX13, "chainNow", "([IIII)I"⟩
abbrev cX13_chain : ByteArray := prog_14_method_57_code
def yX13_chain : MethodName := ⟨RX13, "chain", "(III)I"⟩
abbrev cX13_threeDigits : ByteArray := prog_14_method_58_code
def yX13_threeDigits : MethodName := ⟨RX13, "threeDigits", "(I)Ljava/lang/String;"⟩
abbrev cX13_whyNow : ByteArray := prog_14_method_59_code
def yX13_whyNow : MethodName := ⟨RX13, "whyNow", "(I)Ljava/lang/String;"⟩
abbrev cX13_why : ByteArray := prog_14_method_60_code
def yX13_why : MethodName := ⟨RX13, "why", "(I)Ljava/lang/String;"⟩
abbrev cX13_holding : ByteArray := prog_14_method_61_code
def yX13_holding : MethodName := ⟨RX13, "holding", "([I)I"⟩
abbrev cX13_deepest : ByteArray := prog_14_method_62_code
def yX13_deepest : MethodName := ⟨RX13, "deepest", "([I)I"⟩
abbrev cX13_storeNow : ByteArray := prog_14_method_63_code
def yX13_storeNow : MethodName := ⟨RX13, "storeNow", "([II)I"⟩
abbrev cX13_store : ByteArray := prog_14_method_64_code
def yX13_store : MethodName := ⟨RX13, "store", "(I)I"⟩
abbrev cX13_broken_ : ByteArray := prog_14_method_65_code
def yX13_broken_ : MethodName := ⟨RX13, "broken", "()I"⟩
abbrev cX13_lost : ByteArray := prog_14_method_66_code
def yX13_lost : MethodName := ⟨RX13, "lost", "(I)I"⟩
abbrev cX13_hasWay : ByteArray := prog_14_method_67_code
def yX13_hasWay : MethodName := ⟨RX13, "hasWay", "([II)Z"⟩
abbrev cX13_isSoundNow : ByteArray := prog_14_method_68_code
def yX13_isSoundNow : MethodName := ⟨RX13, "isSoundNow", "([I[I)Z"⟩
abbrev cX13_isSound : ByteArray := prog_14_method_69_code
def yX13_isSound : MethodName := ⟨RX13, "isSound", "()Z"⟩
abbrev cX13_add : ByteArray := prog_14_method_70_code
def yX13_add : MethodName := ⟨RX13, "add", "(J)V"⟩
abbrev cX13_digest : ByteArray := prog_14_method_71_code
def yX13_digest : MethodName := ⟨RX13, "digest", "()J"⟩
def RJx145de : String := "java/io/Serializable"
def TJx145de : u_T := fun k => match k with
  | _ => ("", "", "", false)
def tyJx145de : Nat → FieldType := fun k => match k with
  | _ => .int
abbrev wsJx145de0 : List Cond := u_ws RJx145de TJx145de 0
theorem nmJx145de : ∀ a, a < 0 → ∀ b, b < 0 → a ≠ b → (TJx145de a).2.1 ≠ (TJx145de b).2.1 := by decide +kernel
theorem tyJx145de_ok : ∀ k, k < 0 → parseFieldDescriptor (TJx145de k).2.2.1 = some (tyJx145de k) := by decide +kernel
def RJ5 : String := "java/lang/AbstractStringBuilder"
def TJ5 : u_T := fun k => match k with
  | _ => ("", "", "", false)
def tyJ5 : Nat → FieldType := fun k => match k with
  | _ => .int
abbrev wsJ50 : List Cond := u_ws RJ5 TJ5 0
theorem nmJ5 : ∀ a, a < 0 → ∀ b, b < 0 → a ≠ b → (TJ5 a).2.1 ≠ (TJ5 b).2.1 := by decide +kernel
theorem tyJ5_ok : ∀ k, k < 0 → parseFieldDescriptor (TJ5 k).2.2.1 = some (tyJ5 k) := by decide +kernel
abbrev cJ5_init_d00df : ByteArray := prog_17_method_2_code
def yJ5_init_d00df : MethodName := ⟨RJ5, "<init>", "(I)V"⟩
abbrev cJ5_length_8abf5 : ByteArray := prog_17_method_6_code
def yJ5_length_8abf5 : MethodName := ⟨RJ5, "length", "()I"⟩
abbrev cJ5_ensureCapacityInternal_d00df : ByteArray := prog_17_method_9_code
def yJ5_ensureCapacityInternal_d00df : MethodName := ⟨RJ5, "ensureCapacityInternal", "(I)V"⟩
abbrev cJ5_newCapacity_0f7a4 : ByteArray := prog_17_method_10_code
def yJ5_newCapacity_0f7a4 : MethodName := ⟨RJ5, "newCapacity", "(I)I"⟩
abbrev cJ5_inflate_da8c8 : ByteArray := prog_17_method_11_code
def yJ5_inflate_da8c8 : MethodName := ⟨RJ5, "inflate", "()V"⟩
abbrev cJ5_append_cf1ce : ByteArray := prog_17_method_22_code
def yJ5_append_cf1ce : MethodName := ⟨RJ5, "append", "(Ljava/lang/String;)Ljava/lang/AbstractStringBuilder;"⟩
abbrev cJ5_appendNull_278bc : ByteArray := prog_17_method_26_code
def yJ5_appendNull_278bc : MethodName := ⟨RJ5, "appendNull", "()Ljava/lang/AbstractStringBuilder;"⟩
abbrev cJ5_append_3fe6f : ByteArray := prog_17_method_31_code
def yJ5_append_3fe6f : MethodName := ⟨RJ5, "append", "(C)Ljava/lang/AbstractStringBuilder;"⟩
abbrev cJ5_append_c97b9 : ByteArray := prog_17_method_32_code
def yJ5_append_c97b9 : MethodName := ⟨RJ5, "append", "(I)Ljava/lang/AbstractStringBuilder;"⟩
abbrev cJ5_getValue_6d5f1 : ByteArray := prog_17_method_64_code
def yJ5_getValue_6d5f1 : MethodName := ⟨RJ5, "getValue", "()[B"⟩
abbrev cJ5_isLatin1_aae02 : ByteArray := prog_17_method_68_code
def yJ5_isLatin1_aae02 : MethodName := ⟨RJ5, "isLatin1", "()Z"⟩
abbrev cJ5_inflateIfNeededFor_a7421 : ByteArray := prog_17_method_71_code
def yJ5_inflateIfNeededFor_a7421 : MethodName := ⟨RJ5, "inflateIfNeededFor", "(Ljava/lang/String;)V"⟩
abbrev cJ5_putStringAt_47b60 : ByteArray := prog_17_method_73_code
def yJ5_putStringAt_47b60 : MethodName := ⟨RJ5, "putStringAt", "(ILjava/lang/String;)V"⟩
def RJx2cfe8 : String := "java/lang/Appendable"
def TJx2cfe8 : u_T := fun k => match k with
  | _ => ("", "", "", false)
def tyJx2cfe8 : Nat → FieldType := fun k => match k with
  | _ => .int
abbrev wsJx2cfe80 : List Cond := u_ws RJx2cfe8 TJx2cfe8 0
theorem nmJx2cfe8 : ∀ a, a < 0 → ∀ b, b < 0 → a ≠ b → (TJx2cfe8 a).2.1 ≠ (TJx2cfe8 b).2.1 := by decide +kernel
theorem tyJx2cfe8_ok : ∀ k, k < 0 → parseFieldDescriptor (TJx2cfe8 k).2.2.1 = some (tyJx2cfe8 k) := by decide +kernel
def RJx9f9b0 : String := "java/lang/CharSequence"
def TJx9f9b0 : u_T := fun k => match k with
  | _ => ("", "", "", false)
def tyJx9f9b0 : Nat → FieldType := fun k => match k with
  | _ => .int
abbrev wsJx9f9b00 : List Cond := u_ws RJx9f9b0 TJx9f9b0 0
theorem nmJx9f9b0 : ∀ a, a < 0 → ∀ b, b < 0 → a ≠ b → (TJx9f9b0 a).2.1 ≠ (TJx9f9b0 b).2.1 := by decide +kernel
theorem tyJx9f9b0_ok : ∀ k, k < 0 → parseFieldDescriptor (TJx9f9b0 k).2.2.1 = some (tyJx9f9b0 k) := by decide +kernel
def RJx8e188 : String := "java/lang/Cloneable"
def TJx8e188 : u_T := fun k => match k with
  | _ => ("", "", "", false)
def tyJx8e188 : Nat → FieldType := fun k => match k with
  | _ => .int
abbrev wsJx8e1880 : List Cond := u_ws RJx8e188 TJx8e188 0
theorem nmJx8e188 : ∀ a, a < 0 → ∀ b, b < 0 → a ≠ b → (TJx8e188 a).2.1 ≠ (TJx8e188 b).2.1 := by decide +kernel
theorem tyJx8e188_ok : ∀ k, k < 0 → parseFieldDescriptor (TJx8e188 k).2.2.1 = some (tyJx8e188 k) := by decide +kernel
def RJxb160c : String := "java/lang/Comparable"
def TJxb160c : u_T := fun k => match k with
  | _ => ("", "", "", false)
def tyJxb160c : Nat → FieldType := fun k => match k with
  | _ => .int
abbrev wsJxb160c0 : List Cond := u_ws RJxb160c TJxb160c 0
theorem nmJxb160c : ∀ a, a < 0 → ∀ b, b < 0 → a ≠ b → (TJxb160c a).2.1 ≠ (TJxb160c b).2.1 := by decide +kernel
theorem tyJxb160c_ok : ∀ k, k < 0 → parseFieldDescriptor (TJxb160c k).2.2.1 = some (tyJxb160c k) := by decide +kernel
def RJxabbfe : String := "java/lang/Integer$IntegerCache"
def TJxabbfe : u_T := fun k => match k with
  | _ => ("", "", "", false)
def tyJxabbfe : Nat → FieldType := fun k => match k with
  | _ => .int
abbrev wsJxabbfe0 : List Cond := u_ws RJxabbfe TJxabbfe 0
theorem nmJxabbfe : ∀ a, a < 0 → ∀ b, b < 0 → a ≠ b → (TJxabbfe a).2.1 ≠ (TJxabbfe b).2.1 := by decide +kernel
theorem tyJxabbfe_ok : ∀ k, k < 0 → parseFieldDescriptor (TJxabbfe k).2.2.1 = some (tyJxabbfe k) := by decide +kernel
def RJ6 : String := "java/lang/Integer"
def TJ6 : u_T := fun k => match k with
  | _ => ("java/lang/Integer", "value", "I", true)
def tyJ6 : Nat → FieldType := fun k => match k with
  | _ => .int
abbrev wsJ60 : List Cond := u_ws RJ6 TJ6 1
theorem nmJ6 : ∀ a, a < 1 → ∀ b, b < 1 → a ≠ b → (TJ6 a).2.1 ≠ (TJ6 b).2.1 := by decide +kernel
theorem tyJ6_ok : ∀ k, k < 1 → parseFieldDescriptor (TJ6 k).2.2.1 = some (tyJ6 k) := by decide +kernel
abbrev cJ6_getChars_ba4f3 : ByteArray := prog_26_method_12_code
def yJ6_getChars_ba4f3 : MethodName := ⟨RJ6, "getChars", "(II[B)I"⟩
abbrev cJ6_stringSize_0f7a4 : ByteArray := prog_26_method_13_code
def yJ6_stringSize_0f7a4 : MethodName := ⟨RJ6, "stringSize", "(I)I"⟩
abbrev cJ6_valueOf_2dffe : ByteArray := prog_26_method_22_code
def yJ6_valueOf_2dffe : MethodName := ⟨RJ6, "valueOf", "(I)Ljava/lang/Integer;"⟩
abbrev cJ6_init_d00df : ByteArray := prog_26_method_23_code
def yJ6_init_d00df : MethodName := ⟨RJ6, "<init>", "(I)V"⟩
abbrev cJ6_intValue_8abf5 : ByteArray := prog_26_method_27_code
def yJ6_intValue_8abf5 : MethodName := ⟨RJ6, "intValue", "()I"⟩
abbrev cJ6_bitCount_0f7a4 : ByteArray := prog_26_method_49_code
def yJ6_bitCount_0f7a4 : MethodName := ⟨RJ6, "bitCount", "(I)I"⟩
def RJxab1ab : String := "java/lang/Iterable"
def TJxab1ab : u_T := fun k => match k with
  | _ => ("", "", "", false)
def tyJxab1ab : Nat → FieldType := fun k => match k with
  | _ => .int
abbrev wsJxab1ab0 : List Cond := u_ws RJxab1ab TJxab1ab 0
theorem nmJxab1ab : ∀ a, a < 0 → ∀ b, b < 0 → a ≠ b → (TJxab1ab a).2.1 ≠ (TJxab1ab b).2.1 := by decide +kernel
theorem tyJxab1ab_ok : ∀ k, k < 0 → parseFieldDescriptor (TJxab1ab k).2.2.1 = some (tyJxab1ab k) := by decide +kernel
def RJ9 : String := "java/lang/Math"
def TJ9 : u_T := fun k => match k with
  | _ => ("", "", "", false)
def tyJ9 : Nat → FieldType := fun k => match k with
  | _ => .int
abbrev wsJ90 : List Cond := u_ws RJ9 TJ9 0
theorem nmJ9 : ∀ a, a < 0 → ∀ b, b < 0 → a ≠ b → (TJ9 a).2.1 ≠ (TJ9 b).2.1 := by decide +kernel
theorem tyJ9_ok : ∀ k, k < 0 → parseFieldDescriptor (TJ9 k).2.2.1 = some (tyJ9 k) := by decide +kernel
abbrev cJ9_max_7cf53 : ByteArray := prog_29_method_65_code
def yJ9_max_7cf53 : MethodName := ⟨RJ9, "max", "(II)I"⟩
abbrev cJ9_min_7cf53 : ByteArray := prog_29_method_69_code
def yJ9_min_7cf53 : MethodName := ⟨RJ9, "min", "(II)I"⟩
abbrev cJ9_min_f86c9 : ByteArray := prog_29_method_70_code
def yJ9_min_f86c9 : MethodName := ⟨RJ9, "min", "(JJ)J"⟩
def RJxd2413 : String := "java/lang/Number"
def TJxd2413 : u_T := fun k => match k with
  | _ => ("", "", "", false)
def tyJxd2413 : Nat → FieldType := fun k => match k with
  | _ => .int
abbrev wsJxd24130 : List Cond := u_ws RJxd2413 TJxd2413 0
theorem nmJxd2413 : ∀ a, a < 0 → ∀ b, b < 0 → a ≠ b → (TJxd2413 a).2.1 ≠ (TJxd2413 b).2.1 := by decide +kernel
theorem tyJxd2413_ok : ∀ k, k < 0 → parseFieldDescriptor (TJxd2413 k).2.2.1 = some (tyJxd2413 k) := by decide +kernel
abbrev cJxd2413_init_da8c8 : ByteArray := prog_30_method_1_code
def yJxd2413_init_da8c8 : MethodName := ⟨RJxd2413, "<init>", "()V"⟩
def RJ0 : String := "java/lang/String"
def TJ0 : u_T := fun k => match k with
  | 0 => ("java/lang/String", "value", "[B", true)
  | 1 => ("java/lang/String", "coder", "B", true)
  | 2 => ("java/lang/String", "hash", "I", false)
  | _ => ("java/lang/String", "hashIsZero", "Z", false)
def tyJ0 : Nat → FieldType := fun k => match k with
  | 0 => .array .byte
  | 1 => .byte
  | 2 => .int
  | _ => .boolean
abbrev wsJ00 : List Cond := u_ws RJ0 TJ0 4
theorem nmJ0 : ∀ a, a < 4 → ∀ b, b < 4 → a ≠ b → (TJ0 a).2.1 ≠ (TJ0 b).2.1 := by decide +kernel
theorem tyJ0_ok : ∀ k, k < 4 → parseFieldDescriptor (TJ0 k).2.2.1 = some (tyJ0 k) := by decide +kernel
abbrev cJ0_init_81219 : ByteArray := prog_32_method_53_code
def yJ0_init_81219 : MethodName := ⟨RJ0, "<init>", "(Ljava/lang/StringBuilder;)V"⟩
abbrev cJ0_length_8abf5 : ByteArray := prog_32_method_54_code
def yJ0_length_8abf5 : MethodName := ⟨RJ0, "length", "()I"⟩
abbrev cJ0_getBytes_840e7 : ByteArray := prog_32_method_147_code
def yJ0_getBytes_840e7 : MethodName := ⟨RJ0, "getBytes", "([BIB)V"⟩
abbrev cJ0_init_db425 : ByteArray := prog_32_method_150_code
def yJ0_init_db425 : MethodName := ⟨RJ0, "<init>", "(Ljava/lang/AbstractStringBuilder;Ljava/lang/Void;)V"⟩
abbrev cJ0_coder_7d493 : ByteArray := prog_32_method_152_code
def yJ0_coder_7d493 : MethodName := ⟨RJ0, "coder", "()B"⟩
abbrev cJ0_checkIndex_df160 : ByteArray := prog_32_method_155_code
def yJ0_checkIndex_df160 : MethodName := ⟨RJ0, "checkIndex", "(II)V"⟩
abbrev cJ0_checkBoundsOffCount_cabcc : ByteArray := prog_32_method_157_code
def yJ0_checkBoundsOffCount_cabcc : MethodName := ⟨RJ0, "checkBoundsOffCount", "(III)I"⟩
abbrev cJ0_checkBoundsBeginEnd_23922 : ByteArray := prog_32_method_158_code
def yJ0_checkBoundsBeginEnd_23922 : MethodName := ⟨RJ0, "checkBoundsBeginEnd", "(III)V"⟩
def RJ4 : String := "java/lang/StringBuilder"
def TJ4 : u_T := fun k => match k with
  | 0 => ("java/lang/AbstractStringBuilder", "value", "[B", false)
  | 1 => ("java/lang/AbstractStringBuilder", "coder", "B", false)
  | 2 => ("java/lang/AbstractStringBuilder", "maybeLatin1", "Z", false)
  | _ => ("java/lang/AbstractStringBuilder", "count", "I", false)
def tyJ4 : Nat → FieldType := fun k => match k with
  | 0 => .array .byte
  | 1 => .byte
  | 2 => .boolean
  | _ => .int
abbrev wsJ40 : List Cond := u_ws RJ4 TJ4 4
theorem nmJ4 : ∀ a, a < 4 → ∀ b, b < 4 → a ≠ b → (TJ4 a).2.1 ≠ (TJ4 b).2.1 := by decide +kernel
theorem tyJ4_ok : ∀ k, k < 4 → parseFieldDescriptor (TJ4 k).2.2.1 = some (tyJ4 k) := by decide +kernel
abbrev cJ4_init_da8c8 : ByteArray := prog_33_method_1_code
def yJ4_init_da8c8 : MethodName := ⟨RJ4, "<init>", "()V"⟩
abbrev cJ4_append_15ec4 : ByteArray := prog_33_method_7_code
def yJ4_append_15ec4 : MethodName := ⟨RJ4, "append", "(Ljava/lang/String;)Ljava/lang/StringBuilder;"⟩
abbrev cJ4_append_cf468 : ByteArray := prog_33_method_14_code
def yJ4_append_cf468 : MethodName := ⟨RJ4, "append", "(C)Ljava/lang/StringBuilder;"⟩
abbrev cJ4_append_bf812 : ByteArray := prog_33_method_15_code
def yJ4_append_bf812 : MethodName := ⟨RJ4, "append", "(I)Ljava/lang/StringBuilder;"⟩
abbrev cJ4_toString_0e30d : ByteArray := prog_33_method_42_code
def yJ4_toString_0e30d : MethodName := ⟨RJ4, "toString", "()Ljava/lang/String;"⟩
abbrev cJ4_length_8abf5 : ByteArray := prog_33_method_93_code
def yJ4_length_8abf5 : MethodName := ⟨RJ4, "length", "()I"⟩
def RJ1 : String := "java/lang/StringLatin1"
def TJ1 : u_T := fun k => match k with
  | _ => ("", "", "", false)
def tyJ1 : Nat → FieldType := fun k => match k with
  | _ => .int
abbrev wsJ10 : List Cond := u_ws RJ1 TJ1 0
theorem nmJ1 : ∀ a, a < 0 → ∀ b, b < 0 → a ≠ b → (TJ1 a).2.1 ≠ (TJ1 b).2.1 := by decide +kernel
theorem tyJ1_ok : ∀ k, k < 0 → parseFieldDescriptor (TJ1 k).2.2.1 = some (tyJ1 k) := by decide +kernel
abbrev cJ1_canEncode_fc78d : ByteArray := prog_34_method_3_code
def yJ1_canEncode_fc78d : MethodName := ⟨RJ1, "canEncode", "(C)Z"⟩
abbrev cJ1_inflate_0e8fd : ByteArray := prog_34_method_50_code
def yJ1_inflate_0e8fd : MethodName := ⟨RJ1, "inflate", "([BI[BII)V"⟩
def RJ2 : String := "java/lang/StringUTF16"
def TJ2 : u_T := fun k => match k with
  | _ => ("", "", "", false)
def tyJ2 : Nat → FieldType := fun k => match k with
  | _ => .int
abbrev wsJ20 : List Cond := u_ws RJ2 TJ2 0
theorem nmJ2 : ∀ a, a < 0 → ∀ b, b < 0 → a ≠ b → (TJ2 a).2.1 ≠ (TJ2 b).2.1 := by decide +kernel
theorem tyJ2_ok : ∀ k, k < 0 → parseFieldDescriptor (TJ2 k).2.2.1 = some (tyJ2 k) := by decide +kernel
abbrev cJ2_newBytesFor_77867 : ByteArray := prog_35_method_2_code
def yJ2_newBytesFor_77867 : MethodName := ⟨RJ2, "newBytesFor", "(I)[B"⟩
abbrev cJ2_newBytesLength_0f7a4 : ByteArray := prog_35_method_3_code
def yJ2_newBytesLength_0f7a4 : MethodName := ⟨RJ2, "newBytesLength", "(I)I"⟩
abbrev cJ2_putChar_b72d1 : ByteArray := prog_35_method_4_code
def yJ2_putChar_b72d1 : MethodName := ⟨RJ2, "putChar", "([BII)V"⟩
abbrev cJ2_getChar_3b067 : ByteArray := prog_35_method_5_code
def yJ2_getChar_3b067 : MethodName := ⟨RJ2, "getChar", "([BI)C"⟩
abbrev cJ2_length_9d52b : ByteArray := prog_35_method_6_code
def yJ2_length_9d52b : MethodName := ⟨RJ2, "length", "([B)I"⟩
abbrev cJ2_coderFromArrayLen_85cad : ByteArray := prog_35_method_15_code
def yJ2_coderFromArrayLen_85cad : MethodName := ⟨RJ2, "coderFromArrayLen", "([BI)B"⟩
abbrev cJ2_compress_39247 : ByteArray := prog_35_method_17_code
def yJ2_compress_39247 : MethodName := ⟨RJ2, "compress", "([BII)[B"⟩
abbrev cJ2_compress_5af95 : ByteArray := prog_35_method_22_code
def yJ2_compress_5af95 : MethodName := ⟨RJ2, "compress", "([BI[BII)I"⟩
abbrev cJ2_putCharSB_b72d1 : ByteArray := prog_35_method_71_code
def yJ2_putCharSB_b72d1 : MethodName := ⟨RJ2, "putCharSB", "([BII)V"⟩
abbrev cJ2_getChars_46870 : ByteArray := prog_35_method_77_code
def yJ2_getChars_46870 : MethodName := ⟨RJ2, "getChars", "(III[B)I"⟩
abbrev cJ2_putCharsAt_cd4e5 : ByteArray := prog_35_method_81_code
def yJ2_putCharsAt_cd4e5 : MethodName := ⟨RJ2, "putCharsAt", "([BICCCC)I"⟩
abbrev cJ2_inflate_0e8fd : ByteArray := prog_35_method_86_code
def yJ2_inflate_0e8fd : MethodName := ⟨RJ2, "inflate", "([BI[BII)V"⟩
abbrev cJ2_getChars_ba4f3 : ByteArray := prog_35_method_89_code
def yJ2_getChars_ba4f3 : MethodName := ⟨RJ2, "getChars", "(II[B)I"⟩
abbrev cJ2_checkIndex_2214a : ByteArray := prog_35_method_91_code
def yJ2_checkIndex_2214a : MethodName := ⟨RJ2, "checkIndex", "(I[B)V"⟩
abbrev cJ2_checkBoundsBeginEnd_d044e : ByteArray := prog_35_method_93_code
def yJ2_checkBoundsBeginEnd_d044e : MethodName := ⟨RJ2, "checkBoundsBeginEnd", "(II[B)V"⟩
abbrev cJ2_checkBoundsOffCount_d044e : ByteArray := prog_35_method_94_code
def yJ2_checkBoundsOffCount_d044e : MethodName := ⟨RJ2, "checkBoundsOffCount", "(II[B)V"⟩
def RJ10 : String := "java/lang/System"
def TJ10 : u_T := fun k => match k with
  | _ => ("", "", "", false)
def tyJ10 : Nat → FieldType := fun k => match k with
  | _ => .int
abbrev wsJ100 : List Cond := u_ws RJ10 TJ10 0
theorem nmJ10 : ∀ a, a < 0 → ∀ b, b < 0 → a ≠ b → (TJ10 a).2.1 ≠ (TJ10 b).2.1 := by decide +kernel
theorem tyJ10_ok : ∀ k, k < 0 → parseFieldDescriptor (TJ10 k).2.2.1 = some (tyJ10 k) := by decide +kernel
def RJxfd54e : String := "java/lang/constant/Constable"
def TJxfd54e : u_T := fun k => match k with
  | _ => ("", "", "", false)
def tyJxfd54e : Nat → FieldType := fun k => match k with
  | _ => .int
abbrev wsJxfd54e0 : List Cond := u_ws RJxfd54e TJxfd54e 0
theorem nmJxfd54e : ∀ a, a < 0 → ∀ b, b < 0 → a ≠ b → (TJxfd54e a).2.1 ≠ (TJxfd54e b).2.1 := by decide +kernel
theorem tyJxfd54e_ok : ∀ k, k < 0 → parseFieldDescriptor (TJxfd54e k).2.2.1 = some (tyJxfd54e k) := by decide +kernel
def RJx3cf43 : String := "java/lang/constant/ConstantDesc"
def TJx3cf43 : u_T := fun k => match k with
  | _ => ("", "", "", false)
def tyJx3cf43 : Nat → FieldType := fun k => match k with
  | _ => .int
abbrev wsJx3cf430 : List Cond := u_ws RJx3cf43 TJx3cf43 0
theorem nmJx3cf43 : ∀ a, a < 0 → ∀ b, b < 0 → a ≠ b → (TJx3cf43 a).2.1 ≠ (TJx3cf43 b).2.1 := by decide +kernel
theorem tyJx3cf43_ok : ∀ k, k < 0 → parseFieldDescriptor (TJx3cf43 k).2.2.1 = some (tyJx3cf43 k) := by decide +kernel
def RJxa1e45 : String := "java/util/AbstractCollection"
def TJxa1e45 : u_T := fun k => match k with
  | _ => ("", "", "", false)
def tyJxa1e45 : Nat → FieldType := fun k => match k with
  | _ => .int
abbrev wsJxa1e450 : List Cond := u_ws RJxa1e45 TJxa1e45 0
theorem nmJxa1e45 : ∀ a, a < 0 → ∀ b, b < 0 → a ≠ b → (TJxa1e45 a).2.1 ≠ (TJxa1e45 b).2.1 := by decide +kernel
theorem tyJxa1e45_ok : ∀ k, k < 0 → parseFieldDescriptor (TJxa1e45 k).2.2.1 = some (tyJxa1e45 k) := by decide +kernel
abbrev cJxa1e45_init_da8c8 : ByteArray := prog_40_method_1_code
def yJxa1e45_init_da8c8 : MethodName := ⟨RJxa1e45, "<init>", "()V"⟩
def RJxc12de : String := "java/util/AbstractList"
def TJxc12de : u_T := fun k => match k with
  | _ => ("", "", "", false)
def tyJxc12de : Nat → FieldType := fun k => match k with
  | _ => .int
abbrev wsJxc12de0 : List Cond := u_ws RJxc12de TJxc12de 0
theorem nmJxc12de : ∀ a, a < 0 → ∀ b, b < 0 → a ≠ b → (TJxc12de a).2.1 ≠ (TJxc12de b).2.1 := by decide +kernel
theorem tyJxc12de_ok : ∀ k, k < 0 → parseFieldDescriptor (TJxc12de k).2.2.1 = some (tyJxc12de k) := by decide +kernel
abbrev cJxc12de_init_da8c8 : ByteArray := prog_41_method_1_code
def yJxc12de_init_da8c8 : MethodName := ⟨RJxc12de, "<init>", "()V"⟩
def RJx35411 : String := "java/util/ArrayList$Itr"
def TJx35411 : u_T := fun k => match k with
  | 0 => ("java/util/ArrayList$Itr", "cursor", "I", false)
  | 1 => ("java/util/ArrayList$Itr", "lastRet", "I", false)
  | 2 => ("java/util/ArrayList$Itr", "expectedModCount", "I", false)
  | _ => ("java/util/ArrayList$Itr", "this$0", "Ljava/util/ArrayList;", true)
def tyJx35411 : Nat → FieldType := fun k => match k with
  | 0 => .int
  | 1 => .int
  | 2 => .int
  | _ => .object "java/util/ArrayList"
abbrev wsJx354110 : List Cond := u_ws RJx35411 TJx35411 4
theorem nmJx35411 : ∀ a, a < 4 → ∀ b, b < 4 → a ≠ b → (TJx35411 a).2.1 ≠ (TJx35411 b).2.1 := by decide +kernel
theorem tyJx35411_ok : ∀ k, k < 4 → parseFieldDescriptor (TJx35411 k).2.2.1 = some (tyJx35411 k) := by decide +kernel
abbrev cJx35411_init_45d68 : ByteArray := prog_43_method_1_code
def yJx35411_init_45d68 : MethodName := ⟨RJx35411, "<init>", "(Ljava/util/ArrayList;)V"⟩
abbrev cJx35411_hasNext_aae02 : ByteArray := prog_43_method_2_code
def yJx35411_hasNext_aae02 : MethodName := ⟨RJx35411, "hasNext", "()Z"⟩
abbrev cJx35411_next_0502b : ByteArray := prog_43_method_3_code
def yJx35411_next_0502b : MethodName := ⟨RJx35411, "next", "()Ljava/lang/Object;"⟩
abbrev cJx35411_checkForComodification_da8c8 : ByteArray := prog_43_method_6_code
def yJx35411_checkForComodification_da8c8 : MethodName := ⟨RJx35411, "checkForComodification", "()V"⟩
def RJx4a65c : String := "java/util/ArrayList"
def TJx4a65c : u_T := fun k => match k with
  | 0 => ("java/util/AbstractList", "modCount", "I", false)
  | 1 => ("java/util/ArrayList", "elementData", "[Ljava/lang/Object;", false)
  | _ => ("java/util/ArrayList", "size", "I", false)
def tyJx4a65c : Nat → FieldType := fun k => match k with
  | 0 => .int
  | 1 => .array (.object "java/lang/Object")
  | _ => .int
abbrev wsJx4a65c0 : List Cond := u_ws RJx4a65c TJx4a65c 3
theorem nmJx4a65c : ∀ a, a < 3 → ∀ b, b < 3 → a ≠ b → (TJx4a65c a).2.1 ≠ (TJx4a65c b).2.1 := by decide +kernel
theorem tyJx4a65c_ok : ∀ k, k < 3 → parseFieldDescriptor (TJx4a65c k).2.2.1 = some (tyJx4a65c k) := by decide +kernel
abbrev cJx4a65c_init_da8c8 : ByteArray := prog_42_method_2_code
def yJx4a65c_init_da8c8 : MethodName := ⟨RJx4a65c, "<init>", "()V"⟩
abbrev cJx4a65c_grow_92f84 : ByteArray := prog_42_method_6_code
def yJx4a65c_grow_92f84 : MethodName := ⟨RJx4a65c, "grow", "(I)[Ljava/lang/Object;"⟩
abbrev cJx4a65c_grow_d5877 : ByteArray := prog_42_method_7_code
def yJx4a65c_grow_d5877 : MethodName := ⟨RJx4a65c, "grow", "()[Ljava/lang/Object;"⟩
abbrev cJx4a65c_size_8abf5 : ByteArray := prog_42_method_8_code
def yJx4a65c_size_8abf5 : MethodName := ⟨RJx4a65c, "size", "()I"⟩
abbrev cJx4a65c_isEmpty_aae02 : ByteArray := prog_42_method_9_code
def yJx4a65c_isEmpty_aae02 : MethodName := ⟨RJx4a65c, "isEmpty", "()Z"⟩
abbrev cJx4a65c_elementData_915e3 : ByteArray := prog_42_method_18_code
def yJx4a65c_elementData_915e3 : MethodName := ⟨RJx4a65c, "elementData", "(I)Ljava/lang/Object;"⟩
abbrev cJx4a65c_get_915e3 : ByteArray := prog_42_method_20_code
def yJx4a65c_get_915e3 : MethodName := ⟨RJx4a65c, "get", "(I)Ljava/lang/Object;"⟩
abbrev cJx4a65c_add_72be8 : ByteArray := prog_42_method_24_code
def yJx4a65c_add_72be8 : MethodName := ⟨RJx4a65c, "add", "(Ljava/lang/Object;[Ljava/lang/Object;I)V"⟩
abbrev cJx4a65c_add_9ea2d : ByteArray := prog_42_method_25_code
def yJx4a65c_add_9ea2d : MethodName := ⟨RJx4a65c, "add", "(Ljava/lang/Object;)Z"⟩
abbrev cJx4a65c_remove_915e3 : ByteArray := prog_42_method_29_code
def yJx4a65c_remove_915e3 : MethodName := ⟨RJx4a65c, "remove", "(I)Ljava/lang/Object;"⟩
abbrev cJx4a65c_fastRemove_b59b0 : ByteArray := prog_42_method_39_code
def yJx4a65c_fastRemove_b59b0 : MethodName := ⟨RJx4a65c, "fastRemove", "([Ljava/lang/Object;I)V"⟩
abbrev cJx4a65c_clear_da8c8 : ByteArray := prog_42_method_40_code
def yJx4a65c_clear_da8c8 : MethodName := ⟨RJx4a65c, "clear", "()V"⟩
abbrev cJx4a65c_iterator_32c93 : ByteArray := prog_42_method_55_code
def yJx4a65c_iterator_32c93 : MethodName := ⟨RJx4a65c, "iterator", "()Ljava/util/Iterator;"⟩
def RJ7 : String := "java/util/Arrays"
def TJ7 : u_T := fun k => match k with
  | _ => ("", "", "", false)
def tyJ7 : Nat → FieldType := fun k => match k with
  | _ => .int
abbrev wsJ70 : List Cond := u_ws RJ7 TJ7 0
theorem nmJ7 : ∀ a, a < 0 → ∀ b, b < 0 → a ≠ b → (TJ7 a).2.1 ≠ (TJ7 b).2.1 := by decide +kernel
theorem tyJ7_ok : ∀ k, k < 0 → parseFieldDescriptor (TJ7 k).2.2.1 = some (tyJ7 k) := by decide +kernel
abbrev cJ7_copyOf_1904c : ByteArray := prog_44_method_119_code
def yJ7_copyOf_1904c : MethodName := ⟨RJ7, "copyOf", "([Ljava/lang/Object;I)[Ljava/lang/Object;"⟩
abbrev cJ7_copyOf_6403c : ByteArray := prog_44_method_120_code
def yJ7_copyOf_6403c : MethodName := ⟨RJ7, "copyOf", "([Ljava/lang/Object;ILjava/lang/Class;)[Ljava/lang/Object;"⟩
abbrev cJ7_copyOf_9075b : ByteArray := prog_44_method_121_code
def yJ7_copyOf_9075b : MethodName := ⟨RJ7, "copyOf", "([BI)[B"⟩
abbrev cJ7_checkLength_df160 : ByteArray := prog_44_method_131_code
def yJ7_checkLength_df160 : MethodName := ⟨RJ7, "checkLength", "(II)V"⟩
abbrev cJ7_copyOfRange_39247 : ByteArray := prog_44_method_132_code
def yJ7_copyOfRange_39247 : MethodName := ⟨RJ7, "copyOfRange", "([BII)[B"⟩
abbrev cJ7_copyOfRangeByte_39247 : ByteArray := prog_44_method_133_code
def yJ7_copyOfRangeByte_39247 : MethodName := ⟨RJ7, "copyOfRangeByte", "([BII)[B"⟩
def RJx5ef63 : String := "java/util/Collection"
def TJx5ef63 : u_T := fun k => match k with
  | _ => ("", "", "", false)
def tyJx5ef63 : Nat → FieldType := fun k => match k with
  | _ => .int
abbrev wsJx5ef630 : List Cond := u_ws RJx5ef63 TJx5ef63 0
theorem nmJx5ef63 : ∀ a, a < 0 → ∀ b, b < 0 → a ≠ b → (TJx5ef63 a).2.1 ≠ (TJx5ef63 b).2.1 := by decide +kernel
theorem tyJx5ef63_ok : ∀ k, k < 0 → parseFieldDescriptor (TJx5ef63 k).2.2.1 = some (tyJx5ef63 k) := by decide +kernel
def RJx4d0d8 : String := "java/util/Iterator"
def TJx4d0d8 : u_T := fun k => match k with
  | _ => ("", "", "", false)
def tyJx4d0d8 : Nat → FieldType := fun k => match k with
  | _ => .int
abbrev wsJx4d0d80 : List Cond := u_ws RJx4d0d8 TJx4d0d8 0
theorem nmJx4d0d8 : ∀ a, a < 0 → ∀ b, b < 0 → a ≠ b → (TJx4d0d8 a).2.1 ≠ (TJx4d0d8 b).2.1 := by decide +kernel
theorem tyJx4d0d8_ok : ∀ k, k < 0 → parseFieldDescriptor (TJx4d0d8 k).2.2.1 = some (tyJx4d0d8 k) := by decide +kernel
def RJxbd725 : String := "java/util/List"
def TJxbd725 : u_T := fun k => match k with
  | _ => ("", "", "", false)
def tyJxbd725 : Nat → FieldType := fun k => match k with
  | _ => .int
abbrev wsJxbd7250 : List Cond := u_ws RJxbd725 TJxbd725 0
theorem nmJxbd725 : ∀ a, a < 0 → ∀ b, b < 0 → a ≠ b → (TJxbd725 a).2.1 ≠ (TJxbd725 b).2.1 := by decide +kernel
theorem tyJxbd725_ok : ∀ k, k < 0 → parseFieldDescriptor (TJxbd725 k).2.2.1 = some (tyJxbd725 k) := by decide +kernel
def RJ15 : String := "java/util/Objects"
def TJ15 : u_T := fun k => match k with
  | _ => ("", "", "", false)
def tyJ15 : Nat → FieldType := fun k => match k with
  | _ => .int
abbrev wsJ150 : List Cond := u_ws RJ15 TJ15 0
theorem nmJ15 : ∀ a, a < 0 → ∀ b, b < 0 → a ≠ b → (TJ15 a).2.1 ≠ (TJ15 b).2.1 := by decide +kernel
theorem tyJ15_ok : ∀ k, k < 0 → parseFieldDescriptor (TJ15 k).2.2.1 = some (tyJ15 k) := by decide +kernel
abbrev cJ15_checkIndex_7cf53 : ByteArray := prog_48_method_17_code
def yJ15_checkIndex_7cf53 : MethodName := ⟨RJ15, "checkIndex", "(II)I"⟩
def RJxf0a74 : String := "java/util/RandomAccess"
def TJxf0a74 : u_T := fun k => match k with
  | _ => ("", "", "", false)
def tyJxf0a74 : Nat → FieldType := fun k => match k with
  | _ => .int
abbrev wsJxf0a740 : List Cond := u_ws RJxf0a74 TJxf0a74 0
theorem nmJxf0a74 : ∀ a, a < 0 → ∀ b, b < 0 → a ≠ b → (TJxf0a74 a).2.1 ≠ (TJxf0a74 b).2.1 := by decide +kernel
theorem tyJxf0a74_ok : ∀ k, k < 0 → parseFieldDescriptor (TJxf0a74 k).2.2.1 = some (tyJxf0a74 k) := by decide +kernel
def RJxa66e6 : String := "java/util/SequencedCollection"
def TJxa66e6 : u_T := fun k => match k with
  | _ => ("", "", "", false)
def tyJxa66e6 : Nat → FieldType := fun k => match k with
  | _ => .int
abbrev wsJxa66e60 : List Cond := u_ws RJxa66e6 TJxa66e6 0
theorem nmJxa66e6 : ∀ a, a < 0 → ∀ b, b < 0 → a ≠ b → (TJxa66e6 a).2.1 ≠ (TJxa66e6 b).2.1 := by decide +kernel
theorem tyJxa66e6_ok : ∀ k, k < 0 → parseFieldDescriptor (TJxa66e6 k).2.2.1 = some (tyJxa66e6 k) := by decide +kernel
def RJ8 : String := "jdk/internal/util/ArraysSupport"
def TJ8 : u_T := fun k => match k with
  | _ => ("", "", "", false)
def tyJ8 : Nat → FieldType := fun k => match k with
  | _ => .int
abbrev wsJ80 : List Cond := u_ws RJ8 TJ8 0
theorem nmJ8 : ∀ a, a < 0 → ∀ b, b < 0 → a ≠ b → (TJ8 a).2.1 ≠ (TJ8 b).2.1 := by decide +kernel
theorem tyJ8_ok : ∀ k, k < 0 → parseFieldDescriptor (TJ8 k).2.2.1 = some (tyJ8 k) := by decide +kernel
abbrev cJ8_newLength_cabcc : ByteArray := prog_51_method_27_code
def yJ8_newLength_cabcc : MethodName := ⟨RJ8, "newLength", "(III)I"⟩
abbrev cJ8_hugeLength_7cf53 : ByteArray := prog_51_method_28_code
def yJ8_hugeLength_7cf53 : MethodName := ⟨RJ8, "hugeLength", "(II)I"⟩
def RJ3 : String := "jdk/internal/util/Preconditions"
def TJ3 : u_T := fun k => match k with
  | _ => ("", "", "", false)
def tyJ3 : Nat → FieldType := fun k => match k with
  | _ => .int
abbrev wsJ30 : List Cond := u_ws RJ3 TJ3 0
theorem nmJ3 : ∀ a, a < 0 → ∀ b, b < 0 → a ≠ b → (TJ3 a).2.1 ≠ (TJ3 b).2.1 := by decide +kernel
theorem tyJ3_ok : ∀ k, k < 0 → parseFieldDescriptor (TJ3 k).2.2.1 = some (tyJ3 k) := by decide +kernel
abbrev cJ3_checkIndex_8e157 : ByteArray := prog_52_method_11_code
def yJ3_checkIndex_8e157 : MethodName := ⟨RJ3, "checkIndex", "(IILjava/util/function/BiFunction;)I"⟩
abbrev cJ3_checkFromToIndex_8c36e : ByteArray := prog_52_method_12_code
def yJ3_checkFromToIndex_8c36e : MethodName := ⟨RJ3, "checkFromToIndex", "(IIILjava/util/function/BiFunction;)I"⟩
abbrev cJ3_checkFromIndexSize_8c36e : ByteArray := prog_52_method_13_code
def yJ3_checkFromIndexSize_8c36e : MethodName := ⟨RJ3, "checkFromIndexSize", "(IIILjava/util/function/BiFunction;)I"⟩
def RL : String := "FactloomLaw"
abbrev cL_tell : ByteArray := method_2_code
def yL_tell : MethodName := ⟨RL, "tell", "(LFactloom;IILFactloomLaw$Out;)I"⟩
abbrev cL_unsay : ByteArray := method_3_code
def yL_unsay : MethodName := ⟨RL, "unsay", "(LFactloom;ILFactloomLaw$Out;)I"⟩
abbrev cL_commit : ByteArray := method_4_code
def yL_commit : MethodName := ⟨RL, "commit", "(LFactloom;LFactloomLaw$Out;)I"⟩
abbrev cL_join : ByteArray := method_5_code
def yL_join : MethodName := ⟨RL, "join", "(LFactloom;IILFactloomLaw$Out;)I"⟩
abbrev cL_single : ByteArray := method_6_code
def yL_single : MethodName := ⟨RL, "single", "(LFactloom;IZLFactloomLaw$Out;)I"⟩
abbrev cL_rule : ByteArray := method_7_code
def yL_rule : MethodName := ⟨RL, "rule", "(LFactloom;IIILFactloomLaw$Out;)I"⟩
abbrev cL_unrule : ByteArray := method_8_code
def yL_unrule : MethodName := ⟨RL, "unrule", "(LFactloom;LFactloomLaw$Out;)I"⟩
abbrev cL_pattern : ByteArray := method_9_code
def yL_pattern : MethodName := ⟨RL, "pattern", "(LFactloom;ILFactloomLaw$Out;)I"⟩
abbrev cL_not : ByteArray := method_10_code
def yL_not : MethodName := ⟨RL, "not", "(LFactloom;ILFactloomLaw$Out;)I"⟩
abbrev cL_ofFact : ByteArray := method_11_code
def yL_ofFact : MethodName := ⟨RL, "ofFact", "(LFactloom;IILFactloomLaw$Out;)I"⟩
abbrev cL_told : ByteArray := method_12_code
def yL_told : MethodName := ⟨RL, "told", "(LFactloom;IILFactloomLaw$Out;)I"⟩
abbrev cL_past : ByteArray := method_13_code
def yL_past : MethodName := ⟨RL, "past", "(LFactloom;ILFactloomLaw$Out;)I"⟩
abbrev cL_answer : ByteArray := method_14_code
def yL_answer : MethodName := ⟨RL, "answer", "(LFactloom;ILFactloomLaw$Out;)I"⟩
abbrev cL_size : ByteArray := method_15_code
def yL_size : MethodName := ⟨RL, "size", "(LFactloom;ILFactloomLaw$Out;)I"⟩
abbrev cL_chain : ByteArray := method_16_code
def yL_chain : MethodName := ⟨RL, "chain", "(LFactloom;IIILFactloomLaw$Out;)I"⟩
abbrev cL_why : ByteArray := method_17_code
def yL_why : MethodName := ⟨RL, "why", "(LFactloom;ILFactloomLaw$Out;)I"⟩
abbrev cL_store : ByteArray := method_18_code
def yL_store : MethodName := ⟨RL, "store", "(LFactloom;ILFactloomLaw$Out;)I"⟩
abbrev cL_lost : ByteArray := method_19_code
def yL_lost : MethodName := ⟨RL, "lost", "(LFactloom;ILFactloomLaw$Out;)I"⟩
abbrev cL_law : ByteArray := code
def yL_law : MethodName := ⟨RL, "law", "([I)Z"⟩
/-! ===== BEGIN a static call of a method with an exception table ===== -/
section VXS
variable {p : Program} {l : Launch} {e : Env} {R : Room} {s : State} {m : MethodId} {args : Array Value} {below : List Frame} {meth : Method} {c : Code} {T : State} {H : Heap} {locs : List Loc} {cells slots : Nat}
abbrev vx_CSW (R : Room) (s : State) (args : Array Value) (own : String) (index : Nat) (y : MethodName) (bytes : ByteArray) (maxL : Nat) (ret : Option FieldType) (hh : List (Nat × Nat × Nat × Nat)) (ws : List Cond) (rm : Room) (mc ms n : Nat) : Prop :=
  (rm.cells = mc ∧ rm.slots = ms ∧ rm.frames + 1 ≤ R.frames ∧ 8 + (maxL + 11) + rm.locals ≤ R.locals ∧ (∀ w ∈ ws, ∀ (a' : Array Value) (U : State), s.WarmedH U.vm → w.before a' U = true) ∧ Cond.codeWith y bytes maxL ret hh ∈ ws) ∧
  (Cond.codeWith y bytes maxL ret hh).before args s = true ∧ (Cond.initialized y.cls).before args s = true ∧ (y.cls ≠ "java/lang/invoke/MethodHandle" ∧ y.cls ≠ "java/lang/invoke/VarHandle") ∧
  (∀ sig, parseMethodDescriptor y.desc = some sig → n = sig.parameters.length) ∧ (Cond.methodLink own index y).before args s = true ∧ (Cond.static y).before args s = true
theorem vx_cwSW {own : String} {index maxL mc ms : Nat} {y : MethodName} {bytes : ByteArray} {ret : Option FieldType} {hh : List (Nat × Nat × Nat × Nat)} {Ts ws ws' : List Cond} {rm : Room} (n : Nat) (ht : ∀ w ∈ Ts, w.before args s = true) (hT : GoodIn Ts (va_wsS own index y ws)) (hw : ws = Cond.codeWith y bytes maxL ret hh :: ws') (hrc : rm.cells = mc) (hrs : rm.slots = ms)
    (hd : y.cls ≠ "java/lang/invoke/MethodHandle" ∧ y.cls ≠ "java/lang/invoke/VarHandle" ∧ (parseMethodDescriptor y.desc).map (fun d => d.parameters.length) = some n) (hR : rm.frames + 1 ≤ R.frames ∧ 8 + (maxL + 11) + rm.locals ≤ R.locals) :
    vx_CSW R s args own index y bytes maxL ret hh ws rm mc ms n := by
  have ok : ∀ w ∈ va_wsS own index y ws, w.before args s = true := fun w h => ht w (hT w h).1
  have hG : GoodIn Ts ws := fun w h => hT w (by unfold va_wsS; exact List.mem_append_right _ h)
  have hc : Cond.codeWith y bytes maxL ret hh ∈ ws := by rw [hw]; exact List.mem_cons_self
  refine ⟨⟨hrc, hrs, hR.1, hR.2, pay_in ht hG, hc⟩, ht _ (hG _ hc).1, ok _ (by simp [va_wsS]), ⟨hd.1, hd.2.1⟩, fun sig h => ?_, ok _ (by simp [va_wsS]), ok _ (by simp [va_wsS])⟩
  have h2 := hd.2.2
  rw [h] at h2
  exact (Option.some.inj h2).symm
theorem vx_callSW (X : Stand p l e R s m args below meth c T locs cells slots) (hexec : p.tables.exec = Jvm.exec) {own : String} {index : Nat} {y : MethodName} {bytes : ByteArray} {maxL : Nat} {ret : Option FieldType} {hh : List (Nat × Nat × Nat × Nat)}
    (hown : s.vm.findClass own = some m.cls) (hlink : (Cond.methodLink own index y).before args s = true) (hstat : (Cond.static y).before args s = true) (hinit : (Cond.initialized y.cls).before args s = true)
    (hcode : (Cond.codeWith y bytes maxL ret hh).before args s = true) (hy : y.cls ≠ "java/lang/invoke/MethodHandle" ∧ y.cls ≠ "java/lang/invoke/VarHandle")
    {W9 : Nat} {Pre : Pt → Array Value → Prop} {Post : Pt → Array Value → Option Value → Pt → Prop} (hK : Back l R p e below s args y 3 W9 Pre Post)
    {g : JFrame} (hg : g.method = m) (hsize : g.locals.size = c.maxLocals) {argsL rest : List Value} (hlen : ∀ sig, parseMethodDescriptor y.desc = some sig → argsL.length = sig.parameters.length)
    (hstack : g.stack = argsL.reverse ++ rest) (hW : 2 * g.monitorRoom + (rest.map fun v => v.category).sum ≤ W9) (hdg : decode c.code g.pc = .ok (.invokestatic index, 3))
    (hpre : ∀ vm₁, s.WarmedH vm₁ → Pre ⟨T.setVm vm₁, locs, cells, slots⟩ argsL.toArray) :
    ∃ (v : Option Value) (vm₁ : Vm) (B : Pt), s.WarmedH vm₁ ∧ Stand p l e R s m args below meth c B.U B.locs B.cells B.slots ∧ Post ⟨T.setVm vm₁, locs, cells, slots⟩ argsL.toArray v B ∧
      ∀ target, Steps p.tables e below (B.U.setTop { g with pc := g.pc + 3, stack := v.toList ++ rest }) target → Steps p.tables e below (T.setTop g) target := by
  obtain ⟨mk, methM, cM, hnamed, hmethM, -, -, -, -, -, -, hsigM⟩ := Cond.codeWith_spec hcode
  have hstatic : methM.isStatic = true := Cond.static_spec hnamed hmethM hstat
  obtain ⟨kP, hkP, -⟩ := className_of_methodNamed hnamed
  have hinitP : kP.init = .initialized := Cond.initialized_spec (findClass_of_methodNamed hnamed) hkP hinit
  obtain ⟨vm₁, X₁, hstep₁⟩ := X.invokestatic hexec hown hlink hnamed hmethM hstatic hkP hinitP hy (g := g) hg (argsL := argsL) (rest := rest) (hlen _ hsigM) hstack hdg
  obtain ⟨v, B, X', hpost, hsteps⟩ := hK m meth c ⟨T.setVm vm₁, locs, cells, slots⟩ { g with stack := rest } (.invokestatic index) mk argsL.toArray X₁ hg hsize hdg hW (X₁.named hnamed) (hpre vm₁ X₁.warmed)
  exact ⟨v, vm₁, B, X₁.warmed, X', hpost, fun target h => hstep₁ _ fun acts => by rw [doInvoke_state]; exact hsteps.trans h⟩
theorem vx_runSW {y : MethodName} {bytes cc : ByteArray} {maxL nL mc ms n index : Nat} {ret : Option FieldType} {hh : List (Nat × Nat × Nat × Nat)} {ws : List Cond} {rm : Room} {Pc : Array Value → State → Prop} {Qc : Array Value → State → Outcome → State → Prop} {free : Addr → Prop} {Ts : List Cond} {own : String} {As rest : List Value} {g : JFrame}
    (S : CallFix p m c cc nL s args Ts own) (hM : Met l y ws rm Pc Qc mc ms free) (cw : vx_CSW R s args own index y bytes maxL ret hh ws rm mc ms n) (hp : PreS s H Pc As)
    (hg : g.method = m) (hn : As.length = n) (hsize : g.locals.size = nL) (hstack : g.stack = As.reverse ++ rest) (hW : 2 * g.monitorRoom + (rest.map fun v => v.category).sum ≤ 8) (hdg : decode cc g.pc = .ok (.invokestatic index, 3)) (hf : cells + mc ≤ R.cells ∧ slots + ms ≤ R.slots) :
    va_Run p l e R s m args below meth c H locs cells slots mc ms g rest (Qc As.toArray) (free) := by
  obtain ⟨⟨hrc, hrs, hfr, hlo, hws, hcw⟩, hcode, hini, hy, hlen, hl, hstt⟩ := cw
  have hK : Back l R p e below s args y 3 8 (PreOf R mc ms Pc) (PostOf Qc mc ms free) := va_backW (hh := hh) (bytes := bytes) (maxL := maxL) (ret := ret) hM hp.1 hrc hrs hfr hlo hws hcw (fun a' U hW => word_at hW (Or.inl (by first | rfl | simp [Cond.onTables, Cond.keeps, Cond.steady])) hini)
  obtain ⟨hx, hb, hml, ho, -⟩ := S
  intro T hT X
  obtain ⟨v, vm₁, ⟨U', l2, c2, s2⟩, hW₁, X', ⟨g', mk, t, L, e1, e2, hq, h1, hL, h2, h3⟩, st⟩ := vx_callSW X hx (hh := hh) (bytes := bytes) (maxL := maxL) (ret := ret) ho hl hstt hini hcode hy hK hg (hsize.trans hml.symm) (argsL := As) (rest := rest) (fun sig h => hn.trans (hlen sig h)) hstack hW (by rw [hb]; exact hdg)
    (fun vm₁ hW₁ => ⟨hf.1, hf.2, hp.2 (T.setVm vm₁) hT hW₁⟩)
  dsimp only [Pt.U, Pt.locs, Pt.cells, Pt.slots] at X' e1 e2 h1 h2 h3 st
  subst h1; subst h2; subst h3
  exact ⟨v, (T.setVm vm₁).calling g' mk As.toArray, t, U', L, hT, X', hL, e1, e2, hq, st⟩
end VXS
abbrev vwCl : List vw_C := [(RJ0, TJ0, 4), (RJ4, TJ4, 4), (RJ6, TJ6, 1), (RJx35411, TJx35411, 4), (RJx4a65c, TJx4a65c, 3), (RX0, TX0, 3), (RX1, TX1, 2), (RX2, TX2, 3), (RX3, TX3, 6), (RX4, TX4, 2), (RX5, TX5, 3), (RX6, TX6, 9), (RX7, TX7, 6), (RX8, TX8, 4), (RX9, TX9, 1), (RX10, TX10, 16), (RX11, TX11, 2), (RX12, TX12, 4), (RX13, TX13, 12)]
end
section
/-! THE EVALUATOR: runs bytecode over a world that is a list of cells; an address is a place in that list. Its answers are tied to the machine in a later part.
It is written with recursors and with operations whose next places are numbers, for the kernel's sake. -/
/-- a cell: its kind (0 an int[], 1 a boolean[], 2 an Object[], k + 3 an object of the class k of vwCl), its length, what it holds -/
abbrev ev_Q : Type := Nat × Nat × List Value
abbrev ev_W : Type := List ev_Q
abbrev ev_R : Type := Option Value × ev_W × Nat
/-- an instruction: its place, group, place in the group, a number, an offset -/
abbrev ev_I : Type := Nat × Nat × Nat × Int
abbrev ev_K : Type := Nat × Nat × Nat × Nat
abbrev ev_T : Type := Int × Int × Int × List Int
/-- what goes on behind an instruction: at a place, with locals, stack, world, slots made -/
abbrev ev_G (α : Type) : Type := Nat → List Value → List Value → ev_W → Nat → Option α
abbrev ev_O (α : Type) : Type := ev_G α → List Value → List Value → ev_W → Nat → Option α
noncomputable def ev_at {α : Type} (l : List α) : Nat → Option α := List.rec (motive := fun _ => Nat → Option α) (fun _ => none) (fun a _ ih k => Nat.rec (some a) (fun j _ => ih j) k) l
noncomputable def ev_set {α : Type} (l : List α) : Nat → α → List α := List.rec (motive := fun _ => Nat → α → List α) (fun _ _ => []) (fun a t ih k v => Nat.rec (v :: t) (fun j _ => a :: ih j v) k) l
noncomputable def ev_len {α : Type} (l : List α) : Nat := List.rec (motive := fun _ => Nat) 0 (fun _ _ ih => Nat.succ ih) l
def ev_bits (x : Int32) : Nat := x.toBitVec.toNat
def ev_sg (x : Int32) : Nat := (ev_bits x + 2147483648) % 4294967296
noncomputable def ev_oc {α β : Type} (o : Option β) (f : β → Option α) : Option α := Option.rec none f o
noncomputable def ev_bc {α : Type} (b : Bool) (x y : Option α) : Option α := Bool.rec y x b
noncomputable def ev_lc {α β : Type} (l : List β) (f : β → List β → Option α) : Option α := List.rec none (fun a t _ => f a t) l
noncomputable def ev_ic {α : Type} (v : Value) (f : Int32 → Option α) : Option α := Value.rec f (fun _ => none) (fun _ => none) (fun _ => none) none (fun _ => none) (fun _ => none) v
noncomputable def ev_jc {α : Type} (v : Value) (f : Int64 → Option α) : Option α := Value.rec (fun _ => none) f (fun _ => none) (fun _ => none) none (fun _ => none) (fun _ => none) v
noncomputable def ev_rc {α : Type} (v : Value) (f : Nat → Option α) : Option α := Value.rec (fun _ => none) (fun _ => none) (fun _ => none) (fun _ => none) none f (fun _ => none) v
/-- a reference or null -/
noncomputable def ev_pc {α : Type} (v : Value) (y : Option α) : Option α := Value.rec (fun _ => none) (fun _ => none) (fun _ => none) (fun _ => none) y (fun _ => y) (fun _ => none) v
/-- one word wide: a whole number, a reference, null -/
noncomputable def ev_c1 {α : Type} (v : Value) (y : Option α) : Option α := Value.rec (fun _ => y) (fun _ => none) (fun _ => none) (fun _ => none) y (fun _ => y) (fun _ => none) v
/-- null 0, the place a a + 1 -/
noncomputable def ev_rn {α : Type} (v : Value) (f : Nat → Option α) : Option α := Value.rec (fun _ => none) (fun _ => none) (fun _ => none) (fun _ => none) (f 0) (fun a => f (Nat.succ a)) (fun _ => none) v
/-- the last k values of a stack, in their order, and the rest -/
noncomputable def ev_pop {α : Type} (k : Nat) : List Value → List Value → (List Value → List Value → Option α) → Option α := Nat.rec (motive := fun _ => List Value → List Value → (List Value → List Value → Option α) → Option α) (fun S acc f => f acc S) (fun _ ih S acc f => ev_lc S fun v S' => ih S' (v :: acc) f) k
noncomputable def ev_push (r : Option Value) (S : List Value) : List Value := Option.rec S (fun v => v :: S) r
noncomputable def ev_find (l : List (Nat × ev_K)) (i : Nat) : Option ev_K := List.rec (motive := fun _ => Option ev_K) none (fun q _ ih => Bool.rec ih (some q.2) (Nat.beq q.1 i)) l
section EV
variable {α : Type}
/-- no operation -/
noncomputable def ev_no : ev_O α := fun _ _ _ _ _ => none
noncomputable def ev_ild (p i : Nat) : ev_O α := fun k L S w n => ev_oc (ev_at L i) fun v => ev_ic v fun x => k p L (.int x :: S) w n
noncomputable def ev_ald (p i : Nat) : ev_O α := fun k L S w n => ev_oc (ev_at L i) fun v => ev_pc v (k p L (v :: S) w n)
noncomputable def ev_ist (p i : Nat) : ev_O α := fun k L S w n => ev_lc S fun v S' => ev_ic v fun x => k p (ev_set L i (.int x)) S' w n
noncomputable def ev_ast (p i : Nat) : ev_O α := fun k L S w n => ev_lc S fun v S' => ev_pc v (k p (ev_set L i v) S' w n)
noncomputable def ev_inc (p i : Nat) (c : Int32) : ev_O α := fun k L S w n => ev_oc (ev_at L i) fun v => ev_ic v fun x => k p (ev_set L i (.int (x + c))) S w n
noncomputable def ev_psh (p : Nat) (v : Value) : ev_O α := fun k L S w n => k p L (v :: S) w n
noncomputable def ev_dup (p : Nat) : ev_O α := fun k L S w n => ev_lc S fun v S' => ev_c1 v (k p L (v :: v :: S') w n)
noncomputable def ev_dx1 (p : Nat) : ev_O α := fun k L S w n => ev_lc S fun va S1 => ev_lc S1 fun vb S' => ev_c1 va (ev_c1 vb (k p L (va :: vb :: va :: S') w n))
noncomputable def ev_drop (p : Nat) : ev_O α := fun k L S w n => ev_lc S fun v S' => ev_c1 v (k p L S' w n)
noncomputable def ev_bin (p : Nat) (f : Int32 → Int32 → Int32) : ev_O α := fun k L S w n => ev_lc S fun v S1 => ev_lc S1 fun u S' => ev_ic v fun y => ev_ic u fun x => k p L (.int (f x y) :: S') w n
/-- as ev_bin, the second number not 0 -/
noncomputable def ev_div (p : Nat) (f : Int32 → Int32 → Int32) : ev_O α := fun k L S w n => ev_lc S fun v S1 => ev_lc S1 fun u S' => ev_ic v fun y => ev_ic u fun x => ev_bc (Nat.beq (ev_bits y) 0) none (k p L (.int (f x y) :: S') w n)
/-- Math.max -/
noncomputable def ev_mx (p : Nat) : ev_O α := fun k L S w n => ev_lc S fun v S1 => ev_lc S1 fun u S' => ev_ic v fun y => ev_ic u fun x => ev_bc (Nat.ble (ev_len S') 4) (k p L (.int (cond (Nat.blt (ev_sg x) (ev_sg y)) y x) :: S') w n) none
noncomputable def ev_cmp (p t : Nat) (f : Int32 → Int32 → Bool) : ev_O α := fun k L S w n => ev_lc S fun v S1 => ev_lc S1 fun u S' => ev_ic v fun y => ev_ic u fun x => ev_bc (f x y) (k t L S' w n) (k p L S' w n)
noncomputable def ev_cm0 (p t : Nat) (f : Int32 → Bool) : ev_O α := fun k L S w n => ev_lc S fun v S' => ev_ic v fun x => ev_bc (f x) (k t L S' w n) (k p L S' w n)
/-- null, or a place of the world -/
noncomputable def ev_pl (w : ev_W) (a : Nat) (y : Option α) : Option α := Nat.rec y (fun j _ => ev_oc (ev_at w j) fun _ => y) a
noncomputable def ev_acm (pe pn : Nat) : ev_O α := fun k L S w n => ev_lc S fun v S1 => ev_lc S1 fun u S' => ev_rn v fun a => ev_rn u fun b => ev_bc (Nat.beq b a) (k pe L S' w n) (ev_pl w a (ev_pl w b (k pn L S' w n)))
noncomputable def ev_jmp (t : Nat) : ev_O α := fun k L S w n => k t L S w n
noncomputable def ev_aln (p : Nat) : ev_O α := fun k L S w n => ev_lc S fun v S' => ev_rc v fun a => ev_oc (ev_at w a) fun c => ev_bc (Nat.blt c.1 3) (k p L (.int (Int32.ofNat c.2.1) :: S') w n) none
noncomputable def ev_get (p ci kf : Nat) : ev_O α := fun k L S w n => ev_lc S fun v S' => ev_rc v fun a => ev_oc (ev_at w a) fun c => ev_bc (Nat.beq c.1 (ci + 3)) (ev_oc (ev_at c.2.2 kf) fun u => k p L (u :: S') w n) none
noncomputable def ev_ldi (p t : Nat) : ev_O α := fun k L S w n => ev_lc S fun v S1 => ev_lc S1 fun u S' => ev_ic v fun i => ev_rc u fun a => ev_oc (ev_at w a) fun c => ev_bc (Nat.beq c.1 t && Nat.blt (ev_bits i) c.2.1) (ev_oc (ev_at c.2.2 (ev_bits i)) fun z => ev_ic z fun x => k p L (.int x :: S') w n) none
noncomputable def ev_ldq (p : Nat) : ev_O α := fun k L S w n => ev_lc S fun v S1 => ev_lc S1 fun u S' => ev_ic v fun i => ev_rc u fun a => ev_oc (ev_at w a) fun c => ev_bc (Nat.beq c.1 2 && Nat.blt (ev_bits i) c.2.1) (ev_oc (ev_at c.2.2 (ev_bits i)) fun z => ev_pc z (k p L (z :: S') w n)) none
noncomputable def ev_sti (p t : Nat) (g : Int32 → Int32) : ev_O α := fun k L S w n => ev_lc S fun z S0 => ev_lc S0 fun v S1 => ev_lc S1 fun u S' => ev_ic z fun x => ev_ic v fun i => ev_rc u fun a => ev_oc (ev_at w a) fun c => ev_bc (Nat.beq c.1 t && Nat.blt (ev_bits i) c.2.1) (k p L S' (ev_set w a (c.1, c.2.1, ev_set c.2.2 (ev_bits i) (.int (g x)))) n) none
/-- an int[], an object of the kind rt, or null, into an Object[] -/
noncomputable def ev_stq (p rt : Nat) : ev_O α := fun k L S w n => ev_lc S fun z S0 => ev_lc S0 fun v S1 => ev_lc S1 fun u S' => ev_ic v fun i => ev_rc u fun a => ev_oc (ev_at w a) fun c => ev_bc (Nat.beq c.1 2 && Nat.blt (ev_bits i) c.2.1) (ev_rn z fun b => Nat.rec (k p L S' (ev_set w a (c.1, c.2.1, ev_set c.2.2 (ev_bits i) z)) n) (fun b _ => ev_oc (ev_at w b) fun d => ev_bc (Nat.beq d.1 0 || Nat.beq d.1 rt) (k p L S' (ev_set w a (c.1, c.2.1, ev_set c.2.2 (ev_bits i) z)) n) none) b) none
/-- what a field may take: 0 an int, 1 a reference or null, 2 a boolean, 3 a long -/
noncomputable def ev_fit (q : Nat) (v : Value) (y : Option α) : Option α := Nat.rec (ev_ic v fun _ => y) (fun q _ => Nat.rec (ev_pc v y) (fun q _ => Nat.rec (ev_ic v fun x => ev_bc (Nat.blt (ev_bits x) 2) y none) (fun _ _ => ev_jc v fun _ => y) q) q) q
noncomputable def ev_ptf (p ci kf q : Nat) : ev_O α := fun k L S w n => ev_lc S fun v S1 => ev_lc S1 fun u S' => ev_rc u fun a => ev_oc (ev_at w a) fun c => ev_bc (Nat.beq c.1 (ci + 3) && Nat.blt kf c.2.1) (ev_fit q v (k p L S' (ev_set w a (c.1, c.2.1, ev_set c.2.2 kf v)) n)) none
noncomputable def ev_nwa (p t : Nat) (v0 : Value) : ev_O α := fun k L S w n => ev_lc S fun v S' => ev_ic v fun i => ev_bc (Nat.blt (ev_bits i) 100000) (k p L (.ref (ev_len w) :: S') (w ++ [(t, ev_bits i, List.replicate (ev_bits i) v0)]) (n + ev_bits i)) none
noncomputable def ev_new (p ci N : Nat) (dv : List Value) : ev_O α := fun k L S w n => k p L (.ref (ev_len w) :: S) (w ++ [(ci + 3, N, dv)]) (n + N)
noncomputable def ev_gst (p a : Nat) : ev_O α := fun k L S w n => k p L (.ref a :: S) w n
noncomputable def ev_cst (p t : Nat) : ev_O α := fun k L S w n => ev_lc S fun v S' => ev_rc v fun a => ev_oc (ev_at w a) fun c => ev_bc (Nat.beq c.1 t) (k p L (v :: S') w n) none
noncomputable def ev_i2l (p : Nat) : ev_O α := fun k L S w n => ev_lc S fun v S' => ev_ic v fun x => k p L (.long x.toInt64 :: S') w n
noncomputable def ev_lcm (p : Nat) : ev_O α := fun k L S w n => ev_lc S fun v S1 => ev_lc S1 fun u S' => ev_jc v fun y => ev_jc u fun x => k p L (.int (lg_cmp x y) :: S') w n
/-- a switch from 0 on, within -/
noncomputable def ev_tsw (ts : List Nat) : ev_O α := fun k L S w n => ev_lc S fun v S' => ev_ic v fun x => ev_bc (Nat.blt (ev_bits x) 100) (ev_oc (ev_at ts (ev_bits x)) fun t => k t L S' w n) none
noncomputable def ev_obj (p : Nat) : ev_O α := fun k L S w n => ev_lc S fun v S' => ev_rc v fun _ => ev_bc (Nat.ble (ev_len S') 4) (k p L S' w n) none
variable (cf : Nat → List Value → ev_W → Option ev_R)
noncomputable def ev_inv (p cal na : Nat) : ev_O α := fun k L S w n => ev_pop na S [] fun as S' => ev_bc (Nat.ble (ev_len S') 4) (ev_oc (cf cal as w) fun q => k p L (ev_push q.1 S') q.2.1 (n + q.2.2)) none
/-- as ev_inv, the deepest argument a cell -/
noncomputable def ev_ini (p cal na : Nat) : ev_O α := fun k L S w n => ev_pop na S [] fun as S' => ev_lc as fun v _ => ev_rc v fun _ => ev_bc (Nat.ble (ev_len S') 4) (ev_oc (cf cal as w) fun q => k p L (ev_push q.1 S') q.2.1 (n + q.2.2)) none
/-- a call of a receiver of the class ci -/
noncomputable def ev_inr (p cal na ci : Nat) : ev_O α := fun k L S w n => ev_pop na S [] fun as S' => ev_lc as fun v _ => ev_rc v fun a => ev_oc (ev_at w a) fun c => ev_bc (Nat.beq c.1 (ci + 3) && Nat.ble (ev_len S') 4) (ev_oc (cf cal as w) fun q => k p L (ev_push q.1 S') q.2.1 (n + q.2.2)) none
variable (fin : Option Value → ev_W → Nat → Option α)
/-- the returns: of an int; of a boolean; of a reference or null; of nothing -/
noncomputable def ev_rti : ev_O α := fun _ _ S w n => ev_lc S fun v S' => ev_ic v fun x => List.rec (fin (some (.int x)) w n) (fun _ _ _ => none) S'
noncomputable def ev_rtz : ev_O α := fun _ _ S w n => ev_lc S fun v S' => ev_ic v fun x => ev_bc (Nat.blt (ev_bits x) 2) (List.rec (fin (some (.int x)) w n) (fun _ _ _ => none) S') none
noncomputable def ev_rta : ev_O α := fun _ _ S w n => ev_lc S fun v S' => ev_pc v (List.rec (fin (some v) w n) (fun _ _ _ => none) S')
noncomputable def ev_rtv : ev_O α := fun _ _ S w n => List.rec (fin none w n) (fun _ _ _ => none) S
/-- each value null, or a cell that is an int[] or of the kind rt -/
noncomputable def ev_el (w : ev_W) (rt : Nat) (vs : List Value) (y : Option α) : Option α := List.rec y (fun v _ ih => ev_rn v fun b => Nat.rec ih (fun b _ => ev_oc (ev_at w b) fun d => ev_bc (Nat.beq d.1 0 || Nat.beq d.1 rt) ih none) b) vs
/-- Arrays.copyOf of an Object[], to no smaller length: the whole method -/
noncomputable def ev_cpy (rt : Nat) : ev_O α := fun _ L S w n => ev_oc (ev_at L 0) fun u => ev_oc (ev_at L 1) fun v => ev_rc u fun a => ev_ic v fun i => ev_oc (ev_at w a) fun c => ev_bc (Nat.beq c.1 2 && (Nat.ble c.2.1 (ev_bits i) && Nat.blt (ev_bits i) 100000)) (ev_el w rt c.2.2 (List.rec (fin (some (.ref (ev_len w))) (w ++ [(2, ev_bits i, c.2.2 ++ List.replicate (ev_bits i - c.2.1) .null)]) (n + ev_bits i)) (fun _ _ _ => none) S)) none
end EV
/-- f steps at most -/
noncomputable def ev_run {α : Type} (tb : List (List (ev_O α))) (stop : ev_G α) (f : Nat) : ev_G α :=
  Nat.rec (motive := fun _ => ev_G α) stop (fun _ ih pc L S w n => ev_oc (ev_oc (ev_at tb (pc / 16)) fun c => ev_at c (pc % 16)) fun o => o ih L S w n) f
/-- every word is one wide -/
noncomputable def ev_cat {α : Type} (vs : List Value) (y : Option α) : Option α := List.rec y (fun v _ ih => ev_c1 v ih) vs
/-- a method's row of the table: how many arguments, the other locals, its operations -/
abbrev ev_Y : Type := Nat × List Value × List (List (ev_O ev_R))
noncomputable def ev_go (M : ev_Y) (vs : List Value) (w : ev_W) : Option ev_R := ev_bc (Nat.beq (ev_len vs) M.1) (ev_cat vs (ev_run M.2.2 (fun _ _ _ _ _ => none) 100000 0 (vs ++ M.2.1) [] w 0)) none
end
section
/-! what the evaluator's words mean over the machine: numbers, lists, the world -/
theorem ev_at_eq {α : Type} (l : List α) : ∀ k : Nat, ev_at l k = l[k]? := by
  induction l with
  | nil => intro k; rfl
  | cons a l ih =>
    intro k
    cases k with
    | zero => rfl
    | succ k => exact (ih k).trans (by simp)
theorem ev_set_eq {α : Type} (l : List α) : ∀ (k : Nat) (v : α), ev_set l k v = l.set k v := by
  induction l with
  | nil => intro k v; rfl
  | cons a l ih =>
    intro k v
    cases k with
    | zero => rfl
    | succ k => exact congrArg (a :: ·) (ih k v)
theorem ev_len_eq {α : Type} (l : List α) : ev_len l = l.length := by
  induction l with
  | nil => rfl
  | cons a l ih => exact congrArg Nat.succ ih
theorem ev_oc_some {α β : Type} {o : Option β} {f : β → Option α} {r : α} (h : ev_oc o f = some r) : ∃ v, o = some v ∧ f v = some r := by
  cases o with
  | none => cases h
  | some v => exact ⟨v, rfl, h⟩
theorem ev_bc_some {α : Type} {b : Bool} {x y : Option α} {r : α} (h : ev_bc b x y = some r) : (b = true ∧ x = some r) ∨ (b = false ∧ y = some r) := by
  cases b with
  | true => exact Or.inl ⟨rfl, h⟩
  | false => exact Or.inr ⟨rfl, h⟩
theorem ev_bc_t {α : Type} {b : Bool} {x : Option α} {r : α} (h : ev_bc b x none = some r) : b = true ∧ x = some r := by
  cases b with
  | true => exact ⟨rfl, h⟩
  | false => cases h
theorem ev_lc_some {α β : Type} {l : List β} {f : β → List β → Option α} {r : α} (h : ev_lc l f = some r) : ∃ a t, l = a :: t ∧ f a t = some r := by
  cases l with
  | nil => cases h
  | cons a t => exact ⟨a, t, rfl, h⟩
theorem ev_ic_some {α : Type} {v : Value} {f : Int32 → Option α} {r : α} (h : ev_ic v f = some r) : ∃ x, v = .int x ∧ f x = some r := by
  cases v <;> first | exact ⟨_, rfl, h⟩ | cases h
theorem ev_jc_some {α : Type} {v : Value} {f : Int64 → Option α} {r : α} (h : ev_jc v f = some r) : ∃ x, v = .long x ∧ f x = some r := by
  cases v <;> first | exact ⟨_, rfl, h⟩ | cases h
theorem ev_rc_some {α : Type} {v : Value} {f : Nat → Option α} {r : α} (h : ev_rc v f = some r) : ∃ x, v = .ref x ∧ f x = some r := by
  cases v <;> first | exact ⟨_, rfl, h⟩ | cases h
theorem ev_pc_some {α : Type} {v : Value} {y : Option α} {r : α} (h : ev_pc v y = some r) : (v = .null ∨ ∃ x, v = .ref x) ∧ y = some r := by
  cases v <;> first | exact ⟨Or.inl rfl, h⟩ | exact ⟨Or.inr ⟨_, rfl⟩, h⟩ | cases h
theorem ev_c1_some {α : Type} {v : Value} {y : Option α} {r : α} (h : ev_c1 v y = some r) : v.category = 1 ∧ y = some r := by
  cases v <;> first | exact ⟨rfl, h⟩ | cases h
theorem ev_rn_some {α : Type} {v : Value} {f : Nat → Option α} {r : α} (h : ev_rn v f = some r) : (v = .null ∧ f 0 = some r) ∨ ∃ x, v = .ref x ∧ f (x + 1) = some r := by
  cases v <;> first | exact Or.inl ⟨rfl, h⟩ | exact Or.inr ⟨_, rfl, h⟩ | cases h
theorem ev_pop_some {α : Type} {r : α} : ∀ (k : Nat) (S acc : List Value) (f : List Value → List Value → Option α), ev_pop k S acc f = some r → ∃ as S', S = as.reverse ++ S' ∧ as.length = k ∧ f (as ++ acc) S' = some r := by
  intro k
  induction k with
  | zero => intro S acc f h; exact ⟨[], S, rfl, rfl, h⟩
  | succ k ih =>
    intro S acc f h
    obtain ⟨v, S', rfl, h⟩ := ev_lc_some (show ev_lc S (fun v S' => ev_pop k S' (v :: acc) f) = some r from h)
    obtain ⟨as, S2, rfl, h1, h2⟩ := ih S' (v :: acc) f h
    exact ⟨as ++ [v], S2, by simp, by simp [h1], by simpa using h2⟩
/-! numbers -/
theorem ev_bits_inj {x y : Int32} : ev_bits x = ev_bits y ↔ x = y := by
  constructor
  · intro h
    exact Int32.toBitVec_inj.mp (BitVec.eq_of_toNat_eq h)
  · rintro rfl; rfl
theorem ev_bits_lt (x : Int32) : ev_bits x < 4294967296 := x.toBitVec.isLt
theorem ev_bits_toInt (x : Int32) : x.toInt = if ev_bits x < 2147483648 then (ev_bits x : Int) else (ev_bits x : Int) - 4294967296 := by
  show x.toBitVec.toInt = _
  rw [BitVec.toInt_eq_toNat_cond]
  have e : (2 * x.toBitVec.toNat < 2 ^ 32) ↔ ev_bits x < 2147483648 := by
    show _ ↔ x.toBitVec.toNat < _
    omega
  by_cases h : ev_bits x < 2147483648
  · rw [if_pos (e.mpr h), if_pos h]; rfl
  · rw [if_neg (fun q => h (e.mp q)), if_neg h]; rfl
theorem ev_sg_toInt (x : Int32) : (ev_sg x : Int) = x.toInt + 2147483648 := by
  have h := ev_bits_lt x
  rw [ev_bits_toInt]
  unfold ev_sg
  split <;> omega
theorem ev_lt_iff {x y : Int32} : Nat.blt (ev_sg x) (ev_sg y) = true ↔ x < y := by
  rw [Int32.lt_iff_toInt_lt]
  have hx := ev_sg_toInt x
  have hy := ev_sg_toInt y
  rw [Nat.blt_eq]
  omega
theorem ev_le_iff {x y : Int32} : Nat.ble (ev_sg x) (ev_sg y) = true ↔ x ≤ y := by
  rw [Int32.le_iff_toInt_le]
  have hx := ev_sg_toInt x
  have hy := ev_sg_toInt y
  rw [Nat.ble_eq]
  omega
theorem ev_eq_iff {x y : Int32} : Nat.beq (ev_bits x) (ev_bits y) = true ↔ x = y := by
  rw [Nat.beq_eq]
  exact ev_bits_inj
theorem ev_zero_iff {y : Int32} : Nat.beq (ev_bits y) 0 = true ↔ y = 0 := ev_eq_iff (y := 0)
theorem ev_ix {i : Int32} {N : Nat} (h : ev_bits i < N) (hN : N ≤ 100000) : ¬ i < 0 ∧ i.toNatClampNeg = ev_bits i := by
  have e : i.toInt = (ev_bits i : Int) := by rw [ev_bits_toInt, if_pos (by omega)]
  constructor
  · rw [Int32.lt_iff_toInt_lt, e]
    show ¬ _ < (0 : Int32).toInt
    rw [Int32.toInt_zero]
    omega
  · show i.toInt.toNat = _
    rw [e]; rfl
theorem ev_vpin {i : Int32} {N : Nat} (h : ev_bits i < N) (hN : N ≤ 100000) : vp_in i N ∧ i.toNatClampNeg = ev_bits i := by
  obtain ⟨h1, h2⟩ := ev_ix h hN
  refine ⟨fun q => ?_, h2⟩
  rcases q with q | q
  · exact h1 q
  · omega
theorem ev_bool {x : Int32} (h : ev_bits x < 2) : x = 0 ∨ x = 1 := by
  rcases Nat.lt_or_ge (ev_bits x) 1 with q | q
  · exact Or.inl (ev_bits_inj.mp (show ev_bits x = 0 by omega))
  · exact Or.inr (ev_bits_inj.mp (show ev_bits x = 1 by omega))
/-! the world -/
def ev_v (ad : Nat → Nat) : Value → Value
  | .ref k => .ref (ad k)
  | v => v
def ev_iv : Value → Int32
  | .int x => x
  | _ => 0
def ev_rv (ad : Nat → Nat) : Value → Option Nat
  | .ref k => some (ad k)
  | _ => none
/-- G: the classes of the arrays by their kinds -/
def ev_e (G : Nat → ClassId) (ad : Nat → Nat) (c : ev_Q) : va_E := match c.1 with
  | 0 => .inl (G 0, c.2.1, .inl (fun j => ev_iv (c.2.2.getD j .null)))
  | 1 => .inl (G 1, c.2.1, .inl (fun j => ev_iv (c.2.2.getD j .null)))
  | 2 => .inl (G 2, c.2.1, .inr (.inr (.inr (.inr (fun j => ev_rv ad (c.2.2.getD j .null))))))
  | t + 3 => .inr (t, c.2.2.map (ev_v ad))
def ev_w (G : Nat → ClassId) (ad : Nat → Nat) (w : ev_W) : va_W := w.mapIdx (fun k c => (ad k, ev_e G ad c))
def ev_wf (w : ev_W) : Prop := ∀ c ∈ w, c.2.1 = c.2.2.length ∧ c.2.1 ≤ 100000
def ev_ty (G : Nat → ClassId) : List (ClassId × FieldType) := [(G 0, .int), (G 1, .boolean), (G 2, .object "java/lang/Object")]
theorem ev_w_at {G : Nat → ClassId} {ad : Nat → Nat} {w : ev_W} {k : Nat} {c : ev_Q} (h : w[k]? = some c) : (ev_w G ad w)[k]? = some (ad k, ev_e G ad c) := by
  unfold ev_w
  rw [List.getElem?_mapIdx, h]
  rfl
theorem ev_w_set {G : Nat → ClassId} {ad : Nat → Nat} {w : ev_W} {k : Nat} {c : ev_Q} : ev_w G ad (w.set k c) = (ev_w G ad w).set k (ad k, ev_e G ad c) := by
  apply List.ext_getElem?
  intro j
  unfold ev_w
  rw [List.getElem?_mapIdx, List.getElem?_set, List.getElem?_set, List.getElem?_mapIdx, List.length_mapIdx]
  by_cases h : k = j
  · subst h
    by_cases h2 : k < w.length <;> simp [h2]
  · simp [h]
theorem ev_w_push {G : Nat → ClassId} {ad : Nat → Nat} {w : ev_W} {c : ev_Q} : ev_w G ad (w ++ [c]) = ev_w G ad w ++ [(ad w.length, ev_e G ad c)] := by
  apply List.ext_getElem?
  intro j
  unfold ev_w
  rw [List.getElem?_mapIdx, List.getElem?_append, List.getElem?_append, List.getElem?_mapIdx, List.length_mapIdx]
  by_cases h : j < w.length
  · simp [h]
  · rcases Nat.lt_or_ge j (w.length + 1) with h2 | h2
    · rw [show j = w.length by omega]; simp
    · have e : j - w.length = (j - w.length - 1) + 1 := by omega
      rw [if_neg h, if_neg h, e]; simp
theorem ev_wf_set {w : ev_W} {k : Nat} {c : ev_Q} (h : ev_wf w) (hc : c.2.1 = c.2.2.length ∧ c.2.1 ≤ 100000) : ev_wf (w.set k c) := by
  intro q hq
  rcases List.mem_or_eq_of_mem_set hq with h1 | rfl
  · exact h q h1
  · exact hc
theorem ev_wf_push {w : ev_W} {c : ev_Q} (h : ev_wf w) (hc : c.2.1 = c.2.2.length ∧ c.2.1 ≤ 100000) : ev_wf (w ++ [c]) := by
  intro q hq
  rcases List.mem_append.mp hq with h1 | h1
  · exact h q h1
  · rw [List.mem_singleton.mp h1]; exact hc
/-- the heap holds the world; its next cell is the world's next place -/
def ev_H (D : va_G) (G : Nat → ClassId) (ad : Nat → Nat) (A : Nat → Prop) (w : ev_W) (H : Heap) : Prop := va_P D vwCl (ev_w G ad w) H ∧ va_D A (ev_w G ad w) ∧ ev_wf w ∧ H.size = ad w.length
/-- locals: the words that are one wide, by their places -/
def ev_l (ad : Nat → Nat) (L : List Value) : List (Nat × Value) := (L.mapIdx (fun k v => (k, ev_v ad v))).filter (fun q => match q.2 with | .int _ => true | .ref _ => true | .null => true | _ => false)
theorem ev_l_mem {ad : Nat → Nat} {L : List Value} {i : Nat} {v : Value} : (i, v) ∈ ev_l ad L ↔ ∃ u, L[i]? = some u ∧ v = ev_v ad u ∧ (match v with | .int _ => true | .ref _ => true | .null => true | _ => false) = true := by
  unfold ev_l
  rw [List.mem_filter, List.mem_mapIdx]
  constructor
  · rintro ⟨⟨j, hj, e⟩, h2⟩
    cases e
    exact ⟨L[i], by simp [hj], rfl, h2⟩
  · rintro ⟨u, h1, rfl, h2⟩
    obtain ⟨hj, e⟩ := List.getElem?_eq_some_iff.mp h1
    exact ⟨⟨i, hj, by rw [e]⟩, h2⟩
theorem ev_l_at {ad : Nat → Nat} {L : List Value} {ls : Array Slot} {nL i : Nat} {u : Value} (h : lv_has ls nL (ev_l ad L)) (hu : L[i]? = some u) (hk : u = .null ∨ (∃ x, u = .ref x) ∨ ∃ x, u = .int x) : ls[i]? = some (.val (ev_v ad u)) := by
  refine h.2.2 (i, ev_v ad u) (ev_l_mem.mpr ⟨u, hu, rfl, ?_⟩)
  rcases hk with rfl | ⟨x, rfl⟩ | ⟨x, rfl⟩ <;> rfl
/-- a store of a word one wide -/
theorem ev_l_put {ad : Nat → Nat} {L : List Value} {ls : Array Slot} {nL i : Nat} {u : Value} (h : lv_has ls nL ((i, ev_v ad u) :: (ev_l ad L).filter (fun q => !(q.1 == i) && !(q.1 + 1 == i && q.2.category == 2)))) : lv_has ls nL (ev_l ad (L.set i u)) := by
  refine ⟨h.1, h.2.1, fun q hq => ?_⟩
  obtain ⟨j, v⟩ := q
  obtain ⟨u', h1, h2, h3⟩ := ev_l_mem.mp hq
  by_cases hj : j = i
  · subst hj
    have hlt : j < L.length := by
      have := (List.getElem?_eq_some_iff.mp h1).1
      simpa using this
    rw [List.getElem?_set_self hlt] at h1
    cases h1
    subst h2
    exact h.2.2 _ List.mem_cons_self
  · rw [List.getElem?_set_ne (fun q => hj q.symm)] at h1
    refine h.2.2 _ (List.mem_cons_of_mem _ (List.mem_filter.mpr ⟨ev_l_mem.mpr ⟨u', h1, h2, h3⟩, ?_⟩))
    have hc : v.category = 1 := by
      cases v <;> first | rfl | cases h3
    simp [hj, hc]
theorem ev_v_cat {ad : Nat → Nat} {v : Value} : (ev_v ad v).category = v.category := by cases v <;> rfl
theorem ev_sum {ad : Nat → Nat} {S : List Value} (h : S.length ≤ 4) : ((S.map (ev_v ad)).map fun v => v.category).sum ≤ 8 := by
  have key : ∀ S : List Value, ((S.map (ev_v ad)).map fun v => v.category).sum ≤ 2 * S.length := by
    intro S
    induction S with
    | nil => simp
    | cons v S ih =>
      have : (ev_v ad v).category ≤ 2 := by rw [ev_v_cat]; cases v <;> simp [Value.category]
      simp only [List.map_cons, List.sum_cons, List.length_cons]
      omega
  have := key S
  omega
end
section
/-! each operation of the evaluator, over the machine -/
def ev_nk : Cond → Bool
  | .fieldLinkNest .. => true
  | .methodLinkNest .. => true
  | .castable .. => true
  | _ => false
/-- the words that stay as the tables warm; those that are carried by hand; the two calls through an interface -/
def ev_gd : List Cond := lw_tbl.filter goodWord
def ev_nw : List Cond := lw_tbl.filter ev_nk
def ev_fw : List (String × MethodName × MethodName) := [("java/util/ArrayList$Itr", ⟨"java/util/Iterator", "hasNext", "()Z"⟩, ⟨"java/util/ArrayList$Itr", "hasNext", "()Z"⟩), ("java/util/ArrayList$Itr", ⟨"java/util/Iterator", "next", "()Ljava/lang/Object;"⟩, ⟨"java/util/ArrayList$Itr", "next", "()Ljava/lang/Object;"⟩)]
def ev_NW (U : State) : Prop := (∀ w ∈ ev_nw, va_Nw w U) ∧ (∀ q ∈ ev_fw, va_Fw q.1 q.2.1 q.2.2 U) ∧ (∃ mi : Nat, va_Mi "[Ljava/lang/Object;" mi U) ∧ va_Dc U
theorem ev_NW.warm {s U : State} (hW : s.WarmedH U.vm) (h : ev_NW s) : ev_NW U := by
  refine ⟨fun w hw => ?_, fun q hq => ?_, h.2.2.1.imp fun mi hm => hm.moved hW.alike, h.2.2.2.moved hW.alike⟩
  · have h1 := h.1 w hw
    have hk : ev_nk w = true := (List.mem_filter.mp hw).2
    cases w <;> first | exact va_Nw.warmF hW h1 | exact va_Nw.warmM hW h1 | exact va_Nw.warmC hW h1 | exact absurd hk (by simp [ev_nk])
  · refine va_Fw.moved ?_ hW.alike (h.2.1 q hq)
    unfold ev_fw at hq
    rcases List.mem_cons.mp hq with rfl | hq
    · exact ⟨by decide, by decide⟩
    · rcases List.mem_cons.mp hq with rfl | hq
      · exact ⟨by decide, by decide⟩
      · cases hq
/-- what is so behind every step: the world's tables, the array that new lists share -/
def ev_B (D : va_G) (G : Nat → ClassId) (ad : Nat → Nat) (A : Nat → Prop) (w : ev_W) (U : State) : Prop :=
  ev_H D G ad A w U.heap ∧ va_K D vwCl (ev_ty G) U ∧ va_AO "java/lang/Object" U ∧ ev_NW U ∧ va_Z "java/util/ArrayList" "DEFAULTCAPACITY_EMPTY_ELEMENTDATA" "[Ljava/lang/Object;" (.ref (ad 1)) A U U.heap ∧ ∀ q, U.heap.size ≤ q → A q
def ev_X (cc : ByteArray) (nL : Nat) (own : String) (rt : Option FieldType) (p : Program) (s : State) (m : MethodId) (args : Array Value) (meth : Method) (c : Code) (D : va_G) (G : Nat → ClassId) (ad : Nat → Nat) (A : Nat → Prop) (z : Nat) : Prop :=
  p.tables.exec = Jvm.exec ∧ c.code = cc ∧ c.maxLocals = nL ∧ s.vm.findClass own = some m.cls ∧ (∀ w ∈ ev_gd, w.before args s = true) ∧ va_K D vwCl (ev_ty G) s ∧ va_AO "java/lang/Object" s ∧ ev_NW s ∧ va_Z "java/util/ArrayList" "DEFAULTCAPACITY_EMPTY_ELEMENTDATA" "[Ljava/lang/Object;" (.ref (ad 1)) A s s.heap ∧ (∀ q, s.heap.size ≤ q → A q) ∧ meth.locks = false ∧ meth.sig.returnType = rt ∧ (∀ k, z ≤ k → ad (k + 1) = ad k + 1)
/-- an operation is right at a place: where what follows is, it is -/
def ev_ok {α : Type} (P : Nat → List Value → List Value → ev_W → Nat → Prop) (r : α) (pc : Nat) (o : ev_O α) : Prop := ∀ (k : ev_G α) (L S : List Value) (w : ev_W) (n : Nat), (∀ pc' L' S' w' n', k pc' L' S' w' n' = some r → P pc' L' S' w' n') → o k L S w n = some r → P pc L S w n
section OPS
variable {p : Program} {l : Launch} {e : Env} {R : Room} {s : State} {m : MethodId} {args : Array Value} {below : List Frame} {meth : Method} {c : Code} {Q : State → Prop}
variable {cc : ByteArray} {nL : Nat} {own : String} {rt : Option FieldType} {D : va_G} {G : Nat → ClassId} {ad : Nat → Nat} {A : Nat → Prop} {z wE nE : Nat} {α : Type} {r : α} {P : Nat → List Value → List Value → ev_W → Nat → Prop} {pc q i idx : Nat}
abbrev ev_PP (p : Program) (l : Launch) (e : Env) (R : Room) (s : State) (m : MethodId) (args : Array Value) (below : List Frame) (meth : Method) (c : Code) (Q : State → Prop) (nL : Nat) (D : va_G) (G : Nat → ClassId) (ad : Nat → Nat) (A : Nat → Prop) (z wE nE : Nat) (P : Nat → List Value → List Value → ev_W → Nat → Prop) : Prop :=
  ∀ pc L S w n, P pc L S w n ↔ (z ≤ w.length → (w.length ≤ wE ∧ n ≤ nE) ∧ ∀ (H : Heap) (locs : List Loc) (ls : Array Slot), ev_H D G ad A w H → lv_has ls nL (ev_l ad L) → va_S A s.heap H locs → W p l e R s m args below meth c H locs (w.length - z) n Q (F0 m pc ls (S.map (ev_v ad))))
theorem ok_no : ev_ok P r pc (ev_no : ev_O α) := fun k L S w n _ h => by cases h
/-- an operation that moves neither world nor count, by what it is over the machine -/
theorem ok_of (X : ev_X cc nL own rt p s m args meth c D G ad A z) (hP : ev_PP p l e R s m args below meth c Q nL D G ad A z wE nE P) {o : ev_O α} (h : ∀ (k : ev_G α) (L S : List Value) (w : ev_W) (n : Nat), o k L S w n = some r → ∃ pc' L' S', k pc' L' S' w n = some r ∧ ∀ (H : Heap) (locs : List Loc) (ls : Array Slot), ev_H D G ad A w H → lv_has ls nL (ev_l ad L) → va_S A s.heap H locs → (∀ ls', lv_has ls' nL (ev_l ad L') → W p l e R s m args below meth c H locs (w.length - z) n Q (F0 m pc' ls' (S'.map (ev_v ad)))) → W p l e R s m args below meth c H locs (w.length - z) n Q (F0 m pc ls (S.map (ev_v ad)))) : ev_ok P r pc o := by
  intro k L S w n hk ho
  obtain ⟨pc', L', S', h1, h2⟩ := h k L S w n ho
  rw [hP]
  intro hz
  obtain ⟨hm, h3⟩ := (hP _ _ _ _ _).mp (hk _ _ _ _ _ h1) hz
  exact ⟨hm, fun H locs ls hH hl hS => h2 H locs ls hH hl hS fun ls' hl' => h3 H locs ls' hH hl' hS⟩
theorem ok_psh_iconst (X : ev_X cc nL own rt p s m args meth c D G ad A z) (hP : ev_PP p l e R s m args below meth c Q nL D G ad A z wE nE P) {n : Int} (hd : decode cc pc = .ok (.iconst n, 1)) (hq : pc + 1 = q) : ev_ok P r pc (ev_psh q (.int (Int32.ofInt n))) := by
  subst hq
  exact ok_of X hP fun k L S w n h => ⟨_, _, _, h, fun H locs ls hH hl hS kk => lv_iconst X.1 X.2.1 hd rfl (kk ls hl)⟩
theorem ok_psh_bipush (X : ev_X cc nL own rt p s m args meth c D G ad A z) (hP : ev_PP p l e R s m args below meth c Q nL D G ad A z wE nE P) {n : Int} (hd : decode cc pc = .ok (.bipush n, 2)) (hq : pc + 2 = q) : ev_ok P r pc (ev_psh q (.int (Int8.ofInt n).toInt32)) := by
  subst hq
  exact ok_of X hP fun k L S w n h => ⟨_, _, _, h, fun H locs ls hH hl hS kk => lv_bipush X.1 X.2.1 hd rfl (kk ls hl)⟩
theorem ok_psh_sipush (X : ev_X cc nL own rt p s m args meth c D G ad A z) (hP : ev_PP p l e R s m args below meth c Q nL D G ad A z wE nE P) {n : Int} (hd : decode cc pc = .ok (.sipush n, 3)) (hq : pc + 3 = q) : ev_ok P r pc (ev_psh q (.int (Int16.ofInt n).toInt32)) := by
  subst hq
  exact ok_of X hP fun k L S w n h => ⟨_, _, _, h, fun H locs ls hH hl hS kk => lv_sipush X.1 X.2.1 hd rfl (kk ls hl)⟩
theorem ok_psh_ldc (X : ev_X cc nL own rt p s m args meth c D G ad A z) (hP : ev_PP p l e R s m args below meth c Q nL D G ad A z wE nE P) {v : Int32} (hd : decode cc pc = .ok (.ldc idx, 2)) (hl : Cond.constant own idx v ∈ ev_gd) (hq : pc + 2 = q) : ev_ok P r pc (ev_psh q (.int v)) := by
  subst hq
  exact ok_of X hP fun k L S w n h => ⟨_, _, _, h, fun H locs ls hH hl' hS kk => lv_ldc X.1 X.2.1 X.2.2.2.1 (X.2.2.2.2.1 _ hl) hd (kk ls hl')⟩
theorem ok_psh_null (X : ev_X cc nL own rt p s m args meth c D G ad A z) (hP : ev_PP p l e R s m args below meth c Q nL D G ad A z wE nE P) (hd : decode cc pc = .ok (.aconst_null, 1)) (hq : pc + 1 = q) : ev_ok P r pc (ev_psh q .null) := by
  subst hq
  exact ok_of X hP fun k L S w n h => ⟨_, _, _, h, fun H locs ls hH hl hS kk => lv_null X.1 X.2.1 hd (kk ls hl)⟩
theorem ok_ild_n (X : ev_X cc nL own rt p s m args meth c D G ad A z) (hP : ev_PP p l e R s m args below meth c Q nL D G ad A z wE nE P) {j : Fin 4} (hd : decode cc pc = .ok (.iload_n j, 1)) (hj : (j : Nat) = i) (hq : pc + 1 = q) : ev_ok P r pc (ev_ild q i) := by
  subst hq
  refine ok_of X hP fun k L S w n h => ?_
  obtain ⟨v, h1, h⟩ := ev_oc_some h
  obtain ⟨x, rfl, h⟩ := ev_ic_some h
  rw [ev_at_eq] at h1
  exact ⟨_, _, _, h, fun H locs ls hH hl hS kk => lv_iload_n X.1 X.2.1 hd hj (ev_l_at hl h1 (Or.inr (Or.inr ⟨_, rfl⟩))) (kk ls hl)⟩
theorem ok_ild (X : ev_X cc nL own rt p s m args meth c D G ad A z) (hP : ev_PP p l e R s m args below meth c Q nL D G ad A z wE nE P) (hd : decode cc pc = .ok (.iload i, 2)) (hq : pc + 2 = q) : ev_ok P r pc (ev_ild q i) := by
  subst hq
  refine ok_of X hP fun k L S w n h => ?_
  obtain ⟨v, h1, h⟩ := ev_oc_some h
  obtain ⟨x, rfl, h⟩ := ev_ic_some h
  rw [ev_at_eq] at h1
  exact ⟨_, _, _, h, fun H locs ls hH hl hS kk => lv_iload X.1 X.2.1 hd (ev_l_at hl h1 (Or.inr (Or.inr ⟨_, rfl⟩))) (kk ls hl)⟩
theorem ok_ald_n (X : ev_X cc nL own rt p s m args meth c D G ad A z) (hP : ev_PP p l e R s m args below meth c Q nL D G ad A z wE nE P) {j : Fin 4} (hd : decode cc pc = .ok (.aload_n j, 1)) (hj : (j : Nat) = i) (hq : pc + 1 = q) : ev_ok P r pc (ev_ald q i) := by
  subst hq
  refine ok_of X hP fun k L S w n h => ?_
  obtain ⟨v, h1, h⟩ := ev_oc_some h
  obtain ⟨hv, h⟩ := ev_pc_some h
  rw [ev_at_eq] at h1
  refine ⟨_, _, _, h, fun H locs ls hH hl hS kk => ?_⟩
  rcases hv with rfl | ⟨x, rfl⟩
  · exact lv_aload_nN X.1 X.2.1 hd hj (ev_l_at hl h1 (Or.inl rfl)) (kk ls hl)
  · exact lv_aload_n X.1 X.2.1 hd hj (ev_l_at hl h1 (Or.inr (Or.inl ⟨_, rfl⟩))) (kk ls hl)
theorem ok_ald (X : ev_X cc nL own rt p s m args meth c D G ad A z) (hP : ev_PP p l e R s m args below meth c Q nL D G ad A z wE nE P) (hd : decode cc pc = .ok (.aload i, 2)) (hq : pc + 2 = q) : ev_ok P r pc (ev_ald q i) := by
  subst hq
  refine ok_of X hP fun k L S w n h => ?_
  obtain ⟨v, h1, h⟩ := ev_oc_some h
  obtain ⟨hv, h⟩ := ev_pc_some h
  rw [ev_at_eq] at h1
  refine ⟨_, _, _, h, fun H locs ls hH hl hS kk => ?_⟩
  rcases hv with rfl | ⟨x, rfl⟩
  · exact lv_aloadN X.1 X.2.1 hd (ev_l_at hl h1 (Or.inl rfl)) (kk ls hl)
  · exact lv_aload X.1 X.2.1 hd (ev_l_at hl h1 (Or.inr (Or.inl ⟨_, rfl⟩))) (kk ls hl)
theorem ok_ist_n (X : ev_X cc nL own rt p s m args meth c D G ad A z) (hP : ev_PP p l e R s m args below meth c Q nL D G ad A z wE nE P) {j : Fin 4} (hd : decode cc pc = .ok (.istore_n j, 1)) (hj : (j : Nat) = i) (hn : i < nL) (hq : pc + 1 = q) : ev_ok P r pc (ev_ist q i) := by
  subst hq
  refine ok_of X hP fun k L S w n h => ?_
  obtain ⟨v, S', rfl, g⟩ := ev_lc_some h
  obtain ⟨x, rfl, g2⟩ := ev_ic_some (v := v) g
  have g3 : k (pc + 1) (ev_set L i (.int x)) S' w n = some r := g2
  rw [ev_set_eq] at g3
  exact ⟨_, _, _, g3, fun H locs ls hH hl hS kk => lv_istore_n X.1 X.2.1 hd hj hl hn rfl fun ls' h' => kk ls' (ev_l_put (u := .int x) h')⟩
theorem ok_ist (X : ev_X cc nL own rt p s m args meth c D G ad A z) (hP : ev_PP p l e R s m args below meth c Q nL D G ad A z wE nE P) (hd : decode cc pc = .ok (.istore i, 2)) (hn : i < nL) (hq : pc + 2 = q) : ev_ok P r pc (ev_ist q i) := by
  subst hq
  refine ok_of X hP fun k L S w n h => ?_
  obtain ⟨v, S', rfl, g⟩ := ev_lc_some h
  obtain ⟨x, rfl, g2⟩ := ev_ic_some (v := v) g
  have g3 : k (pc + 2) (ev_set L i (.int x)) S' w n = some r := g2
  rw [ev_set_eq] at g3
  exact ⟨_, _, _, g3, fun H locs ls hH hl hS kk => lv_istore X.1 X.2.1 hd hl hn rfl fun ls' h' => kk ls' (ev_l_put (u := .int x) h')⟩
theorem ok_ast_n (X : ev_X cc nL own rt p s m args meth c D G ad A z) (hP : ev_PP p l e R s m args below meth c Q nL D G ad A z wE nE P) {j : Fin 4} (hd : decode cc pc = .ok (.astore_n j, 1)) (hj : (j : Nat) = i) (hn : i < nL) (hq : pc + 1 = q) : ev_ok P r pc (ev_ast q i) := by
  subst hq
  refine ok_of X hP fun k L S w n h => ?_
  obtain ⟨v, S', rfl, h⟩ := ev_lc_some h
  obtain ⟨hv, h⟩ := ev_pc_some h
  rw [ev_set_eq] at h
  refine ⟨_, _, _, h, fun H locs ls hH hl hS kk => ?_⟩
  rcases hv with rfl | ⟨x, rfl⟩
  · exact lv_astore_nN X.1 X.2.1 hd hj hl hn rfl fun ls' h' => kk ls' (ev_l_put (u := .null) h')
  · exact lv_astore_n X.1 X.2.1 hd hj hl hn rfl fun ls' h' => kk ls' (ev_l_put (u := .ref x) h')
theorem ok_ast (X : ev_X cc nL own rt p s m args meth c D G ad A z) (hP : ev_PP p l e R s m args below meth c Q nL D G ad A z wE nE P) (hd : decode cc pc = .ok (.astore i, 2)) (hn : i < nL) (hq : pc + 2 = q) : ev_ok P r pc (ev_ast q i) := by
  subst hq
  refine ok_of X hP fun k L S w n h => ?_
  obtain ⟨v, S', rfl, h⟩ := ev_lc_some h
  obtain ⟨hv, h⟩ := ev_pc_some h
  rw [ev_set_eq] at h
  refine ⟨_, _, _, h, fun H locs ls hH hl hS kk => ?_⟩
  rcases hv with rfl | ⟨x, rfl⟩
  · exact lv_astoreN X.1 X.2.1 hd hl hn rfl fun ls' h' => kk ls' (ev_l_put (u := .null) h')
  · exact lv_astore X.1 X.2.1 hd hl hn rfl fun ls' h' => kk ls' (ev_l_put (u := .ref x) h')
theorem ok_inc (X : ev_X cc nL own rt p s m args meth c D G ad A z) (hP : ev_PP p l e R s m args below meth c Q nL D G ad A z wE nE P) {c' : Int} (hd : decode cc pc = .ok (.iinc i c', 3)) (hn : i < nL) (hq : pc + 3 = q) : ev_ok P r pc (ev_inc q i (Int32.ofInt c')) := by
  subst hq
  refine ok_of X hP fun k L S w n h => ?_
  obtain ⟨v, h1, g⟩ := ev_oc_some h
  obtain ⟨x, rfl, g2⟩ := ev_ic_some (v := v) g
  have g3 : k (pc + 3) (ev_set L i (.int (x + Int32.ofInt c'))) S w n = some r := g2
  rw [ev_set_eq] at g3
  rw [ev_at_eq] at h1
  refine ⟨_, _, _, g3, fun H locs ls hH hl hS kk => ?_⟩
  obtain ⟨j, hj⟩ := List.getElem?_of_mem (ev_l_mem.mpr ⟨.int x, h1, rfl, rfl⟩ : (i, ev_v ad (.int x)) ∈ ev_l ad L)
  exact lv_iinc X.1 X.2.1 hd hl (k := j) hj rfl hn rfl fun ls' h' => kk ls' (ev_l_put (u := .int (x + Int32.ofInt c')) h')
theorem ok_dup (X : ev_X cc nL own rt p s m args meth c D G ad A z) (hP : ev_PP p l e R s m args below meth c Q nL D G ad A z wE nE P) (hd : decode cc pc = .ok (.dup, 1)) (hq : pc + 1 = q) : ev_ok P r pc (ev_dup q) := by
  subst hq
  refine ok_of X hP fun k L S w n h => ?_
  obtain ⟨v, S', rfl, h⟩ := ev_lc_some h
  obtain ⟨hv, h⟩ := ev_c1_some h
  exact ⟨_, _, _, h, fun H locs ls hH hl hS kk => lv_dup X.1 X.2.1 hd (ev_v_cat.trans hv) (kk ls hl)⟩
theorem ok_dx1 (X : ev_X cc nL own rt p s m args meth c D G ad A z) (hP : ev_PP p l e R s m args below meth c Q nL D G ad A z wE nE P) (hd : decode cc pc = .ok (.dup_x1, 1)) (hq : pc + 1 = q) : ev_ok P r pc (ev_dx1 q) := by
  subst hq
  refine ok_of X hP fun k L S w n h => ?_
  obtain ⟨v, S1, rfl, h⟩ := ev_lc_some h
  obtain ⟨u, S', rfl, h⟩ := ev_lc_some (l := S1) h
  obtain ⟨hv, h⟩ := ev_c1_some h
  obtain ⟨hu, h⟩ := ev_c1_some h
  exact ⟨_, _, _, h, fun H locs ls hH hl hS kk => lv_dup_x1 X.1 X.2.1 hd (ev_v_cat.trans hv) (ev_v_cat.trans hu) (kk ls hl)⟩
theorem ok_drop (X : ev_X cc nL own rt p s m args meth c D G ad A z) (hP : ev_PP p l e R s m args below meth c Q nL D G ad A z wE nE P) (hd : decode cc pc = .ok (.pop, 1)) (hq : pc + 1 = q) : ev_ok P r pc (ev_drop q) := by
  subst hq
  refine ok_of X hP fun k L S w n h => ?_
  obtain ⟨v, S', rfl, h⟩ := ev_lc_some h
  obtain ⟨hv, h⟩ := ev_c1_some h
  exact ⟨_, _, _, h, fun H locs ls hH hl hS kk => lv_pop X.1 X.2.1 hd (ev_v_cat.trans hv) (kk ls hl)⟩
/-- two numbers off the stack -/
theorem ok_bin (X : ev_X cc nL own rt p s m args meth c D G ad A z) (hP : ev_PP p l e R s m args below meth c Q nL D G ad A z wE nE P) {f : Int32 → Int32 → Int32} (hr : ∀ (H : Heap) (locs : List Loc) (ls : Array Slot) (cells slots : Nat) (rest : List Value) (x y : Int32), W p l e R s m args below meth c H locs cells slots Q (F0 m (pc + 1) ls (.int (f x y) :: rest)) → W p l e R s m args below meth c H locs cells slots Q (F0 m pc ls (.int y :: .int x :: rest))) (hq : pc + 1 = q) : ev_ok P r pc (ev_bin q f) := by
  subst hq
  refine ok_of X hP fun k L S w n h => ?_
  obtain ⟨v, S1, rfl, h⟩ := ev_lc_some h
  obtain ⟨u, S', rfl, h⟩ := ev_lc_some (l := S1) h
  obtain ⟨y, rfl, h⟩ := ev_ic_some h
  obtain ⟨x, rfl, h⟩ := ev_ic_some h
  exact ⟨_, _, _, h, fun H locs ls hH hl hS kk => hr H locs ls _ _ _ x y (kk ls hl)⟩
theorem ok_iadd (X : ev_X cc nL own rt p s m args meth c D G ad A z) (hP : ev_PP p l e R s m args below meth c Q nL D G ad A z wE nE P) (hd : decode cc pc = .ok (.iadd, 1)) (hq : pc + 1 = q) : ev_ok P r pc (ev_bin q (fun x y => x + y)) := ok_bin X hP (fun _ _ _ _ _ _ _ _ kk => lv_iadd X.1 X.2.1 hd kk) hq
theorem ok_isub (X : ev_X cc nL own rt p s m args meth c D G ad A z) (hP : ev_PP p l e R s m args below meth c Q nL D G ad A z wE nE P) (hd : decode cc pc = .ok (.isub, 1)) (hq : pc + 1 = q) : ev_ok P r pc (ev_bin q (fun x y => x - y)) := ok_bin X hP (fun _ _ _ _ _ _ _ _ kk => lv_isub X.1 X.2.1 hd kk) hq
theorem ok_imul (X : ev_X cc nL own rt p s m args meth c D G ad A z) (hP : ev_PP p l e R s m args below meth c Q nL D G ad A z wE nE P) (hd : decode cc pc = .ok (.imul, 1)) (hq : pc + 1 = q) : ev_ok P r pc (ev_bin q (fun x y => x * y)) := ok_bin X hP (fun _ _ _ _ _ _ _ _ kk => lv_imul X.1 X.2.1 hd kk) hq
theorem ok_iand (X : ev_X cc nL own rt p s m args meth c D G ad A z) (hP : ev_PP p l e R s m args below meth c Q nL D G ad A z wE nE P) (hd : decode cc pc = .ok (.iand, 1)) (hq : pc + 1 = q) : ev_ok P r pc (ev_bin q (fun x y => x &&& y)) := ok_bin X hP (fun _ _ _ _ _ _ _ _ kk => lv_iand X.1 X.2.1 hd kk) hq
theorem ok_ior (X : ev_X cc nL own rt p s m args meth c D G ad A z) (hP : ev_PP p l e R s m args below meth c Q nL D G ad A z wE nE P) (hd : decode cc pc = .ok (.ior, 1)) (hq : pc + 1 = q) : ev_ok P r pc (ev_bin q (fun x y => x ||| y)) := ok_bin X hP (fun _ _ _ _ _ _ _ _ kk => lv_ior X.1 X.2.1 hd kk) hq
theorem ok_ishl (X : ev_X cc nL own rt p s m args meth c D G ad A z) (hP : ev_PP p l e R s m args below meth c Q nL D G ad A z wE nE P) (hd : decode cc pc = .ok (.ishl, 1)) (hq : pc + 1 = q) : ev_ok P r pc (ev_bin q (fun x y => x <<< (y &&& 31))) := ok_bin X hP (fun _ _ _ _ _ _ _ _ kk => lv_ishl X.1 X.2.1 hd kk) hq
theorem ok_ishr (X : ev_X cc nL own rt p s m args meth c D G ad A z) (hP : ev_PP p l e R s m args below meth c Q nL D G ad A z wE nE P) (hd : decode cc pc = .ok (.ishr, 1)) (hq : pc + 1 = q) : ev_ok P r pc (ev_bin q (fun x y => x >>> (y &&& 31))) := ok_bin X hP (fun _ _ _ _ _ _ _ _ kk => lv_ishr X.1 X.2.1 hd kk) hq
theorem ok_div (X : ev_X cc nL own rt p s m args meth c D G ad A z) (hP : ev_PP p l e R s m args below meth c Q nL D G ad A z wE nE P) {f : Int32 → Int32 → Int32} (hr : ∀ (H : Heap) (locs : List Loc) (ls : Array Slot) (cells slots : Nat) (rest : List Value) (x y : Int32), ¬ y = 0 → W p l e R s m args below meth c H locs cells slots Q (F0 m (pc + 1) ls (.int (f x y) :: rest)) → W p l e R s m args below meth c H locs cells slots Q (F0 m pc ls (.int y :: .int x :: rest))) (hq : pc + 1 = q) : ev_ok P r pc (ev_div q f) := by
  subst hq
  refine ok_of X hP fun k L S w n h => ?_
  obtain ⟨v, S1, rfl, h⟩ := ev_lc_some h
  obtain ⟨u, S', rfl, h⟩ := ev_lc_some (l := S1) h
  obtain ⟨y, rfl, h⟩ := ev_ic_some h
  obtain ⟨x, rfl, h⟩ := ev_ic_some h
  rcases ev_bc_some h with ⟨-, h⟩ | ⟨hy, h⟩
  · cases h
  · exact ⟨_, _, _, h, fun H locs ls hH hl hS kk => hr H locs ls _ _ _ x y (fun e => by rw [ev_zero_iff.mpr e] at hy; cases hy) (kk ls hl)⟩
theorem ok_idiv (X : ev_X cc nL own rt p s m args meth c D G ad A z) (hP : ev_PP p l e R s m args below meth c Q nL D G ad A z wE nE P) (hd : decode cc pc = .ok (.idiv, 1)) (hq : pc + 1 = q) : ev_ok P r pc (ev_div q (fun x y => x / y)) := ok_div X hP (fun _ _ _ _ _ _ _ _ hy kk => lv_idiv X.1 X.2.1 hd hy kk) hq
theorem ok_irem (X : ev_X cc nL own rt p s m args meth c D G ad A z) (hP : ev_PP p l e R s m args below meth c Q nL D G ad A z wE nE P) (hd : decode cc pc = .ok (.irem, 1)) (hq : pc + 1 = q) : ev_ok P r pc (ev_div q (fun x y => x - x / y * y)) := ok_div X hP (fun _ _ _ _ _ _ _ _ hy kk => lv_irem X.1 X.2.1 hd hy kk) hq
/-- a branch on two numbers -/
theorem ok_cmp (X : ev_X cc nL own rt p s m args meth c D G ad A z) (hP : ev_PP p l e R s m args below meth c Q nL D G ad A z wE nE P) {t : Nat} {f : Int32 → Int32 → Bool} {g : Int32 → Int32 → Prop} (hf : ∀ x y, f x y = true ↔ g x y) (hr : ∀ (H : Heap) (locs : List Loc) (ls : Array Slot) (cells slots : Nat) (rest : List Value) (x y : Int32), (g x y → W p l e R s m args below meth c H locs cells slots Q (F0 m t ls rest)) → (¬ g x y → W p l e R s m args below meth c H locs cells slots Q (F0 m (pc + 3) ls rest)) → W p l e R s m args below meth c H locs cells slots Q (F0 m pc ls (.int y :: .int x :: rest))) (hq : pc + 3 = q) : ev_ok P r pc (ev_cmp q t f) := by
  subst hq
  refine ok_of X hP fun k L S w n h => ?_
  obtain ⟨v, S1, rfl, h⟩ := ev_lc_some h
  obtain ⟨u, S', rfl, h⟩ := ev_lc_some (l := S1) h
  obtain ⟨y, rfl, h⟩ := ev_ic_some h
  obtain ⟨x, rfl, h⟩ := ev_ic_some h
  rcases ev_bc_some h with ⟨hb, h⟩ | ⟨hb, h⟩
  · exact ⟨_, _, _, h, fun H locs ls hH hl hS kk => hr H locs ls _ _ _ x y (fun _ => kk ls hl) (fun q => absurd ((hf x y).mp hb) q)⟩
  · exact ⟨_, _, _, h, fun H locs ls hH hl hS kk => hr H locs ls _ _ _ x y (fun q => by rw [(hf x y).mpr q] at hb; cases hb) (fun _ => kk ls hl)⟩
theorem ok_icmp_eq (X : ev_X cc nL own rt p s m args meth c D G ad A z) (hP : ev_PP p l e R s m args below meth c Q nL D G ad A z wE nE P) {t : Nat} {off : Int} (hd : decode cc pc = .ok (.if_icmp .eq off, 3)) (ht : (pc : Int) + off = (t : Int)) (hq : pc + 3 = q) : ev_ok P r pc (ev_cmp q t (fun x y => Nat.beq (ev_bits x) (ev_bits y))) := ok_cmp X hP (g := fun x y => x = y) (fun _ _ => ev_eq_iff) (fun _ _ _ _ _ _ _ _ k1 k2 => lv_icmp_eq X.1 X.2.1 hd ht k1 k2) hq
theorem ok_icmp_ne (X : ev_X cc nL own rt p s m args meth c D G ad A z) (hP : ev_PP p l e R s m args below meth c Q nL D G ad A z wE nE P) {t : Nat} {off : Int} (hd : decode cc pc = .ok (.if_icmp .ne off, 3)) (ht : (pc : Int) + off = (t : Int)) (hq : pc + 3 = q) : ev_ok P r pc (ev_cmp q t (fun x y => !Nat.beq (ev_bits x) (ev_bits y))) := ok_cmp X hP (g := fun x y => ¬ x = y) (fun x y => by rw [← ev_eq_iff]; cases Nat.beq (ev_bits x) (ev_bits y) <;> simp) (fun _ _ _ _ _ _ _ _ k1 k2 => lv_icmp_ne X.1 X.2.1 hd ht k1 (fun e => k2 (fun q => q e))) hq
theorem ok_icmp_lt (X : ev_X cc nL own rt p s m args meth c D G ad A z) (hP : ev_PP p l e R s m args below meth c Q nL D G ad A z wE nE P) {t : Nat} {off : Int} (hd : decode cc pc = .ok (.if_icmp .lt off, 3)) (ht : (pc : Int) + off = (t : Int)) (hq : pc + 3 = q) : ev_ok P r pc (ev_cmp q t (fun x y => Nat.blt (ev_sg x) (ev_sg y))) := ok_cmp X hP (g := fun x y => x < y) (fun _ _ => ev_lt_iff) (fun _ _ _ _ _ _ _ _ k1 k2 => lv_icmp_lt X.1 X.2.1 hd ht k1 k2) hq
theorem ok_icmp_ge (X : ev_X cc nL own rt p s m args meth c D G ad A z) (hP : ev_PP p l e R s m args below meth c Q nL D G ad A z wE nE P) {t : Nat} {off : Int} (hd : decode cc pc = .ok (.if_icmp .ge off, 3)) (ht : (pc : Int) + off = (t : Int)) (hq : pc + 3 = q) : ev_ok P r pc (ev_cmp q t (fun x y => Nat.ble (ev_sg y) (ev_sg x))) := ok_cmp X hP (g := fun x y => y ≤ x) (fun _ _ => ev_le_iff) (fun _ _ _ _ _ _ _ _ k1 k2 => lv_icmp_ge X.1 X.2.1 hd ht k1 k2) hq
theorem ok_icmp_gt (X : ev_X cc nL own rt p s m args meth c D G ad A z) (hP : ev_PP p l e R s m args below meth c Q nL D G ad A z wE nE P) {t : Nat} {off : Int} (hd : decode cc pc = .ok (.if_icmp .gt off, 3)) (ht : (pc : Int) + off = (t : Int)) (hq : pc + 3 = q) : ev_ok P r pc (ev_cmp q t (fun x y => Nat.blt (ev_sg y) (ev_sg x))) := ok_cmp X hP (g := fun x y => y < x) (fun _ _ => ev_lt_iff) (fun _ _ _ _ _ _ _ _ k1 k2 => lv_icmp_gt X.1 X.2.1 hd ht k1 k2) hq
theorem ok_icmp_le (X : ev_X cc nL own rt p s m args meth c D G ad A z) (hP : ev_PP p l e R s m args below meth c Q nL D G ad A z wE nE P) {t : Nat} {off : Int} (hd : decode cc pc = .ok (.if_icmp .le off, 3)) (ht : (pc : Int) + off = (t : Int)) (hq : pc + 3 = q) : ev_ok P r pc (ev_cmp q t (fun x y => Nat.ble (ev_sg x) (ev_sg y))) := ok_cmp X hP (g := fun x y => x ≤ y) (fun _ _ => ev_le_iff) (fun _ _ _ _ _ _ _ _ k1 k2 => lv_icmp_le X.1 X.2.1 hd ht k1 k2) hq
theorem ok_cm0 (X : ev_X cc nL own rt p s m args meth c D G ad A z) (hP : ev_PP p l e R s m args below meth c Q nL D G ad A z wE nE P) {t : Nat} {f : Int32 → Bool} {g : Int32 → Prop} (hf : ∀ x, f x = true ↔ g x) (hr : ∀ (H : Heap) (locs : List Loc) (ls : Array Slot) (cells slots : Nat) (rest : List Value) (x : Int32), (g x → W p l e R s m args below meth c H locs cells slots Q (F0 m t ls rest)) → (¬ g x → W p l e R s m args below meth c H locs cells slots Q (F0 m (pc + 3) ls rest)) → W p l e R s m args below meth c H locs cells slots Q (F0 m pc ls (.int x :: rest))) (hq : pc + 3 = q) : ev_ok P r pc (ev_cm0 q t f) := by
  subst hq
  refine ok_of X hP fun k L S w n h => ?_
  obtain ⟨v, S', rfl, h⟩ := ev_lc_some h
  obtain ⟨x, rfl, h⟩ := ev_ic_some h
  rcases ev_bc_some h with ⟨hb, h⟩ | ⟨hb, h⟩
  · exact ⟨_, _, _, h, fun H locs ls hH hl hS kk => hr H locs ls _ _ _ x (fun _ => kk ls hl) (fun q => absurd ((hf x).mp hb) q)⟩
  · exact ⟨_, _, _, h, fun H locs ls hH hl hS kk => hr H locs ls _ _ _ x (fun q => by rw [(hf x).mpr q] at hb; cases hb) (fun _ => kk ls hl)⟩
theorem ok_if_eq (X : ev_X cc nL own rt p s m args meth c D G ad A z) (hP : ev_PP p l e R s m args below meth c Q nL D G ad A z wE nE P) {t : Nat} {off : Int} (hd : decode cc pc = .ok (.ifCond .eq off, 3)) (ht : (pc : Int) + off = (t : Int)) (hq : pc + 3 = q) : ev_ok P r pc (ev_cm0 q t (fun x => Nat.beq (ev_bits x) (ev_bits 0))) := ok_cm0 X hP (g := fun x => x = 0) (fun _ => ev_eq_iff) (fun _ _ _ _ _ _ _ k1 k2 => lv_if_eq X.1 X.2.1 hd ht k1 k2) hq
theorem ok_if_ne (X : ev_X cc nL own rt p s m args meth c D G ad A z) (hP : ev_PP p l e R s m args below meth c Q nL D G ad A z wE nE P) {t : Nat} {off : Int} (hd : decode cc pc = .ok (.ifCond .ne off, 3)) (ht : (pc : Int) + off = (t : Int)) (hq : pc + 3 = q) : ev_ok P r pc (ev_cm0 q t (fun x => !Nat.beq (ev_bits x) (ev_bits 0))) := ok_cm0 X hP (g := fun x => ¬ x = 0) (fun x => by rw [← ev_eq_iff]; cases Nat.beq (ev_bits x) (ev_bits 0) <;> simp) (fun _ _ _ _ _ _ _ k1 k2 => lv_if_ne X.1 X.2.1 hd ht k1 (fun e => k2 (fun q => q e))) hq
theorem ok_if_lt (X : ev_X cc nL own rt p s m args meth c D G ad A z) (hP : ev_PP p l e R s m args below meth c Q nL D G ad A z wE nE P) {t : Nat} {off : Int} (hd : decode cc pc = .ok (.ifCond .lt off, 3)) (ht : (pc : Int) + off = (t : Int)) (hq : pc + 3 = q) : ev_ok P r pc (ev_cm0 q t (fun x => Nat.blt (ev_sg x) (ev_sg 0))) := ok_cm0 X hP (g := fun x => x < 0) (fun _ => ev_lt_iff) (fun _ _ _ _ _ _ _ k1 k2 => lv_if_lt X.1 X.2.1 hd ht k1 k2) hq
theorem ok_if_ge (X : ev_X cc nL own rt p s m args meth c D G ad A z) (hP : ev_PP p l e R s m args below meth c Q nL D G ad A z wE nE P) {t : Nat} {off : Int} (hd : decode cc pc = .ok (.ifCond .ge off, 3)) (ht : (pc : Int) + off = (t : Int)) (hq : pc + 3 = q) : ev_ok P r pc (ev_cm0 q t (fun x => Nat.ble (ev_sg 0) (ev_sg x))) := ok_cm0 X hP (g := fun x => 0 ≤ x) (fun _ => ev_le_iff) (fun _ _ _ _ _ _ _ k1 k2 => lv_if_ge X.1 X.2.1 hd ht k1 k2) hq
theorem ok_if_gt (X : ev_X cc nL own rt p s m args meth c D G ad A z) (hP : ev_PP p l e R s m args below meth c Q nL D G ad A z wE nE P) {t : Nat} {off : Int} (hd : decode cc pc = .ok (.ifCond .gt off, 3)) (ht : (pc : Int) + off = (t : Int)) (hq : pc + 3 = q) : ev_ok P r pc (ev_cm0 q t (fun x => Nat.blt (ev_sg 0) (ev_sg x))) := ok_cm0 X hP (g := fun x => 0 < x) (fun _ => ev_lt_iff) (fun _ _ _ _ _ _ _ k1 k2 => lv_if_gt X.1 X.2.1 hd ht k1 k2) hq
theorem ok_if_le (X : ev_X cc nL own rt p s m args meth c D G ad A z) (hP : ev_PP p l e R s m args below meth c Q nL D G ad A z wE nE P) {t : Nat} {off : Int} (hd : decode cc pc = .ok (.ifCond .le off, 3)) (ht : (pc : Int) + off = (t : Int)) (hq : pc + 3 = q) : ev_ok P r pc (ev_cm0 q t (fun x => Nat.ble (ev_sg x) (ev_sg 0))) := ok_cm0 X hP (g := fun x => x ≤ 0) (fun _ => ev_le_iff) (fun _ _ _ _ _ _ _ k1 k2 => lv_if_le X.1 X.2.1 hd ht k1 k2) hq
theorem ok_jmp (X : ev_X cc nL own rt p s m args meth c D G ad A z) (hP : ev_PP p l e R s m args below meth c Q nL D G ad A z wE nE P) {t : Nat} {off : Int} (hd : decode cc pc = .ok (.goto off, 3)) (ht : (pc : Int) + off = (t : Int)) : ev_ok P r pc (ev_jmp t) := by
  refine ok_of X hP fun k L S w n h => ?_
  exact ⟨_, _, _, h, fun H locs ls hH hl hS kk => lv_goto X.1 X.2.1 hd ht (kk ls hl)⟩
theorem ok_i2l (X : ev_X cc nL own rt p s m args meth c D G ad A z) (hP : ev_PP p l e R s m args below meth c Q nL D G ad A z wE nE P) (hd : decode cc pc = .ok (.i2l, 1)) (hq : pc + 1 = q) : ev_ok P r pc (ev_i2l q) := by
  subst hq
  refine ok_of X hP fun k L S w n h => ?_
  obtain ⟨v, S', rfl, h⟩ := ev_lc_some h
  obtain ⟨x, rfl, h⟩ := ev_ic_some h
  exact ⟨_, _, _, h, fun H locs ls hH hl hS kk => lv_i2l X.1 X.2.1 hd rfl (kk ls hl)⟩
theorem ok_lcm (X : ev_X cc nL own rt p s m args meth c D G ad A z) (hP : ev_PP p l e R s m args below meth c Q nL D G ad A z wE nE P) (hd : decode cc pc = .ok (.lcmp, 1)) (hq : pc + 1 = q) : ev_ok P r pc (ev_lcm q) := by
  subst hq
  refine ok_of X hP fun k L S w n h => ?_
  obtain ⟨v, S1, rfl, h⟩ := ev_lc_some h
  obtain ⟨u, S', rfl, h⟩ := ev_lc_some (l := S1) h
  obtain ⟨y, rfl, h⟩ := ev_jc_some h
  obtain ⟨x, rfl, h⟩ := ev_jc_some h
  exact ⟨_, _, _, h, fun H locs ls hH hl hS kk => W.lcmp X.1 X.2.1 hd (kk ls hl)⟩
theorem ok_gst (X : ev_X cc nL own rt p s m args meth c D G ad A z) (hP : ev_PP p l e R s m args below meth c Q nL D G ad A z wE nE P) (hd : decode cc pc = .ok (.getstatic idx, 3)) (hl : Cond.fieldLink own idx "java/util/ArrayList" "DEFAULTCAPACITY_EMPTY_ELEMENTDATA" "[Ljava/lang/Object;" ∈ ev_gd) (hq : pc + 3 = q) : ev_ok P r pc (ev_gst q 1) := by
  subst hq
  refine ok_of X hP fun k L S w n h => ?_
  obtain ⟨hx, hb, hml, hown, hts, hK, hAO, hNW, hZ, -⟩ := X
  exact ⟨_, _, _, h, fun H locs ls hH hl' hS kk => va_gets hx hb hZ hS hown (hts _ hl) (fun x h => h) hd (kk ls hl')⟩
theorem ok_tsw (X : ev_X cc nL own rt p s m args meth c D G ad A z) (hP : ev_PP p l e R s m args below meth c Q nL D G ad A z wE nE P) {ts : List Nat} {dflt hi : Int} {offs : Array Int} {len : Nat} (hd : decode cc pc = .ok (.tableswitch dflt 0 hi offs, len)) (hh : hi + 1 = (ts.length : Int)) (ho : (List.range ts.length).all (fun j => match offs[j]?, ts[j]? with | some off, some t => decide ((pc : Int) + off = (t : Int)) | _, _ => false) = true) : ev_ok P r pc (ev_tsw ts) := by
  refine ok_of X hP fun k L S w n h => ?_
  obtain ⟨v, S', rfl, h⟩ := ev_lc_some h
  obtain ⟨x, rfl, h⟩ := ev_ic_some h
  obtain ⟨hb, h⟩ := ev_bc_t h
  obtain ⟨t, h1, h⟩ := ev_oc_some h
  rw [Nat.blt_eq] at hb
  rw [ev_at_eq] at h1
  have e : x.toInt = (ev_bits x : Int) := by rw [ev_bits_toInt, if_pos (by omega)]
  have hlt := (List.getElem?_eq_some_iff.mp h1).1
  have ho1 := List.all_eq_true.mp ho (ev_bits x) (List.mem_range.mpr hlt)
  rw [h1] at ho1
  cases o1 : offs[ev_bits x]? with
  | none => rw [o1] at ho1; cases ho1
  | some off =>
    rw [o1] at ho1
    have o3 : (pc : Int) + off = (t : Int) := of_decide_eq_true ho1
    refine ⟨_, _, _, h, fun H locs ls hH hl hS kk => lv_tableIn X.1 X.2.1 hd (by rw [e]; omega) (by rw [e]; omega) (off := off) ?_ o3 (kk ls hl)⟩
    rw [e]
    simpa using o1
end OPS
end
section
/-! operations on the world's cells -/
theorem ev_H_set {D : va_G} {G : Nat → ClassId} {ad : Nat → Nat} {A : Nat → Prop} {w : ev_W} {H H1 : Heap} {a : Nat} {c0 c1 : ev_Q} (hH : ev_H D G ad A w H) (h0 : w[a]? = some c0) (he : va_at D vwCl (ad a, ev_e G ad c1) H1) (z : H1.size = H.size) (oq : ∀ q : Nat, q ≠ ad a → H1[q]? = H[q]?) (hc : c1.2.1 = c1.2.2.length ∧ c1.2.1 ≤ 100000) : ev_H D G ad A (w.set a c1) H1 := by
  obtain ⟨hP, hD, hw, hz⟩ := hH
  have h1 := ev_w_at (G := G) (ad := ad) h0
  refine ⟨?_, ?_, ev_wf_set hw hc, by rw [z, hz, List.length_set]⟩
  · rw [ev_w_set]; exact hP.set hD h1 he oq
  · rw [ev_w_set]; exact hD.set h1
theorem ev_H_push {D : va_G} {G : Nat → ClassId} {ad : Nat → Nat} {A : Nat → Prop} {w : ev_W} {H H1 : Heap} {c1 : ev_Q} (hH : ev_H D G ad A w H) (he : va_at D vwCl (ad w.length, ev_e G ad c1) H1) (z : H1.size = H.size + 1) (oq : ∀ q : Nat, q < H.size → H1[q]? = H[q]?) (hA : A (ad w.length)) (had : ad (w.length + 1) = ad w.length + 1) (hc : c1.2.1 = c1.2.2.length ∧ c1.2.1 ≤ 100000) : ev_H D G ad A (w ++ [c1]) H1 := by
  obtain ⟨hP, hD, hw, hz⟩ := hH
  refine ⟨?_, ?_, ev_wf_push hw hc, by rw [z, hz, List.length_append, List.length_singleton, had]⟩
  · rw [ev_w_push]
    refine (hP.kept (fun k q hk => oq q.1 (hP k q hk).lt)).app (fun k q hk => ?_)
    have hl := (List.getElem?_eq_some_iff.mp hk).1
    rw [List.length_singleton] at hl
    have h0 : k = 0 := by omega
    subst h0
    cases hk
    exact he
  · rw [ev_w_push]
    exact hD.push hP hz.symm hA
theorem ev_obj_at {G : Nat → ClassId} {ad : Nat → Nat} {w : ev_W} {a ci : Nat} {c : ev_Q} (h : w[a]? = some c) (ht : Nat.beq c.1 (ci + 3) = true) : (ev_w G ad w)[a]? = some (ad a, .inr (ci, c.2.2.map (ev_v ad))) := by
  obtain ⟨t, N, vs⟩ := c
  have e : t = ci + 3 := Nat.eq_of_beq_eq_true ht
  subst e
  exact ev_w_at h
theorem ev_arr_at {G : Nat → ClassId} {ad : Nat → Nat} {w : ev_W} {a : Nat} {c : ev_Q} (h : w[a]? = some c) (t : Nat) (ht : c.1 = t) : (ev_w G ad w)[a]? = some (ad a, ev_e G ad (t, c.2)) := by
  subst ht
  exact ev_w_at h
/-- which types a field's kind stands for -/
def ev_tk (ty : FieldType) (q : Nat) : Bool := match q, ty with
  | 0, .int => true
  | 1, .object _ => true
  | 1, .array _ => true
  | 2, .boolean => true
  | 3, .long => true
  | _, _ => false
theorem ev_fit_some {α : Type} {q : Nat} {v : Value} {y : Option α} {r : α} {ty : FieldType} {ad : Nat → Nat} (hty : ev_tk ty q = true) (h : ev_fit q v y = some r) : y = some r ∧ narrow ty (ev_v ad v) = ev_v ad v ∧ fits ty (ev_v ad v) = true := by
  match q, hty, h with
  | 0, hty, h =>
    obtain ⟨x, rfl, h1⟩ := ev_ic_some (v := v) h
    cases ty <;> simp [ev_tk] at hty
    exact ⟨h1, rfl, rfl⟩
  | 1, hty, h =>
    obtain ⟨hv, h1⟩ := ev_pc_some (v := v) h
    rcases hv with rfl | ⟨x, rfl⟩ <;> cases ty <;> simp [ev_tk] at hty <;> exact ⟨h1, rfl, rfl⟩
  | 2, hty, h =>
    obtain ⟨x, rfl, h1⟩ := ev_ic_some (v := v) h
    obtain ⟨hb, h2⟩ := ev_bc_t h1
    cases ty <;> simp [ev_tk] at hty
    rcases ev_bool (by rw [← Nat.blt_eq]; exact hb) with rfl | rfl
    · exact ⟨h2, rfl, rfl⟩
    · exact ⟨h2, rfl, rfl⟩
  | 3, hty, h =>
    obtain ⟨x, rfl, h1⟩ := ev_jc_some (v := v) h
    cases ty <;> simp [ev_tk] at hty
    exact ⟨h1, rfl, rfl⟩
  | q + 4, hty, h => cases ty <;> simp [ev_tk] at hty
section HOPS
variable {p : Program} {l : Launch} {e : Env} {R : Room} {s : State} {m : MethodId} {args : Array Value} {below : List Frame} {meth : Method} {c : Code} {Q : State → Prop}
variable {cc : ByteArray} {nL : Nat} {own : String} {rt : Option FieldType} {D : va_G} {G : Nat → ClassId} {ad : Nat → Nat} {A : Nat → Prop} {z wE nE : Nat} {α : Type} {r : α} {P : Nat → List Value → List Value → ev_W → Nat → Prop} {pc q i idx : Nat}
/-- an operation that sets a cell -/
theorem ok_upd (hP : ev_PP p l e R s m args below meth c Q nL D G ad A z wE nE P) {o : ev_O α} (h : ∀ (k : ev_G α) (L S : List Value) (w : ev_W) (n : Nat), o k L S w n = some r → ∃ pc' S' a c1, k pc' L S' (w.set a c1) n = some r ∧ ∀ (H : Heap) (locs : List Loc) (ls : Array Slot), ev_H D G ad A w H → lv_has ls nL (ev_l ad L) → va_S A s.heap H locs → (∀ H1 locs1, ev_H D G ad A (w.set a c1) H1 → va_S A s.heap H1 locs1 → W p l e R s m args below meth c H1 locs1 (w.length - z) n Q (F0 m pc' ls (S'.map (ev_v ad)))) → W p l e R s m args below meth c H locs (w.length - z) n Q (F0 m pc ls (S.map (ev_v ad)))) : ev_ok P r pc o := by
  intro k L S w n hk ho
  obtain ⟨pc', S', a, c1, h1, h2⟩ := h k L S w n ho
  rw [hP]
  intro hz
  obtain ⟨hm, h3⟩ := (hP _ _ _ _ _).mp (hk _ _ _ _ _ h1) (by rw [List.length_set]; exact hz)
  rw [List.length_set] at hm h3
  exact ⟨hm, fun H locs ls hH hl hS => h2 H locs ls hH hl hS fun H1 locs1 hH1 hS1 => h3 H1 locs1 ls hH1 hl hS1⟩
/-- an operation that makes a cell of N slots -/
theorem ok_push (hP : ev_PP p l e R s m args below meth c Q nL D G ad A z wE nE P) (hR : wE - z ≤ R.cells ∧ nE ≤ R.slots) {o : ev_O α} (h : ∀ (k : ev_G α) (L S : List Value) (w : ev_W) (n : Nat), o k L S w n = some r → ∃ pc' S' c1 N, k pc' L S' (w ++ [c1]) (n + N) = some r ∧ ∀ (H : Heap) (locs : List Loc) (ls : Array Slot), z ≤ w.length → w.length - z + 1 ≤ R.cells → n + N ≤ R.slots → ev_H D G ad A w H → lv_has ls nL (ev_l ad L) → va_S A s.heap H locs → (∀ H1 locs1, ev_H D G ad A (w ++ [c1]) H1 → va_S A s.heap H1 locs1 → W p l e R s m args below meth c H1 locs1 (w.length - z + 1) (n + N) Q (F0 m pc' ls (S'.map (ev_v ad)))) → W p l e R s m args below meth c H locs (w.length - z) n Q (F0 m pc ls (S.map (ev_v ad)))) : ev_ok P r pc o := by
  intro k L S w n hk ho
  obtain ⟨pc', S', c1, N, h1, h2⟩ := h k L S w n ho
  rw [hP]
  intro hz
  obtain ⟨hm, h3⟩ := (hP _ _ _ _ _).mp (hk _ _ _ _ _ h1) (by rw [List.length_append]; omega)
  rw [List.length_append, List.length_singleton] at hm h3
  have e : w.length + 1 - z = w.length - z + 1 := by omega
  rw [e] at h3
  exact ⟨⟨by omega, by omega⟩, fun H locs ls hH hl hS => h2 H locs ls hz (by omega) (by omega) hH hl hS fun H1 locs1 hH1 hS1 => h3 H1 locs1 ls hH1 hl hS1⟩
theorem ev_same {ref O nm ds : String} (X : ev_X cc nL own rt p s m args meth c D G ad A z) (hs : ref = O ∨ Cond.sameField ref O nm ds ∈ ev_gd) : ∀ x, s.fieldFound? O nm ds = some x → s.fieldFound? ref nm ds = some x := by
  intro x hx
  rcases hs with rfl | h
  · exact hx
  · exact u_same (X.2.2.2.2.1 _ h) x hx
theorem ok_get (X : ev_X cc nL own rt p s m args meth c D G ad A z) (hP : ev_PP p l e R s m args below meth c Q nL D G ad A z wE nE P) {ci kf N : Nat} {ref C : String} {T : u_T} (hd : decode cc pc = .ok (.getfield idx, 3)) (hc : vwCl[ci]? = some (C, T, N)) (hin : ∀ w ∈ u_ws C T N, w ∈ ev_gd) (hk : kf < N) (hl : Cond.fieldLink own idx ref (T kf).2.1 (T kf).2.2.1 ∈ ev_gd) (hs : ref = (T kf).1 ∨ Cond.sameField ref (T kf).1 (T kf).2.1 (T kf).2.2.1 ∈ ev_gd) (hq : pc + 3 = q) : ev_ok P r pc (ev_get q ci kf) := by
  subst hq
  have hsame := ev_same X hs
  refine ok_of X hP fun k L S w n h => ?_
  obtain ⟨v, S', rfl, h1⟩ := ev_lc_some h
  obtain ⟨a, rfl, h2⟩ := ev_rc_some (v := v) h1
  obtain ⟨c0, hc0, h3⟩ := ev_oc_some h2
  obtain ⟨hb, h4⟩ := ev_bc_t h3
  obtain ⟨u, hu, h5⟩ := ev_oc_some h4
  rw [ev_at_eq] at hc0 hu
  obtain ⟨hx, hbb, hml, hown, hts, hK, -⟩ := X
  exact ⟨_, _, _, h5, fun H locs ls hH hl' hS kk => va_get hx hbb hts hin hown hK hH.1 a (ev_obj_at hc0 hb) hc kf hk (hts _ hl) hsame (v := ev_v ad u) (by rw [List.getElem?_map, hu]; rfl) hd (kk ls hl')⟩
theorem ok_getN (X : ev_X cc nL own rt p s m args meth c D G ad A z) (hP : ev_PP p l e R s m args below meth c Q nL D G ad A z wE nE P) {ci kf N : Nat} {ref C host : String} {T : u_T} (hd : decode cc pc = .ok (.getfield idx, 3)) (hc : vwCl[ci]? = some (C, T, N)) (hin : ∀ w ∈ u_ws C T N, w ∈ ev_gd) (hk : kf < N) (hl : Cond.fieldLinkNest own idx ref (T kf).2.1 (T kf).2.2.1 host ∈ ev_nw) (hs : ref = (T kf).1 ∨ Cond.sameField ref (T kf).1 (T kf).2.1 (T kf).2.2.1 ∈ ev_gd) (hq : pc + 3 = q) : ev_ok P r pc (ev_get q ci kf) := by
  subst hq
  have hsame := ev_same X hs
  refine ok_of X hP fun k L S w n h => ?_
  obtain ⟨v, S', rfl, h1⟩ := ev_lc_some h
  obtain ⟨a, rfl, h2⟩ := ev_rc_some (v := v) h1
  obtain ⟨c0, hc0, h3⟩ := ev_oc_some h2
  obtain ⟨hb, h4⟩ := ev_bc_t h3
  obtain ⟨u, hu, h5⟩ := ev_oc_some h4
  rw [ev_at_eq] at hc0 hu
  obtain ⟨hx, hbb, hml, hown, hts, hK, hAO, hNW, -⟩ := X
  exact ⟨_, _, _, h5, fun H locs ls hH hl' hS kk => va_getN hx hbb hts hin hown hK hH.1 a (ev_obj_at hc0 hb) hc kf hk (va_Nw.use rfl (hNW.1 _ hl)) hsame (v := ev_v ad u) (by rw [List.getElem?_map, hu]; rfl) hd (kk ls hl')⟩
/-- what the heap holds behind a store into a field -/
theorem ev_put_at {ci kf N : Nat} {C : String} {T : u_T} {a : Nat} {cell : Cell} {fs : List Value} {v : Value} {H1 : Heap} (hc : vwCl[ci]? = some (C, T, N)) (e1 : H1[a]? = some (cell.setSlot ((D.2 ci) kf) v)) (q2 : cell.cls = D.1 ci) (q3 : cell.vm = .none) (q4 : ∀ k, k < N → cell.slots[(D.2 ci) k]? = some (vp_V fs k)) (hap : ∀ x y, x < N → y < N → x ≠ y → (D.2 ci) x ≠ (D.2 ci) y) (hk : kf < N) (hl : kf < fs.length) : va_at D vwCl (a, .inr (ci, fs.set kf v)) H1 :=
  ⟨_, hc, t_OB.to (V := updV (vp_V fs) kf v) ⟨_, e1, q2, q3, t_set q4 hap hk v⟩ (fun j _ => vp_updV_set hl v j)⟩
theorem ev_ptf_some {ci kf tq : Nat} {k : ev_G α} {L S : List Value} {w : ev_W} {n : Nat} {ty : FieldType} (hty : ev_tk ty tq = true) (h : ev_ptf q ci kf tq k L S w n = some r) : ∃ v S' a c0, S = v :: .ref a :: S' ∧ w[a]? = some c0 ∧ Nat.beq c0.1 (ci + 3) = true ∧ kf < c0.2.1 ∧ (narrow ty (ev_v ad v) = ev_v ad v ∧ fits ty (ev_v ad v) = true) ∧ k q L S' (w.set a (c0.1, c0.2.1, c0.2.2.set kf v)) n = some r := by
  obtain ⟨v, S1, rfl, h1⟩ := ev_lc_some h
  obtain ⟨u, S', rfl, h2⟩ := ev_lc_some (l := S1) h1
  obtain ⟨a, rfl, h3⟩ := ev_rc_some (v := u) h2
  obtain ⟨c0, hc0, h4⟩ := ev_oc_some h3
  obtain ⟨hb, h5⟩ := ev_bc_t h4
  obtain ⟨h6, hn⟩ := ev_fit_some (ad := ad) hty h5
  rw [ev_at_eq] at hc0
  rw [ev_set_eq, ev_set_eq] at h6
  rw [Bool.and_eq_true] at hb
  exact ⟨v, S', a, c0, rfl, hc0, hb.1, by rw [← Nat.blt_eq]; exact hb.2, hn, h6⟩
theorem ok_put (X : ev_X cc nL own rt p s m args meth c D G ad A z) (hP : ev_PP p l e R s m args below meth c Q nL D G ad A z wE nE P) {ci kf N tq : Nat} {ref C : String} {T : u_T} (tyf : Nat → FieldType) (hd : decode cc pc = .ok (.putfield idx, 3)) (hc : vwCl[ci]? = some (C, T, N)) (hin : ∀ w ∈ u_ws C T N, w ∈ ev_gd) (hty : ∀ k, k < N → parseFieldDescriptor (T k).2.2.1 = some (tyf k)) (hnm : ∀ a, a < N → ∀ b, b < N → a ≠ b → (T a).2.1 ≠ (T b).2.1) (hk : kf < N) (hl : Cond.fieldLink own idx ref (T kf).2.1 (T kf).2.2.1 ∈ ev_gd) (hs : ref = (T kf).1 ∨ Cond.sameField ref (T kf).1 (T kf).2.1 (T kf).2.2.1 ∈ ev_gd) (hfin : (T kf).2.2.2 = false) (htq : ev_tk (tyf kf) tq = true) (hq : pc + 3 = q) : ev_ok P r pc (ev_ptf q ci kf tq) := by
  subst hq
  have hsame := ev_same X hs
  refine ok_upd hP fun k L S w n h => ?_
  obtain ⟨v, S', a, c0, rfl, hc0, hb, hlt, ⟨hn, hfit⟩, h5⟩ := ev_ptf_some (ad := ad) htq h
  refine ⟨_, _, _, _, h5, fun H locs ls hH hl' hS0 kk => ?_⟩
  obtain ⟨hx, hbb, hml, hown, hts, hK, -⟩ := X
  have hap := va_apart (own := own) hts hin tyf hty hnm hK hc
  have he := ev_obj_at (G := G) (ad := ad) hc0 hb
  obtain ⟨r', h1, cell, q1, q2, q3, q4⟩ := hH.1 a _ he
  have hr : r' = (C, T, N) := Option.some.inj (h1.symm.trans hc)
  subst hr
  obtain ⟨hS, hfc, kC, hkC, hkind⟩ := hK.1 ci _ hc
  obtain ⟨cf, kf', fi, f, hi, hsl⟩ := hS kf hk
  have hlay := hts _ (hin _ (u_in_lay hk))
  unfold u_lay at hlay
  rw [if_neg (by rw [hfin]; decide)] at hlay
  have hst := (u_facts hfc hkC (u_lays hts hin hk) hi).1
  have h6 := u_store hfc hkC hkind hlay hi (hty kf hk) hn hfit
  have hw := hH.2.2.1 c0 (List.mem_of_getElem? hc0)
  refine W.putK hx hbb (f := f) ⟨hown, hts _ hl, ⟨_, _, _, hsame _ hi⟩, hst⟩ (by rw [q2]; exact h6) q1 q3 (by rw [hsl]; exact k2_hasslot (q4 kf hk)) rfl rfl hd fun H' e1 e2 e3 => ?_
  rw [hsl] at e1 ⊢
  refine kk H' _ (ev_H_set hH hc0 ?_ e2 e3 ⟨by rw [List.length_set]; exact hw.1, hw.2⟩) (hS0.put e2 e3 (hH.2.1.2 a _ he))
  obtain ⟨t, N0, vs⟩ := c0
  have e : t = ci + 3 := Nat.eq_of_beq_eq_true hb
  subst e
  show va_at D vwCl (ad a, .inr (ci, (vs.set kf v).map (ev_v ad))) H'
  rw [List.map_set]
  exact ev_put_at hc e1 q2 q3 q4 hap hk (by rw [List.length_map, ← hw.1]; exact hlt)
theorem ok_putN (X : ev_X cc nL own rt p s m args meth c D G ad A z) (hP : ev_PP p l e R s m args below meth c Q nL D G ad A z wE nE P) {ci kf N tq : Nat} {ref C host : String} {T : u_T} (tyf : Nat → FieldType) (hd : decode cc pc = .ok (.putfield idx, 3)) (hc : vwCl[ci]? = some (C, T, N)) (hin : ∀ w ∈ u_ws C T N, w ∈ ev_gd) (hty : ∀ k, k < N → parseFieldDescriptor (T k).2.2.1 = some (tyf k)) (hnm : ∀ a, a < N → ∀ b, b < N → a ≠ b → (T a).2.1 ≠ (T b).2.1) (hk : kf < N) (hl : Cond.fieldLinkNest own idx ref (T kf).2.1 (T kf).2.2.1 host ∈ ev_nw) (hs : ref = (T kf).1 ∨ Cond.sameField ref (T kf).1 (T kf).2.1 (T kf).2.2.1 ∈ ev_gd) (hfin : (T kf).2.2.2 = false) (htq : ev_tk (tyf kf) tq = true) (hq : pc + 3 = q) : ev_ok P r pc (ev_ptf q ci kf tq) := by
  subst hq
  have hsame := ev_same X hs
  refine ok_upd hP fun k L S w n h => ?_
  obtain ⟨v, S', a, c0, rfl, hc0, hb, hlt, ⟨hn, hfit⟩, h5⟩ := ev_ptf_some (ad := ad) htq h
  refine ⟨_, _, _, _, h5, fun H locs ls hH hl' hS0 kk => ?_⟩
  obtain ⟨hx, hbb, hml, hown, hts, hK, hAO, hNW, -⟩ := X
  have hap := va_apart (own := own) hts hin tyf hty hnm hK hc
  have he := ev_obj_at (G := G) (ad := ad) hc0 hb
  obtain ⟨r', h1, cell, q1, q2, q3, q4⟩ := hH.1 a _ he
  have hr : r' = (C, T, N) := Option.some.inj (h1.symm.trans hc)
  subst hr
  obtain ⟨hS, hfc, kC, hkC, hkind⟩ := hK.1 ci _ hc
  obtain ⟨cf, kf', fi, f, hi, hsl⟩ := hS kf hk
  have hlay := hts _ (hin _ (u_in_lay hk))
  unfold u_lay at hlay
  rw [if_neg (by rw [hfin]; decide)] at hlay
  have hst := (u_facts hfc hkC (u_lays hts hin hk) hi).1
  have h6 := u_store hfc hkC hkind hlay hi (hty kf hk) hn hfit
  have hw := hH.2.2.1 c0 (List.mem_of_getElem? hc0)
  refine va_WputK hx hbb (f := f) hown (va_Nw.use rfl (hNW.1 _ hl)) (hsame _ hi) hst (by rw [q2]; exact h6) q1 q3 (by rw [hsl]; exact k2_hasslot (q4 kf hk)) rfl rfl hd fun H' e1 e2 e3 => ?_
  rw [hsl] at e1 ⊢
  refine kk H' _ (ev_H_set hH hc0 ?_ e2 e3 ⟨by rw [List.length_set]; exact hw.1, hw.2⟩) (hS0.put e2 e3 (hH.2.1.2 a _ he))
  obtain ⟨t, N0, vs⟩ := c0
  have e : t = ci + 3 := Nat.eq_of_beq_eq_true hb
  subst e
  show va_at D vwCl (ad a, .inr (ci, (vs.set kf v).map (ev_v ad))) H'
  rw [List.map_set]
  exact ev_put_at hc e1 q2 q3 q4 hap hk (by rw [List.length_map, ← hw.1]; exact hlt)
theorem ok_putF (X : ev_X cc nL own rt p s m args meth c D G ad A z) (hP : ev_PP p l e R s m args below meth c Q nL D G ad A z wE nE P) (hin2 : meth.name = "<init>") {ci kf N tq : Nat} {ref C : String} {T : u_T} (tyf : Nat → FieldType) (hd : decode cc pc = .ok (.putfield idx, 3)) (hc : vwCl[ci]? = some (C, T, N)) (hin : ∀ w ∈ u_ws C T N, w ∈ ev_gd) (hty : ∀ k, k < N → parseFieldDescriptor (T k).2.2.1 = some (tyf k)) (hnm : ∀ a, a < N → ∀ b, b < N → a ≠ b → (T a).2.1 ≠ (T b).2.1) (hk : kf < N) (hl : Cond.fieldLink own idx ref (T kf).2.1 (T kf).2.2.1 ∈ ev_gd) (hs : ref = (T kf).1 ∨ Cond.sameField ref (T kf).1 (T kf).2.1 (T kf).2.2.1 ∈ ev_gd) (hfin : (T kf).2.2.2 = true) (hdecl : (T kf).1 = own) (htq : ev_tk (tyf kf) tq = true) (hq : pc + 3 = q) : ev_ok P r pc (ev_ptf q ci kf tq) := by
  subst hq
  have hsame := ev_same X hs
  refine ok_upd hP fun k L S w n h => ?_
  obtain ⟨v, S', a, c0, rfl, hc0, hb, hlt, ⟨hn, hfit⟩, h5⟩ := ev_ptf_some (ad := ad) htq h
  refine ⟨_, _, _, _, h5, fun H locs ls hH hl' hS0 kk => ?_⟩
  obtain ⟨hx, hbb, hml, hown, hts, hK, -⟩ := X
  have hap := va_apart (own := own) hts hin tyf hty hnm hK hc
  have he := ev_obj_at (G := G) (ad := ad) hc0 hb
  obtain ⟨r', h1, cell, q1, q2, q3, q4⟩ := hH.1 a _ he
  have hr : r' = (C, T, N) := Option.some.inj (h1.symm.trans hc)
  subst hr
  obtain ⟨hS, hfc, kC, hkC, hkind⟩ := hK.1 ci _ hc
  obtain ⟨cf, kf', fi, f, hi, hsl⟩ := hS kf hk
  have hlay := hts _ (hin _ (u_in_lay hk))
  unfold u_lay at hlay
  rw [if_pos hfin] at hlay
  have hst := (u_facts hfc hkC (u_lays hts hin hk) hi).1
  have hcf : m.cls = cf := by
    obtain ⟨_, _, c', _, _, _, -, -, hf', -, -, -, hown2, -⟩ := Cond.laysFinal_spec hlay
    have e1 : c' = cf := by have := hi.symm.trans hf'; simp at this; exact this.1.symm
    rw [hdecl] at hown2
    rw [← e1]; exact Option.some.inj (hown.symm.trans hown2)
  have h6 := u_fits hfc hkC hkind (Or.inr hlay) hi (hty kf hk) hn hfit
  have hw := hH.2.2.1 c0 (List.mem_of_getElem? hc0)
  refine W.putFinK hx hbb hown (hts _ hl) (hsame _ hi) hst hcf hin2 (by rw [q2]; exact h6) q1 q3 (by rw [hsl]; exact k2_hasslot (q4 kf hk)) rfl rfl hd fun H' e1 e2 e3 => ?_
  rw [hsl] at e1 ⊢
  refine kk H' _ (ev_H_set hH hc0 ?_ e2 e3 ⟨by rw [List.length_set]; exact hw.1, hw.2⟩) (hS0.put e2 e3 (hH.2.1.2 a _ he))
  obtain ⟨t, N0, vs⟩ := c0
  have e : t = ci + 3 := Nat.eq_of_beq_eq_true hb
  subst e
  show va_at D vwCl (ad a, .inr (ci, (vs.set kf v).map (ev_v ad))) H'
  rw [List.map_set]
  exact ev_put_at hc e1 q2 q3 q4 hap hk (by rw [List.length_map, ← hw.1]; exact hlt)
theorem ev_pl_some {w : ev_W} {a : Nat} {y : Option α} {r : α} (h : ev_pl w a y = some r) : y = some r ∧ ∀ j, a = j + 1 → ∃ c, w[j]? = some c := by
  cases a with
  | zero => exact ⟨h, fun j hj => by cases hj⟩
  | succ a =>
    obtain ⟨c, hc, h1⟩ := ev_oc_some (show ev_oc (ev_at w a) (fun _ => y) = some r from h)
    rw [ev_at_eq] at hc
    exact ⟨h1, fun j hj => by cases hj; exact ⟨c, hc⟩⟩
theorem ok_acmp_eq (X : ev_X cc nL own rt p s m args meth c D G ad A z) (hP : ev_PP p l e R s m args below meth c Q nL D G ad A z wE nE P) {t : Nat} {off : Int} (hd : decode cc pc = .ok (.if_acmp .eq off, 3)) (ht : (pc : Int) + off = (t : Int)) (hq : pc + 3 = q) : ev_ok P r pc (ev_acm t q) := by
  subst hq
  refine ok_of X hP fun k L S w n h => ?_
  obtain ⟨v, S1, rfl, h1⟩ := ev_lc_some h
  obtain ⟨u, S', rfl, h2⟩ := ev_lc_some (l := S1) h1
  obtain ⟨hx, hbb, -⟩ := X
  rcases ev_rn_some (v := v) h2 with ⟨rfl, h3⟩ | ⟨y, rfl, h3⟩ <;> rcases ev_rn_some (v := u) h3 with ⟨rfl, h4⟩ | ⟨x, rfl, h4⟩
  · exact ⟨t, L, S', h4, fun H locs ls hH hl hS kk => lv_acmp_eq (rx := none) (ry := none) hx hbb hd ht (fun _ => kk ls hl) (fun q => absurd rfl q)⟩
  · rcases ev_bc_some h4 with ⟨hb, h5⟩ | ⟨hb, h5⟩
    · exact absurd (Nat.eq_of_beq_eq_true hb) (by omega)
    · exact ⟨pc + 3, L, S', (ev_pl_some (ev_pl_some h5).1).1, fun H locs ls hH hl hS kk => lv_acmp_eq (rx := some (ad x)) (ry := none) hx hbb hd ht (fun q => by cases q) (fun _ => kk ls hl)⟩
  · rcases ev_bc_some h4 with ⟨hb, h5⟩ | ⟨hb, h5⟩
    · exact absurd (Nat.eq_of_beq_eq_true hb) (by omega)
    · exact ⟨pc + 3, L, S', (ev_pl_some (ev_pl_some h5).1).1, fun H locs ls hH hl hS kk => lv_acmp_eq (rx := none) (ry := some (ad y)) hx hbb hd ht (fun q => by cases q) (fun _ => kk ls hl)⟩
  · rcases ev_bc_some h4 with ⟨hb, h5⟩ | ⟨hb, h5⟩
    · have h9 : x + 1 = y + 1 := Nat.eq_of_beq_eq_true hb
      have e : x = y := Nat.succ.inj h9
      subst e
      exact ⟨t, L, S', h5, fun H locs ls hH hl hS kk => lv_acmp_eq (rx := some (ad x)) (ry := some (ad x)) hx hbb hd ht (fun _ => kk ls hl) (fun q => absurd rfl q)⟩
    · obtain ⟨h6, g1⟩ := ev_pl_some h5
      obtain ⟨h7, g2⟩ := ev_pl_some h6
      obtain ⟨c1, e1⟩ := g1 y rfl
      obtain ⟨c2, e2⟩ := g2 x rfl
      have hne : ¬ x = y := fun e => by subst e; rw [Nat.beq_refl] at hb; cases hb
      exact ⟨pc + 3, L, S', h7, fun H locs ls hH hl hS kk => lv_acmp_eq (rx := some (ad x)) (ry := some (ad y)) hx hbb hd ht (fun q => absurd (hH.2.1.1 x y _ _ (ev_w_at (G := G) (ad := ad) e2) (ev_w_at (G := G) (ad := ad) e1) (Option.some.inj q)) hne) (fun _ => kk ls hl)⟩
theorem ok_mx (X : ev_X cc nL own rt p s m args meth c D G ad A z) (hP : ev_PP p l e R s m args below meth c Q nL D G ad A z wE nE P) (hR : wE - z ≤ R.cells ∧ nE ≤ R.slots) (hR1 : 1 ≤ R.frames) (hR2 : 21 ≤ R.locals) (hd : decode cc pc = .ok (.invokestatic idx, 3)) (h1 : Cond.methodLink own idx Lib.Math.max.name ∈ ev_gd) (h2 : Cond.static Lib.Math.max.name ∈ ev_gd) (h3 : Cond.initialized "java/lang/Math" ∈ ev_gd) (h4 : Cond.code Lib.Math.max.name Lib.Math.max.code 2 (some .int) ∈ ev_gd) (hq : pc + 3 = q) : ev_ok P r pc (ev_mx q) := by
  subst hq
  intro k L S w n hk h
  obtain ⟨v, S1, rfl, h5⟩ := ev_lc_some h
  obtain ⟨u, S', rfl, h6⟩ := ev_lc_some (l := S1) h5
  obtain ⟨y, rfl, h7⟩ := ev_ic_some (v := v) h6
  obtain ⟨x, rfl, h8⟩ := ev_ic_some (v := u) h7
  obtain ⟨hb, h9⟩ := ev_bc_t h8
  rw [Nat.ble_eq, ev_len_eq] at hb
  rw [hP]
  intro hz
  obtain ⟨hm, h10⟩ := (hP _ _ _ _ _).mp (hk _ _ _ _ _ h9) hz
  obtain ⟨hx, hbb, hml, hown, hts, -⟩ := X
  refine ⟨hm, fun H locs ls hH hl hS => ?_⟩
  have hsum := ev_sum (ad := ad) hb
  refine va_mmax hx hbb (hml.trans hl.1.symm) hown (hts _ h1) (hts _ h2) (hts _ h3) (hts _ h4) hR1 (by omega) (by omega) (by omega) hd ?_
  have e : (if x < y then y else x) = cond (Nat.blt (ev_sg x) (ev_sg y)) y x := by
    by_cases hlt : x < y
    · rw [if_pos hlt, ev_lt_iff.mpr hlt]; rfl
    · rw [if_neg hlt]
      cases hbl : Nat.blt (ev_sg x) (ev_sg y) with
      | true => exact absurd (ev_lt_iff.mp hbl) hlt
      | false => rfl
  rw [e]
  exact h10 H locs ls hH hl hS
end HOPS
end
section
/-! arrays, new cells, casts, returns -/
section AOPS
variable {p : Program} {l : Launch} {e : Env} {R : Room} {s : State} {m : MethodId} {args : Array Value} {below : List Frame} {meth : Method} {c : Code} {Q : State → Prop}
variable {cc : ByteArray} {nL : Nat} {own : String} {rt : Option FieldType} {D : va_G} {G : Nat → ClassId} {ad : Nat → Nat} {A : Nat → Prop} {z wE nE : Nat} {α : Type} {r : α} {P : Nat → List Value → List Value → ev_W → Nat → Prop} {pc q i idx : Nat}
theorem ok_ialoads (X : ev_X cc nL own rt p s m args meth c D G ad A z) (hP : ev_PP p l e R s m args below meth c Q nL D G ad A z wE nE P) (hd : decode cc pc = .ok (.iaload, 1)) (hq : pc + 1 = q) : ev_ok P r pc (ev_ldi q 0) := by
  subst hq
  refine ok_of X hP fun k L S w n h => ?_
  obtain ⟨v, S1, rfl, h1⟩ := ev_lc_some h
  obtain ⟨u, S', rfl, h2⟩ := ev_lc_some (l := S1) h1
  obtain ⟨i, rfl, h3⟩ := ev_ic_some (v := v) h2
  obtain ⟨a, rfl, h4⟩ := ev_rc_some (v := u) h3
  obtain ⟨c0, hc0, h5⟩ := ev_oc_some h4
  obtain ⟨hb, h6⟩ := ev_bc_t h5
  obtain ⟨y, hy, h7⟩ := ev_oc_some h6
  obtain ⟨x, rfl, h8⟩ := ev_ic_some (v := y) h7
  rw [ev_at_eq] at hc0 hy
  rw [Bool.and_eq_true, Nat.blt_eq] at hb
  refine ⟨_, _, _, h8, fun H locs ls hH hl' hS kk => ?_⟩
  have hw := hH.2.2.1 c0 (List.mem_of_getElem? hc0)
  obtain ⟨hin, hi⟩ := ev_vpin hb.2 hw.2
  have he := ev_arr_at (G := G) (ad := ad) hc0 0 (Nat.eq_of_beq_eq_true hb.1)
  refine va_iald X.1 X.2.1 X.2.2.2.2.2.1 hH.1 a 0 he rfl hin hd ?_
  have ex : ev_iv (c0.2.2.getD i.toNatClampNeg .null) = x := by rw [hi, List.getD_eq_getElem?_getD, hy]; rfl
  rw [ex]
  exact kk ls hl'
theorem ok_baloads (X : ev_X cc nL own rt p s m args meth c D G ad A z) (hP : ev_PP p l e R s m args below meth c Q nL D G ad A z wE nE P) (hd : decode cc pc = .ok (.baload, 1)) (hq : pc + 1 = q) : ev_ok P r pc (ev_ldi q 1) := by
  subst hq
  refine ok_of X hP fun k L S w n h => ?_
  obtain ⟨v, S1, rfl, h1⟩ := ev_lc_some h
  obtain ⟨u, S', rfl, h2⟩ := ev_lc_some (l := S1) h1
  obtain ⟨i, rfl, h3⟩ := ev_ic_some (v := v) h2
  obtain ⟨a, rfl, h4⟩ := ev_rc_some (v := u) h3
  obtain ⟨c0, hc0, h5⟩ := ev_oc_some h4
  obtain ⟨hb, h6⟩ := ev_bc_t h5
  obtain ⟨y, hy, h7⟩ := ev_oc_some h6
  obtain ⟨x, rfl, h8⟩ := ev_ic_some (v := y) h7
  rw [ev_at_eq] at hc0 hy
  rw [Bool.and_eq_true, Nat.blt_eq] at hb
  refine ⟨_, _, _, h8, fun H locs ls hH hl' hS kk => ?_⟩
  have hw := hH.2.2.1 c0 (List.mem_of_getElem? hc0)
  obtain ⟨hin, hi⟩ := ev_vpin hb.2 hw.2
  have he := ev_arr_at (G := G) (ad := ad) hc0 1 (Nat.eq_of_beq_eq_true hb.1)
  refine va_zald X.1 X.2.1 X.2.2.2.2.2.1 hH.1 a 1 he rfl hin hd ?_
  have ex : ev_iv (c0.2.2.getD i.toNatClampNeg .null) = x := by rw [hi, List.getD_eq_getElem?_getD, hy]; rfl
  rw [ex]
  exact kk ls hl'
theorem ok_aaloads (X : ev_X cc nL own rt p s m args meth c D G ad A z) (hP : ev_PP p l e R s m args below meth c Q nL D G ad A z wE nE P) (hd : decode cc pc = .ok (.aaload, 1)) (hq : pc + 1 = q) : ev_ok P r pc (ev_ldq q) := by
  subst hq
  refine ok_of X hP fun k L S w n h => ?_
  obtain ⟨v, S1, rfl, h1⟩ := ev_lc_some h
  obtain ⟨u, S', rfl, h2⟩ := ev_lc_some (l := S1) h1
  obtain ⟨i, rfl, h3⟩ := ev_ic_some (v := v) h2
  obtain ⟨a, rfl, h4⟩ := ev_rc_some (v := u) h3
  obtain ⟨c0, hc0, h5⟩ := ev_oc_some h4
  obtain ⟨hb, h6⟩ := ev_bc_t h5
  obtain ⟨y, hy, h7⟩ := ev_oc_some h6
  obtain ⟨hyk, h8⟩ := ev_pc_some h7
  rw [ev_at_eq] at hc0 hy
  rw [Bool.and_eq_true, Nat.blt_eq] at hb
  refine ⟨_, _, _, h8, fun H locs ls hH hl' hS kk => ?_⟩
  have hw := hH.2.2.1 c0 (List.mem_of_getElem? hc0)
  obtain ⟨hin, hi⟩ := ev_vpin hb.2 hw.2
  have he := ev_arr_at (G := G) (ad := ad) hc0 2 (Nat.eq_of_beq_eq_true hb.1)
  refine va_aldq X.1 X.2.1 X.2.2.2.2.2.1 hH.1 a 2 he rfl hin hd ?_
  have ex : va_rf (ev_rv ad (c0.2.2.getD i.toNatClampNeg .null)) = ev_v ad y := by
    rw [hi, List.getD_eq_getElem?_getD, hy]
    rcases hyk with rfl | ⟨x, rfl⟩ <;> rfl
  rw [ex]
  exact kk ls hl'
theorem ok_aln (X : ev_X cc nL own rt p s m args meth c D G ad A z) (hP : ev_PP p l e R s m args below meth c Q nL D G ad A z wE nE P) (hd : decode cc pc = .ok (.arraylength, 1)) (hq : pc + 1 = q) : ev_ok P r pc (ev_aln q) := by
  subst hq
  refine ok_of X hP fun k L S w n h => ?_
  obtain ⟨v, S', rfl, h1⟩ := ev_lc_some h
  obtain ⟨a, rfl, h2⟩ := ev_rc_some (v := v) h1
  obtain ⟨c0, hc0, h3⟩ := ev_oc_some h2
  obtain ⟨hb, h4⟩ := ev_bc_t h3
  rw [ev_at_eq] at hc0
  rw [Nat.blt_eq] at hb
  refine ⟨_, _, _, h4, fun H locs ls hH hl' hS kk => ?_⟩
  have h3 : c0.1 = 0 ∨ c0.1 = 1 ∨ c0.1 = 2 := by omega
  rcases h3 with h3 | h3 | h3
  · exact va_alen X.1 X.2.1 X.2.2.2.2.2.1 hH.1 a 0 (ev_arr_at (G := G) (ad := ad) hc0 0 h3) (ty := .int) rfl rfl hd (kk ls hl')
  · exact va_alen X.1 X.2.1 X.2.2.2.2.2.1 hH.1 a 1 (ev_arr_at (G := G) (ad := ad) hc0 1 h3) (ty := .boolean) rfl rfl hd (kk ls hl')
  · exact va_alen X.1 X.2.1 X.2.2.2.2.2.1 hH.1 a 2 (ev_arr_at (G := G) (ad := ad) hc0 2 h3) (ty := .object "java/lang/Object") rfl rfl hd (kk ls hl')
/-- a store into a row of numbers: what the cell is then -/
theorem ev_upd_eq {vs : List Value} {j : Nat} {x : Int32} (hj : j < vs.length) : upd (fun j => ev_iv (vs.getD j .null)) j x = fun k => ev_iv ((vs.set j (.int x)).getD k .null) := by
  funext k
  unfold upd
  by_cases h : k = j
  · subst h
    rw [if_pos rfl, List.getD_eq_getElem?_getD, List.getElem?_set_self hj]; rfl
  · rw [if_neg h]
    show ev_iv (vs.getD k .null) = _
    rw [List.getD_eq_getElem?_getD, List.getD_eq_getElem?_getD, List.getElem?_set_ne (fun q => h q.symm)]
theorem ev_sti_some {t : Nat} {g : Int32 → Int32} {k : ev_G α} {L S : List Value} {w : ev_W} {n : Nat} (h : ev_sti q t g k L S w n = some r) : ∃ x i a S' c0, S = .int x :: .int i :: .ref a :: S' ∧ w[a]? = some c0 ∧ c0.1 = t ∧ ev_bits i < c0.2.1 ∧ k q L S' (w.set a (c0.1, c0.2.1, c0.2.2.set (ev_bits i) (.int (g x)))) n = some r := by
  obtain ⟨y, S0, rfl, h1⟩ := ev_lc_some h
  obtain ⟨v, S1, rfl, h2⟩ := ev_lc_some (l := S0) h1
  obtain ⟨u, S', rfl, h3⟩ := ev_lc_some (l := S1) h2
  obtain ⟨x, rfl, h4⟩ := ev_ic_some (v := y) h3
  obtain ⟨i, rfl, h5⟩ := ev_ic_some (v := v) h4
  obtain ⟨a, rfl, h6⟩ := ev_rc_some (v := u) h5
  obtain ⟨c0, hc0, h7⟩ := ev_oc_some h6
  obtain ⟨hb, h8⟩ := ev_bc_t h7
  rw [ev_at_eq] at hc0
  rw [ev_set_eq, ev_set_eq] at h8
  rw [Bool.and_eq_true, Nat.blt_eq] at hb
  exact ⟨x, i, a, S', c0, rfl, hc0, Nat.eq_of_beq_eq_true hb.1, hb.2, h8⟩
theorem ok_iastores (X : ev_X cc nL own rt p s m args meth c D G ad A z) (hP : ev_PP p l e R s m args below meth c Q nL D G ad A z wE nE P) (hd : decode cc pc = .ok (.iastore, 1)) (hq : pc + 1 = q) : ev_ok P r pc (ev_sti q 0 (fun x => x)) := by
  subst hq
  refine ok_upd hP fun k L S w n h => ?_
  obtain ⟨x, i, a, S', c0, rfl, hc0, ht, hlt, h8⟩ := ev_sti_some h
  refine ⟨_, _, _, _, h8, fun H locs ls hH hl' hS0 kk => ?_⟩
  have hw := hH.2.2.1 c0 (List.mem_of_getElem? hc0)
  obtain ⟨hin, hi⟩ := ev_vpin hlt hw.2
  have he := ev_arr_at (G := G) (ad := ad) hc0 0 ht
  obtain ⟨hx, hbb, hml, hown, hts, hK, -⟩ := X
  obtain ⟨t, N, vs⟩ := c0
  cases ht
  refine W.iast hx hbb (hH.1 a _ he) ((hK.2 0 _ rfl).1 N (fun j => .int (ev_iv (vs.getD j .null)))) (fun q => by cases q) (by show ¬ (i < 0 ∨ (arrV _ _ _).slots.size ≤ _); rw [arrV_size]; exact hin) rfl rfl hd fun H1 e1 e2 e3 => ?_
  refine kk H1 _ (ev_H_set hH hc0 ?_ e2 e3 ⟨by rw [List.length_set]; exact hw.1, hw.2⟩) (hS0.put e2 e3 (hH.2.1.2 a _ he))
  show H1[ad a]? = some (vp_cell (G 0) (N, .inl (fun j => ev_iv ((vs.set (ev_bits i) (.int x)).getD j .null))))
  rw [e1]
  show some ((vp_cell (G 0) (N, .inl (fun j => ev_iv (vs.getD j .null)))).setSlot _ _) = _
  rw [← ev_upd_eq (by rw [← hw.1]; exact hlt), vp_cell_i, vp_cell_i, arrV_store, hi]
  congr 2
  funext q
  by_cases hq : q = ev_bits i
  · subst hq
    simp [updV, upd]
  · simp [updV, upd, hq]
theorem ok_bastores (X : ev_X cc nL own rt p s m args meth c D G ad A z) (hP : ev_PP p l e R s m args below meth c Q nL D G ad A z wE nE P) (hd : decode cc pc = .ok (.bastore, 1)) (hq : pc + 1 = q) : ev_ok P r pc (ev_sti q 1 (fun x => vp_nar .boolean x)) := by
  subst hq
  refine ok_upd hP fun k L S w n h => ?_
  obtain ⟨x, i, a, S', c0, rfl, hc0, ht, hlt, h8⟩ := ev_sti_some h
  refine ⟨_, _, _, _, h8, fun H locs ls hH hl' hS0 kk => ?_⟩
  have hw := hH.2.2.1 c0 (List.mem_of_getElem? hc0)
  obtain ⟨hin, hi⟩ := ev_vpin hlt hw.2
  have he := ev_arr_at (G := G) (ad := ad) hc0 1 ht
  obtain ⟨hx, hbb, hml, hown, hts, hK, -⟩ := X
  obtain ⟨t, N, vs⟩ := c0
  cases ht
  refine W.zast hx hbb (hH.1 a _ he) ((hK.2 1 _ rfl).1 N (fun j => .int (ev_iv (vs.getD j .null)))) (fun q => by cases q) (by show ¬ (i < 0 ∨ (arrV _ _ _).slots.size ≤ _); rw [arrV_size]; exact hin) rfl rfl hd fun H1 e1 e2 e3 => ?_
  refine kk H1 _ (ev_H_set hH hc0 ?_ e2 e3 ⟨by rw [List.length_set]; exact hw.1, hw.2⟩) (hS0.put e2 e3 (hH.2.1.2 a _ he))
  show H1[ad a]? = some (vp_cell (G 1) (N, .inl (fun j => ev_iv ((vs.set (ev_bits i) (.int (vp_nar .boolean x))).getD j .null))))
  rw [e1]
  show some ((vp_cell (G 1) (N, .inl (fun j => ev_iv (vs.getD j .null)))).setSlot _ _) = _
  rw [← ev_upd_eq (by rw [← hw.1]; exact hlt), vp_cell_i, vp_cell_i, arrV_store, hi]
  congr 2
  funext q
  by_cases hq : q = ev_bits i
  · subst hq
    simp [updV, upd, vp_nar, narrow]
  · simp [updV, upd, hq]
theorem ev_upq_eq {vs : List Value} {j : Nat} {v : Value} (hj : j < vs.length) : va_up (fun j => ev_rv ad (vs.getD j .null)) j (ev_rv ad v) = fun k => ev_rv ad ((vs.set j v).getD k .null) := by
  funext k
  unfold va_up
  by_cases h : k = j
  · subst h
    rw [if_pos rfl, List.getD_eq_getElem?_getD, List.getElem?_set_self hj]; rfl
  · rw [if_neg h]
    show ev_rv ad (vs.getD k .null) = _
    rw [List.getD_eq_getElem?_getD, List.getD_eq_getElem?_getD, List.getElem?_set_ne (fun q => h q.symm)]
theorem ok_aastores (X : ev_X cc nL own rt p s m args meth c D G ad A z) (hP : ev_PP p l e R s m args below meth c Q nL D G ad A z wE nE P) {ci : Nat} {C : vw_C} (hd : decode cc pc = .ok (.aastore, 1)) (hc : vwCl[ci]? = some C) (h1 : Cond.castable C.1 "java/lang/Object" ∈ ev_nw) (h2 : Cond.castable "[I" "java/lang/Object" ∈ ev_nw) (hq : pc + 1 = q) : ev_ok P r pc (ev_stq q (ci + 3)) := by
  subst hq
  refine ok_upd hP fun k L S w n h => ?_
  obtain ⟨y, S0, rfl, g1⟩ := ev_lc_some h
  obtain ⟨v, S1, rfl, g2⟩ := ev_lc_some (l := S0) g1
  obtain ⟨u, S', rfl, g3⟩ := ev_lc_some (l := S1) g2
  obtain ⟨i, rfl, g4⟩ := ev_ic_some (v := v) g3
  obtain ⟨a, rfl, g5⟩ := ev_rc_some (v := u) g4
  obtain ⟨c0, hc0, g6⟩ := ev_oc_some g5
  obtain ⟨hb, g7⟩ := ev_bc_t g6
  rw [ev_at_eq] at hc0
  rw [ev_set_eq, ev_set_eq] at g7
  rw [Bool.and_eq_true, Nat.blt_eq] at hb
  have ht := Nat.eq_of_beq_eq_true hb.1
  have hlt := hb.2
  have hy : (y = .null ∨ ∃ x, y = .ref x ∧ ∃ d0, w[x]? = some d0 ∧ (d0.1 = 0 ∨ d0.1 = ci + 3)) ∧ k (pc + 1) L S' (w.set a (c0.1, c0.2.1, c0.2.2.set (ev_bits i) y)) n = some r := by
    rcases ev_rn_some (v := y) g7 with ⟨rfl, g8⟩ | ⟨x, rfl, g8⟩
    · refine ⟨Or.inl rfl, ?_⟩
      exact g8
    · obtain ⟨d0, hd0, g9⟩ := ev_oc_some (show ev_oc (ev_at w x) _ = some r from g8)
      obtain ⟨hk, g10⟩ := ev_bc_t g9
      rw [ev_at_eq] at hd0
      rw [Bool.or_eq_true] at hk
      refine ⟨Or.inr ⟨x, rfl, d0, hd0, ?_⟩, g10⟩
      rcases hk with hk | hk
      · exact Or.inl (Nat.eq_of_beq_eq_true hk)
      · exact Or.inr (Nat.eq_of_beq_eq_true hk)
  obtain ⟨hy, h8⟩ := hy
  refine ⟨_, _, _, _, h8, fun H locs ls hH hl' hS0 kk => ?_⟩
  have hw := hH.2.2.1 c0 (List.mem_of_getElem? hc0)
  obtain ⟨hin, hi⟩ := ev_vpin hlt hw.2
  have he := ev_arr_at (G := G) (ad := ad) hc0 2 ht
  obtain ⟨hx, hbb, hml, hown, hts, hK, hAO, hNW, -⟩ := X
  have h0 : ¬ i < 0 := fun q => hin (Or.inl q)
  have hlt2 : i.toNatClampNeg < c0.2.1 := by rw [hi]; exact hlt
  obtain ⟨t, N, vs⟩ := c0
  cases ht
  have fin : ∀ (H1 : Heap) (locs1 : List Loc), H1[ad a]? = some ((vp_cell (G 2) (N, .inr (.inr (.inr (.inr (fun j => ev_rv ad (vs.getD j .null))))))).setSlot i.toNatClampNeg (ev_v ad y)) → H1.size = H.size → (∀ q, q ≠ ad a → H1[q]? = H[q]?) → ev_H D G ad A (w.set a (2, N, vs.set (ev_bits i) y)) H1 := by
    intro H1 locs1 e1 e2 e3
    refine ev_H_set hH hc0 ?_ e2 e3 ⟨by rw [List.length_set]; exact hw.1, hw.2⟩
    show H1[ad a]? = some (vp_cell (G 2) (N, .inr (.inr (.inr (.inr (fun j => ev_rv ad ((vs.set (ev_bits i) y).getD j .null)))))))
    rw [e1, ← ev_upq_eq (by rw [← hw.1]; exact hlt), vp_cell_q, vp_cell_q, arrV_store, hi]
    congr 2
    funext q
    by_cases hq : q = ev_bits i
    · subst hq
      rcases hy with rfl | ⟨x, rfl, -⟩ <;> simp [updV, va_up, va_rf, ev_rv, ev_v]
    · simp [updV, va_up, hq]
  obtain ⟨kA, comp, k1, k2, k3, -⟩ := (hK.2 2 _ rfl).2
  rcases hy with rfl | ⟨x, rfl, d0, hd0, hdk⟩
  · refine va_WaastN (C := "java/lang/Object") hx hbb (hH.1 a _ he) ((hK.2 2 _ rfl).1 N (fun j => va_rf (ev_rv ad (vs.getD j .null)))) (fun h => by cases h) (by show ¬ (i < 0 ∨ (arrV _ _ _).slots.size ≤ _); rw [arrV_size]; exact hin) rfl rfl hd fun H1 e1 e2 e3 => ?_
    exact kk H1 _ (fin H1 [] e1 e2 e3) (hS0.put e2 e3 (hH.2.1.2 a _ he))
  · have hr : va_Any "java/lang/Object" s H (ad x) := by
      rcases hdk with hdk | hdk
      · have hv := hH.1 x _ (ev_arr_at (G := G) (ad := ad) hd0 0 hdk)
        obtain ⟨c1, t1, f1, f2, f3⟩ := Cond.castable_spec (va_Nw.use (A := args) rfl (hNW.1 _ h2))
        have hI : s.vm.findClass "[I" = some (G 0) := (hK.2 0 _ rfl).2
        cases hI.symm.trans f1
        obtain ⟨kI, hkI, -⟩ := Vm.findClass_spec hI
        refine ⟨_, hv, rfl, ⟨kI, hkI⟩, fun comp h => ?_⟩
        cases f2.symm.trans h
        exact f3
      · have hv := ev_obj_at (G := G) (ad := ad) hd0 (by rw [hdk]; exact Nat.beq_refl _)
        obtain ⟨c1, t1, f1, f2, f3⟩ := Cond.castable_spec (va_Nw.use (A := args) rfl (hNW.1 _ h1))
        refine va_rAny hK hH.1 hv hc fun comp c2 m1 m2 => ?_
        cases f2.symm.trans m1
        cases f1.symm.trans m2
        exact f3
    obtain ⟨cellV, v1, v3, ⟨kC, hkC⟩, hasg⟩ := hr
    obtain ⟨kE, hkE, -⟩ := Vm.findClass_spec k3
    refine W.aast hx hbb (hH.1 a _ he) (fun q h => by cases h) (fun h => by cases h) k1 k2 rfl hkE ⟨h0, by show _ < (arrV _ _ _).slots.size; rw [arrV_size]; exact hlt2⟩ v1 (fun q h => by rw [h] at v3; cases v3) hkC (hasg _ k3) rfl rfl hd fun H1 e1 e2 e3 => ?_
    exact kk H1 _ (fin H1 [] e1 e2 e3) (hS0.put e2 e3 (hH.2.1.2 a _ he))
/-- a new row of numbers -/
theorem ev_nwa_some {t : Nat} {v0 : Value} {k : ev_G α} {L S : List Value} {w : ev_W} {n : Nat} (h : ev_nwa q t v0 k L S w n = some r) : ∃ i S', S = .int i :: S' ∧ ev_bits i < 100000 ∧ k q L (.ref w.length :: S') (w ++ [(t, ev_bits i, List.replicate (ev_bits i) v0)]) (n + ev_bits i) = some r := by
  obtain ⟨v, S', rfl, h1⟩ := ev_lc_some h
  obtain ⟨i, rfl, h2⟩ := ev_ic_some (v := v) h1
  obtain ⟨hb, h3⟩ := ev_bc_t h2
  rw [Nat.blt_eq] at hb
  rw [ev_len_eq] at h3
  exact ⟨i, S', rfl, hb, h3⟩
theorem ok_newarray (X : ev_X cc nL own rt p s m args meth c D G ad A z) (hP : ev_PP p l e R s m args below meth c Q nL D G ad A z wE nE P) (hR : wE - z ≤ R.cells ∧ nE ≤ R.slots) {t : Nat} {at' : ArrayType} {ty : FieldType} (hd : decode cc pc = .ok (.newarray at', 2)) (hcase : (t = 0 ∧ at' = .int ∧ ty = .int) ∨ (t = 1 ∧ at' = .boolean ∧ ty = .boolean)) (hw : Cond.arrayClass ty ∈ ev_gd) (hq : pc + 2 = q) : ev_ok P r pc (ev_nwa q t (.int 0)) := by
  subst hq
  refine ok_push hP hR fun k L S w n h => ?_
  obtain ⟨i, S', rfl, hb, h3⟩ := ev_nwa_some h
  refine ⟨_, _, _, _, h3, fun H locs ls hz hc1 hs1 hH hl' hS kk => ?_⟩
  obtain ⟨hx, hbb, hml, hown, hts, hK, hAO, hNW, hZ, hA, -, -, had⟩ := X
  obtain ⟨h0, hi⟩ := ev_ix hb (Nat.le_refl _)
  have hAq : A (ad w.length) := hA _ (by rw [← hH.2.2.2]; exact hS.1)
  have hty : newarray.typeOf at' = ty := by rcases hcase with ⟨-, rfl, rfl⟩ | ⟨-, rfl, rfl⟩ <;> rfl
  have hdf : defaultValue ty = .int 0 := by rcases hcase with ⟨-, -, rfl⟩ | ⟨-, -, rfl⟩ <;> rfl
  have hcb : componentBytes ty ≤ 4 := by rcases hcase with ⟨-, -, rfl⟩ | ⟨-, -, rfl⟩ <;> decide
  refine va_newaK hx hbb (atype := at') (by rw [hty]; exact hts _ hw) rfl hd rfl h0 hi (by rw [hty]; have := Nat.mul_le_mul_left (ev_bits i) hcb; omega) hc1 hs1 hH.2.2.2 fun H1 cA e1 z1 o1 hAr hNm => ?_
  rw [hty, hdf] at e1
  have hcA : cA = G t := by
    rw [hty] at hNm
    rcases hcase with ⟨rfl, -, rfl⟩ | ⟨rfl, -, rfl⟩
    · have hI : s.vm.findClass ("[" ++ (FieldType.int).toString) = some (G 0) := (hK.2 0 _ rfl).2
      exact Option.some.inj (hNm.symm.trans hI)
    · have hI : s.vm.findClass ("[" ++ (FieldType.boolean).toString) = some (G 1) := (hK.2 1 _ rfl).2
      exact Option.some.inj (hNm.symm.trans hI)
  subst hcA
  refine kk H1 locs (ev_H_push hH ?_ (by rw [z1, hH.2.2.2]) (fun q hq => o1 q (by rw [← hH.2.2.2]; exact hq)) hAq (had _ hz) ⟨by simp, Nat.le_of_lt hb⟩) ⟨Nat.le_trans hS.1 (by rw [z1, hH.2.2.2]; omega), fun x h1 h2 => (o1 x (by rw [← hH.2.2.2]; exact Nat.lt_of_lt_of_le h1 hS.1)).trans (hS.2.1 x h1 h2), hS.2.2⟩
  have key : ∀ t', H1[ad w.length]? = some (arrV (G t') (ev_bits i) (fun _ => .int 0)) → H1[ad w.length]? = some (vp_cell (G t') (ev_bits i, .inl (fun j => ev_iv ((List.replicate (ev_bits i) (.int 0)).getD j .null)))) := by
    intro t' e2
    rw [e2, vp_cell_i]
    congr 2
    funext j
    rw [List.getD_eq_getElem?_getD, List.getElem?_replicate]
    split <;> rfl
  rcases hcase with ⟨rfl, -, -⟩ | ⟨rfl, -, -⟩
  · exact key 0 e1
  · exact key 1 e1
theorem ok_anewarray (X : ev_X cc nL own rt p s m args meth c D G ad A z) (hP : ev_PP p l e R s m args below meth c Q nL D G ad A z wE nE P) (hR : wE - z ≤ R.cells ∧ nE ≤ R.slots) (hd : decode cc pc = .ok (.anewarray idx, 3)) (hl : Cond.classLink own idx "java/lang/Object" ∈ ev_gd) (hq : pc + 3 = q) : ev_ok P r pc (ev_nwa q 2 .null) := by
  subst hq
  refine ok_push hP hR fun k L S w n h => ?_
  obtain ⟨i, S', rfl, hb, h3⟩ := ev_nwa_some h
  refine ⟨_, _, _, _, h3, fun H locs ls hz hc1 hs1 hH hl' hS kk => ?_⟩
  obtain ⟨hx, hbb, hml, hown, hts, hK, hAO, hNW, hZ, hA, -, -, had⟩ := X
  obtain ⟨h0, hi⟩ := ev_ix hb (Nat.le_refl _)
  have hAq : A (ad w.length) := hA _ (by rw [← hH.2.2.2]; exact hS.1)
  show W p l e R s m args below meth c H locs (w.length - z) n Q (F0 m pc ls (.int i :: S'.map (ev_v ad)))
  refine W.anew hx hbb hown (hts _ hl) (va_AO.use hAO) rfl hd rfl h0 (by rw [hi]; omega) hc1 (by rw [hi]; exact hs1) fun cA kA comp f1 f2 f3 f4 => ?_
  have hcA : cA = G 2 := by
    obtain ⟨kO, co, -, -, -, hO⟩ := (hK.2 2 _ rfl).2
    exact Option.some.inj (f1.symm.trans hO)
  subst hcA
  rw [hi, hH.2.2.2]
  generalize hH1 : H.push ({ cls := G 2, slots := Array.replicate (ev_bits i) .null, vm := .none } : Cell) = H1
  have z1 : H1.size = H.size + 1 := by rw [← hH1, Array.size_push]
  have e1 : H1[H.size]? = some (arrV (G 2) (ev_bits i) (fun _ => .null)) := by rw [← hH1, Array.getElem?_push_size, ← arrV_new]
  have o1 : ∀ q : Nat, q < H.size → H1[q]? = H[q]? := fun q hq => by rw [← hH1, Array.getElem?_push, if_neg (Nat.ne_of_lt hq)]
  refine kk H1 locs (ev_H_push hH ?_ z1 o1 hAq (had _ hz) ⟨by simp, Nat.le_of_lt hb⟩) ⟨Nat.le_trans hS.1 (by omega), fun x h1 h2 => (o1 x (Nat.lt_of_lt_of_le h1 hS.1)).trans (hS.2.1 x h1 h2), hS.2.2⟩
  show H1[ad w.length]? = some (vp_cell (G 2) (ev_bits i, .inr (.inr (.inr (.inr (fun j => ev_rv ad ((List.replicate (ev_bits i) .null).getD j .null)))))))
  rw [← hH.2.2.2, e1, vp_cell_q]
  congr 2
  funext j
  rw [List.getD_eq_getElem?_getD, List.getElem?_replicate]
  split <;> rfl
theorem ok_new (X : ev_X cc nL own rt p s m args meth c D G ad A z) (hP : ev_PP p l e R s m args below meth c Q nL D G ad A z wE nE P) (hR : wE - z ≤ R.cells ∧ nE ≤ R.slots) {ci N : Nat} {C : String} {T : u_T} {dv : List Value} (tyf : Nat → FieldType) (hd : decode cc pc = .ok (.new idx, 3)) (hc : vwCl[ci]? = some (C, T, N)) (hin : ∀ w ∈ u_ws C T N, w ∈ ev_gd) (hty : ∀ k, k < N → parseFieldDescriptor (T k).2.2.1 = some (tyf k)) (hcl : Cond.classLink own idx C ∈ ev_gd) (hinst : Cond.instantiable C N ∈ ev_gd) (hini : Cond.initialized C ∈ ev_gd) (hfs : ∀ j, j < N → defaultValue (tyf j) = vp_V dv j) (hnr : dv.map (ev_v ad) = dv) (hN : N = dv.length ∧ N ≤ 100000) (hq : pc + 3 = q) : ev_ok P r pc (ev_new q ci N dv) := by
  subst hq
  refine ok_push hP hR fun k L S w n h => ?_
  have h3 : k (pc + 3) L (.ref (ev_len w) :: S) (w ++ [(ci + 3, N, dv)]) (n + N) = some r := h
  rw [ev_len_eq] at h3
  refine ⟨_, _, _, _, h3, fun H locs ls hz hc1 hs1 hH hl' hS kk => ?_⟩
  obtain ⟨hx, hbb, hml, hown, hts, hK, hAO, hNW, hZ, hA, -, -, had⟩ := X
  have hAq : A (ad w.length) := hA _ (by rw [← hH.2.2.2]; exact hS.1)
  have hKn := hK.1 ci _ hc
  refine W.newcK hx hbb hown (hts _ hcl) (hts _ hinst) (hts _ hini) rfl hd hc1 hs1 hKn.2.1 rfl fun H1 kC hkC e1 z1 o1 => ?_
  rw [hH.2.2.2]
  refine kk H1 locs (ev_H_push hH ?_ z1 o1 hAq (had _ hz) hN) ⟨Nat.le_trans hS.1 (by omega), fun x h1 h2 => (o1 x (Nat.lt_of_lt_of_le h1 hS.1)).trans (hS.2.1 x h1 h2), hS.2.2⟩
  show va_at D vwCl (ad w.length, .inr (ci, dv.map (ev_v ad))) H1
  rw [hnr, ← hH.2.2.2]
  exact ⟨_, hc, (u_born tyf hts hin hKn hkC e1 hty).to hfs⟩
theorem ok_castA (X : ev_X cc nL own rt p s m args meth c D G ad A z) (hP : ev_PP p l e R s m args below meth c Q nL D G ad A z wE nE P) (hd : decode cc pc = .ok (.checkcast idx, 3)) (hl : Cond.classLink own idx "[I" ∈ ev_gd) (hq : pc + 3 = q) : ev_ok P r pc (ev_cst q 0) := by
  subst hq
  refine ok_of X hP fun k L S w n h => ?_
  obtain ⟨v, S', rfl, h1⟩ := ev_lc_some h
  obtain ⟨a, rfl, h2⟩ := ev_rc_some (v := v) h1
  obtain ⟨c0, hc0, h3⟩ := ev_oc_some h2
  obtain ⟨hb, h4⟩ := ev_bc_t h3
  rw [ev_at_eq] at hc0
  obtain ⟨hx, hbb, hml, hown, hts, hK, -⟩ := X
  exact ⟨_, _, _, h4, fun H locs ls hH hl' hS kk => va_castA hx hbb hown (hts _ hl) hH.1 a (ev_arr_at (G := G) (ad := ad) hc0 0 (Nat.eq_of_beq_eq_true hb)) (hK.2 0 _ rfl).2 hd (kk ls hl')⟩
theorem ok_castS (X : ev_X cc nL own rt p s m args meth c D G ad A z) (hP : ev_PP p l e R s m args below meth c Q nL D G ad A z wE nE P) {ci : Nat} {C : vw_C} (hd : decode cc pc = .ok (.checkcast idx, 3)) (hc : vwCl[ci]? = some C) (hl : Cond.classLink own idx C.1 ∈ ev_gd) (hq : pc + 3 = q) : ev_ok P r pc (ev_cst q (ci + 3)) := by
  subst hq
  refine ok_of X hP fun k L S w n h => ?_
  obtain ⟨v, S', rfl, h1⟩ := ev_lc_some h
  obtain ⟨a, rfl, h2⟩ := ev_rc_some (v := v) h1
  obtain ⟨c0, hc0, h3⟩ := ev_oc_some h2
  obtain ⟨hb, h4⟩ := ev_bc_t h3
  rw [ev_at_eq] at hc0
  obtain ⟨hx, hbb, hml, hown, hts, hK, -⟩ := X
  exact ⟨_, _, _, h4, fun H locs ls hH hl' hS kk => va_castS hx hbb hown (hts _ hl) (hK.1 ci _ hc).2 (va_recv hK hH.1 hc (ev_obj_at (G := G) (ad := ad) hc0 hb)) hd (kk ls hl')⟩
theorem ok_obj (X : ev_X cc nL own rt p s m args meth c D G ad A z) (hP : ev_PP p l e R s m args below meth c Q nL D G ad A z wE nE P) (hfr : 1 ≤ R.frames) (hlo : 21 ≤ R.locals) (hd : decode cc pc = .ok (.invokespecial idx, 3)) (h1 : Cond.methodLink own idx Lib.objectInit ∈ ev_gd) (h2 : Cond.instanceMethod Lib.objectInit ∈ ev_gd) (h3 : Cond.code Lib.objectInit ⟨#[0xb1]⟩ 1 none ∈ ev_gd) (hq : pc + 3 = q) : ev_ok P r pc (ev_obj q) := by
  subst hq
  refine ok_of X hP fun k L S w n h => ?_
  obtain ⟨v, S', rfl, g1⟩ := ev_lc_some h
  obtain ⟨a, rfl, g2⟩ := ev_rc_some (v := v) g1
  obtain ⟨hb, g3⟩ := ev_bc_t g2
  rw [Nat.ble_eq, ev_len_eq] at hb
  obtain ⟨hx, hbb, hml, hown, hts, hK, -⟩ := X
  refine ⟨_, _, _, g3, fun H locs ls hH hl' hS kk => W.objInit hx hbb hown (hts _ h1) (hts _ h2) (hts _ h3) rfl (hl'.1.trans hml.symm) rfl hd hfr ?_ (kk ls hl')⟩
  have := ev_sum (ad := ad) hb
  show 2 * 0 + _ + 12 ≤ _
  omega
/-! returns: what must be so where a call ends -/
theorem ok_ireturn (X : ev_X cc nL own rt p s m args meth c D G ad A z) (hP : ev_PP p l e R s m args below meth c Q nL D G ad A z wE nE P) {Qc : Array Value → State → Outcome → State → Prop} (hQ : Q = MQ below Qc args s (wE - z) nE A) {fin : Option Value → ev_W → Nat → Option α} (hfin : ∀ v w n, fin v w n = some r → w.length = wE ∧ n = nE ∧ ∀ H locs, ev_H D G ad A w H → va_S A s.heap H locs → ∀ t : State, t.heap = H → s.WarmedH t.vm → Qc args s (.returned (v.map (ev_v ad))) t) (hrt : rt = some .int) (hd : decode cc pc = .ok (.ireturn, 1)) : ev_ok P r pc (ev_rti fin) := by
  intro k L S w n hk h
  obtain ⟨v, S', rfl, h1⟩ := ev_lc_some h
  obtain ⟨x, rfl, h2⟩ := ev_ic_some (v := v) h1
  cases S' with
  | cons _ _ => cases h2
  | nil =>
    obtain ⟨e1, e2, h3⟩ := hfin _ _ _ h2
    rw [hP]
    intro hz
    refine ⟨⟨by omega, by omega⟩, fun H locs ls hH hl' hS => ?_⟩
    obtain ⟨hx, hbb, hml, hown, hts, hK, hAO, hNW, hZ, hA, hlk, hr, had⟩ := X
    subst hQ
    subst e1; subst e2
    exact W.iret hx hbb (hr.trans hrt) (h3 H locs hH hS) hS.2.2 hd hlk
theorem ok_zreturn (X : ev_X cc nL own rt p s m args meth c D G ad A z) (hP : ev_PP p l e R s m args below meth c Q nL D G ad A z wE nE P) {Qc : Array Value → State → Outcome → State → Prop} (hQ : Q = MQ below Qc args s (wE - z) nE A) {fin : Option Value → ev_W → Nat → Option α} (hfin : ∀ v w n, fin v w n = some r → w.length = wE ∧ n = nE ∧ ∀ H locs, ev_H D G ad A w H → va_S A s.heap H locs → ∀ t : State, t.heap = H → s.WarmedH t.vm → Qc args s (.returned (v.map (ev_v ad))) t) (hrt : rt = some .boolean) (hd : decode cc pc = .ok (.ireturn, 1)) : ev_ok P r pc (ev_rtz fin) := by
  intro k L S w n hk h
  obtain ⟨v, S', rfl, h1⟩ := ev_lc_some h
  obtain ⟨x, rfl, h2⟩ := ev_ic_some (v := v) h1
  obtain ⟨hb, h2⟩ := ev_bc_t h2
  cases S' with
  | cons _ _ => cases h2
  | nil =>
    obtain ⟨e1, e2, h3⟩ := hfin _ _ _ h2
    rw [hP]
    intro hz
    refine ⟨⟨by omega, by omega⟩, fun H locs ls hH hl' hS => ?_⟩
    obtain ⟨hx, hbb, hml, hown, hts, hK, hAO, hNW, hZ, hA, hlk, hr, had⟩ := X
    subst hQ
    subst e1; subst e2
    have hn : narrow .boolean (.int x) = .int x := by
      rcases ev_bool (by rw [← Nat.blt_eq]; exact hb) with rfl | rfl <;> rfl
    exact W.zret hx hbb (hr.trans hrt) hn (h3 H locs hH hS) hS.2.2 hd hlk
theorem ok_areturn (X : ev_X cc nL own rt p s m args meth c D G ad A z) (hP : ev_PP p l e R s m args below meth c Q nL D G ad A z wE nE P) {Qc : Array Value → State → Outcome → State → Prop} (hQ : Q = MQ below Qc args s (wE - z) nE A) {fin : Option Value → ev_W → Nat → Option α} (hfin : ∀ v w n, fin v w n = some r → w.length = wE ∧ n = nE ∧ ∀ H locs, ev_H D G ad A w H → va_S A s.heap H locs → ∀ t : State, t.heap = H → s.WarmedH t.vm → Qc args s (.returned (v.map (ev_v ad))) t) {ty : FieldType} (hrt : rt = some ty) (hty : (∃ n, ty = .object n) ∨ ∃ t, ty = .array t) (hd : decode cc pc = .ok (.areturn, 1)) : ev_ok P r pc (ev_rta fin) := by
  intro k L S w n hk h
  obtain ⟨v, S', rfl, h1⟩ := ev_lc_some h
  obtain ⟨hv, h2⟩ := ev_pc_some h1
  cases S' with
  | cons _ _ => cases h2
  | nil =>
    obtain ⟨e1, e2, h3⟩ := hfin _ _ _ h2
    rw [hP]
    intro hz
    refine ⟨⟨by omega, by omega⟩, fun H locs ls hH hl' hS => ?_⟩
    obtain ⟨hx, hbb, hml, hown, hts, hK, hAO, hNW, hZ, hA, hlk, hr, had⟩ := X
    subst hQ
    subst e1; subst e2
    exact W.aret hx hbb (hr.trans hrt) hty (v := ev_v ad v) (by rcases hv with rfl | ⟨x, rfl⟩; exact Or.inl rfl; exact Or.inr ⟨_, rfl⟩) (h3 H locs hH hS) hS.2.2 hd hlk
theorem ok_return (X : ev_X cc nL own rt p s m args meth c D G ad A z) (hP : ev_PP p l e R s m args below meth c Q nL D G ad A z wE nE P) {Qc : Array Value → State → Outcome → State → Prop} (hQ : Q = MQ below Qc args s (wE - z) nE A) {fin : Option Value → ev_W → Nat → Option α} (hfin : ∀ v w n, fin v w n = some r → w.length = wE ∧ n = nE ∧ ∀ H locs, ev_H D G ad A w H → va_S A s.heap H locs → ∀ t : State, t.heap = H → s.WarmedH t.vm → Qc args s (.returned (v.map (ev_v ad))) t) (hrt : rt = none) (hd : decode cc pc = .ok (.return_, 1)) : ev_ok P r pc (ev_rtv fin) := by
  intro k L S w n hk h
  cases S with
  | cons _ _ => cases h
  | nil =>
    obtain ⟨e1, e2, h3⟩ := hfin _ _ _ h
    rw [hP]
    intro hz
    refine ⟨⟨by omega, by omega⟩, fun H locs ls hH hl' hS => ?_⟩
    obtain ⟨hx, hbb, hml, hown, hts, hK, hAO, hNW, hZ, hA, hlk, hr, had⟩ := X
    subst hQ
    subst e1; subst e2
    exact W.vret hx hbb (hr.trans hrt) (h3 H locs hH hS) hS.2.2 hd hlk
end AOPS
end
section
/-! calls -/
def ev_Qc (D : va_G) (G : Nat → ClassId) (ad : Nat → Nat) (A : Nat → Prop) (rv : Option Value) (w' : ev_W) : Array Value → State → Outcome → State → Prop := fun _ st o t => o = .returned (rv.map (ev_v ad)) ∧ ev_H D G ad A w' t.heap ∧ va_F A st t
def ev_Pc (D : va_G) (G : Nat → ClassId) (ad : Nat → Nat) (A : Nat → Prop) (vs : List Value) (w : ev_W) : Array Value → State → Prop := fun a U => a = (vs.map (ev_v ad)).toArray ∧ ev_B D G ad A w U
def ev_rm (d mc ms : Nat) : Room := { frames := d + 2, cells := mc, slots := ms, locals := 64 * (d + 2) }
/-- what the calls that the evaluator makes are over the machine: d deep at most; ys: each method's name and words -/
def ev_cf (l : Launch) (ys : List (MethodName × List Cond)) (d : Nat) (cf : Nat → List Value → ev_W → Option ev_R) : Prop :=
  ∀ (y : Nat) (vs : List Value) (w w1 : ev_W) (rv : Option Value) (k1 : Nat), cf y vs w = some (rv, w1, k1) → w.length ≤ w1.length ∧ ∀ (nm : MethodName) (ws : List Cond), ys[y]? = some (nm, ws) → ∀ (D : va_G) (G : Nat → ClassId) (ad : Nat → Nat) (A : Nat → Prop) (z : Nat), (∀ k, z ≤ k → ad (k + 1) = ad k + 1) → z ≤ w.length →
    Met l nm ws (ev_rm d (w1.length - w.length) k1) (ev_Pc D G ad A vs w) (ev_Qc D G ad A rv w1) (w1.length - w.length) k1 A
theorem ev_blind {D : va_G} {G : Nat → ClassId} {ad : Nat → Nat} {A : Nat → Prop} {vs : List Value} {w : ev_W} : FrameBlind (ev_Pc D G ad A vs w) := by
  intro a U g mk h
  obtain ⟨ha, hH, hK, hAO, hNW, hZ, hA⟩ := h
  exact ⟨ha, hH, va_K.moved (u := U) (U := U.calling g mk a) (Vm.Alike.refl U.vm) hK, va_AO.moved (u := U) (U := U.calling g mk a) (Vm.Alike.refl U.vm) hAO, ev_NW.warm (s := U) (U := U.calling g mk a) (State.WarmedH.refl U) hNW, va_Z.moved (u := U) (U := U.calling g mk a) (Vm.Alike.refl U.vm) hZ, hA⟩
theorem ev_good {ws : List Cond} (h : ∀ w ∈ ws, w ∈ ev_gd) : GoodIn ev_gd ws := fun w hw => ⟨h w hw, good_of_word (List.mem_filter.mp (h w hw)).2⟩
theorem ev_push_eq {ad : Nat → Nat} {rv : Option Value} {S : List Value} : (ev_push rv S).map (ev_v ad) = (rv.map (ev_v ad)).toList ++ S.map (ev_v ad) := by cases rv <;> rfl
section CALLS
variable {p : Program} {l : Launch} {e : Env} {R : Room} {s : State} {m : MethodId} {args : Array Value} {below : List Frame} {meth : Method} {c : Code} {Q : State → Prop}
variable {cc : ByteArray} {nL : Nat} {own : String} {rt : Option FieldType} {D : va_G} {G : Nat → ClassId} {ad : Nat → Nat} {A : Nat → Prop} {z wE nE : Nat} {α : Type} {r : α} {P : Nat → List Value → List Value → ev_W → Nat → Prop} {pc q i idx : Nat}
theorem ev_callW {H : Heap} {locs : List Loc} {cells slots mc ms : Nat} {ls : Array Slot} {st0 rest : List Value} {rv : Option Value} {w1 : ev_W} {a0 : Array Value} (hr : va_Run p l e R s m args below meth c H locs cells slots mc ms (F0 m pc ls st0) rest (ev_Qc D G ad A rv w1 a0) A) (hS : va_S A s.heap H locs)
    (kk : ∀ H1 locs1, ev_H D G ad A w1 H1 → va_S A s.heap H1 locs1 → W p l e R s m args below meth c H1 locs1 (cells + mc) (slots + ms) Q (F0 m (pc + 3) ls ((rv.map (ev_v ad)).toList ++ rest))) : W p l e R s m args below meth c H locs cells slots Q (F0 m pc ls st0) := by
  intro T hT X
  obtain ⟨v, st₀, t, T', L, h0, X', hL, e1, e2, ⟨hv, hH, hz, hk⟩, st⟩ := hr T hT X
  cases hv
  rw [h0] at hz hk
  obtain ⟨t2, a1, b1⟩ := kk T'.heap (locs ++ L) (by rw [e1]; exact hH)
    ⟨Nat.le_trans hS.1 (by rw [e1]; exact hz), fun q h1 h2 => by rw [e1, hk q (Nat.lt_of_lt_of_le h1 hS.1) h2]; exact hS.2.1 q h1 h2, fun q hq => by
      rcases List.mem_append.mp hq with h | h
      · exact hS.2.2 q h
      · exact hL q h⟩ T' rfl X'
  exact ⟨t2, st t2 a1, b1⟩
theorem ev_callW5 {H : Heap} {locs : List Loc} {cells slots mc ms : Nat} {ls : Array Slot} {st0 rest : List Value} {rv : Option Value} {w1 : ev_W} {a0 : Array Value} (hr : va_Run5 p l e R s m args below meth c H locs cells slots mc ms (F0 m pc ls st0) rest (ev_Qc D G ad A rv w1 a0) A) (hS : va_S A s.heap H locs)
    (kk : ∀ H1 locs1, ev_H D G ad A w1 H1 → va_S A s.heap H1 locs1 → W p l e R s m args below meth c H1 locs1 (cells + mc) (slots + ms) Q (F0 m (pc + 5) ls ((rv.map (ev_v ad)).toList ++ rest))) : W p l e R s m args below meth c H locs cells slots Q (F0 m pc ls st0) := by
  intro T hT X
  obtain ⟨v, st₀, t, T', L, h0, X', hL, e1, e2, ⟨hv, hH, hz, hk⟩, st⟩ := hr T hT X
  cases hv
  rw [h0] at hz hk
  obtain ⟨t2, a1, b1⟩ := kk T'.heap (locs ++ L) (by rw [e1]; exact hH)
    ⟨Nat.le_trans hS.1 (by rw [e1]; exact hz), fun q h1 h2 => by rw [e1, hk q (Nat.lt_of_lt_of_le h1 hS.1) h2]; exact hS.2.1 q h1 h2, fun q hq => by
      rcases List.mem_append.mp hq with h | h
      · exact hS.2.2 q h
      · exact hL q h⟩ T' rfl X'
  exact ⟨t2, st t2 a1, b1⟩
/-- what a callee asks, where a caller stands -/
theorem ev_Bof (X : ev_X cc nL own rt p s m args meth c D G ad A z) {w : ev_W} {H : Heap} {locs : List Loc} (hH : ev_H D G ad A w H) (hS : va_S A s.heap H locs) {U : State} (hU : U.heap = H) (hW : s.WarmedH U.vm) : ev_B D G ad A w U := by
  obtain ⟨hx, hbb, hml, hown, hts, hK, hAO, hNW, hZ, hA, -⟩ := X
  refine ⟨by rw [hU]; exact hH, va_K.moved hW.alike hK, va_AO.moved hW.alike hAO, ev_NW.warm hW hNW, ?_, fun q hq => hA q (Nat.le_trans hS.1 (by rw [← hU]; exact hq))⟩
  rw [hU]
  exact (va_Z.moved hW.alike hZ).kept (fun a h1 h2 => hS.2.1 a h1 h2)
/-- a call by its run over the machine, whatever its kind -/
abbrev ev_Ru (p : Program) (l : Launch) (e : Env) (R : Room) (s : State) (m : MethodId) (args : Array Value) (below : List Frame) (meth : Method) (c : Code) (nL : Nat) (D : va_G) (G : Nat → ClassId) (ad : Nat → Nat) (A : Nat → Prop) (z : Nat) (pc : Nat) (d : Nat) (y : MethodName) (ws : List Cond) (as S' : List Value) (w : ev_W) (n : Nat) (H : Heap) (locs : List Loc) (ls : Array Slot) : Prop :=
  ∀ (w1 : ev_W) (rv : Option Value) (k1 : Nat), Met l y ws (ev_rm d (w1.length - w.length) k1) (ev_Pc D G ad A as w) (ev_Qc D G ad A rv w1) (w1.length - w.length) k1 A → w.length - z + (w1.length - w.length) ≤ R.cells ∧ n + k1 ≤ R.slots →
      va_Run p l e R s m args below meth c H locs (w.length - z) n (w1.length - w.length) k1 (F0 m pc ls ((as.reverse ++ S').map (ev_v ad))) (S'.map (ev_v ad)) (ev_Qc D G ad A rv w1 (as.map (ev_v ad)).toArray) A
theorem ok_inv {ys : List (MethodName × List Cond)} {d : Nat} {cf : Nat → List Value → ev_W → Option ev_R} (X : ev_X cc nL own rt p s m args meth c D G ad A z) (hP : ev_PP p l e R s m args below meth c Q nL D G ad A z wE nE P) (hR : wE - z ≤ R.cells ∧ nE ≤ R.slots) (hcf : ev_cf l ys d cf) {cal na : Nat} {y : MethodName} {ws : List Cond} (hy : ys[cal]? = some (y, ws))
    (run : ∀ (as S' : List Value) (w : ev_W) (n : Nat) (H : Heap) (locs : List Loc) (ls : Array Slot), as.length = na → S'.length ≤ 4 → ev_H D G ad A w H → ls.size = nL → va_S A s.heap H locs → ev_Ru p l e R s m args below meth c nL D G ad A z pc d y ws as S' w n H locs ls) (hq : pc + 3 = q) : ev_ok P r pc (ev_inv cf q cal na : ev_O α) := by
  subst hq
  intro k L S w n hk h
  obtain ⟨as, S', rfl, hna, h1⟩ := ev_pop_some _ _ _ _ h
  rw [List.append_nil] at h1
  obtain ⟨hb, h2⟩ := ev_bc_t h1
  obtain ⟨⟨rv, w1, k1⟩, hcall, h3⟩ := ev_oc_some h2
  rw [Nat.ble_eq, ev_len_eq] at hb
  obtain ⟨hlen, hMet⟩ := hcf _ _ _ _ _ _ hcall
  rw [hP]
  intro hz
  have hM := hMet y ws hy D G ad A z X.2.2.2.2.2.2.2.2.2.2.2.2 hz
  obtain ⟨hm, h4⟩ := (hP _ _ _ _ _).mp (hk _ _ _ _ _ h3) (Nat.le_trans hz hlen)
  have hm1 : w1.length ≤ wE := hm.1
  have hm2 : n + k1 ≤ nE := hm.2
  refine ⟨⟨Nat.le_trans hlen hm1, by omega⟩, fun H locs ls hH hl' hS => ?_⟩
  refine ev_callW (run as S' w n H locs ls hna hb hH hl'.1 hS w1 rv k1 hM ⟨by omega, by omega⟩) hS fun H1 locs1 hH1 hS1 => ?_
  have h5 := h4 H1 locs1 ls hH1 hl' hS1
  rw [ev_push_eq] at h5
  have e : w.length - z + (w1.length - w.length) = w1.length - z := by omega
  rw [e]
  exact h5
theorem ok_invS {ys : List (MethodName × List Cond)} {d : Nat} {cf : Nat → List Value → ev_W → Option ev_R} (X : ev_X cc nL own rt p s m args meth c D G ad A z) (hP : ev_PP p l e R s m args below meth c Q nL D G ad A z wE nE P) (hR : wE - z ≤ R.cells ∧ nE ≤ R.slots) (hd2 : d + 3 ≤ R.frames ∧ 64 * (d + 3) ≤ R.locals) (hcf : ev_cf l ys d cf) {cal na : Nat} {y : MethodName} {bytes : ByteArray} {maxL : Nat} {ret : Option FieldType} (hy : ys[cal]? = some (y, Cond.code y bytes maxL ret :: ev_gd)) (hd : decode cc pc = .ok (.invokestatic idx, 3)) (h1 : Cond.code y bytes maxL ret ∈ ev_gd) (h2 : Cond.methodLink own idx y ∈ ev_gd) (h3 : Cond.static y ∈ ev_gd) (h4 : Cond.initialized y.cls ∈ ev_gd)
    (hdn : y.cls ≠ "java/lang/invoke/MethodHandle" ∧ y.cls ≠ "java/lang/invoke/VarHandle" ∧ (parseMethodDescriptor y.desc).map (fun d => d.parameters.length) = some na) (hm : maxL ≤ 45) (hq : pc + 3 = q) : ev_ok P r pc (ev_inv cf q cal na : ev_O α) := by
  refine ok_inv X hP hR hcf hy (fun as S' w n H locs ls hna hS' hH hls hS w1 rv k1 hM hbud => ?_) hq
  obtain ⟨hx, hbb, hml, hown, hts, -⟩ := id X
  refine va_runS ⟨hx, hbb, hml, hown, hts⟩ hM (va_cwS na hts (ev_good fun w hw => ?_) rfl rfl rfl hdn ⟨hd2.1, ?_⟩) ⟨ev_blind, fun U hU hW => ⟨rfl, ev_Bof X hH hS hU hW⟩⟩ rfl (by rw [List.length_map]; exact hna) hls (by rw [List.map_append, List.map_reverse]) (lv_room (ev_sum hS')) hd hbud
  · unfold va_wsS at hw
    rcases List.mem_append.mp hw with hw | hw
    · simp at hw
      rcases hw with rfl | rfl | rfl
      · exact h2
      · exact h3
      · exact h4
    · rcases List.mem_cons.mp hw with rfl | hw
      · exact h1
      · exact hw
  · show 8 + (maxL + 11) + 64 * (d + 2) ≤ R.locals
    omega
theorem ok_invSW {ys : List (MethodName × List Cond)} {d : Nat} {cf : Nat → List Value → ev_W → Option ev_R} (X : ev_X cc nL own rt p s m args meth c D G ad A z) (hP : ev_PP p l e R s m args below meth c Q nL D G ad A z wE nE P) (hR : wE - z ≤ R.cells ∧ nE ≤ R.slots) (hd2 : d + 3 ≤ R.frames ∧ 64 * (d + 3) ≤ R.locals) (hcf : ev_cf l ys d cf) {cal na : Nat} {y : MethodName} {bytes : ByteArray} {maxL : Nat} {ret : Option FieldType} {hh : List (Nat × Nat × Nat × Nat)} (hy : ys[cal]? = some (y, Cond.codeWith y bytes maxL ret hh :: ev_gd)) (hd : decode cc pc = .ok (.invokestatic idx, 3)) (h1 : Cond.codeWith y bytes maxL ret hh ∈ ev_gd) (h2 : Cond.methodLink own idx y ∈ ev_gd) (h3 : Cond.static y ∈ ev_gd) (h4 : Cond.initialized y.cls ∈ ev_gd)
    (hdn : y.cls ≠ "java/lang/invoke/MethodHandle" ∧ y.cls ≠ "java/lang/invoke/VarHandle" ∧ (parseMethodDescriptor y.desc).map (fun d => d.parameters.length) = some na) (hm : maxL ≤ 45) (hq : pc + 3 = q) : ev_ok P r pc (ev_inv cf q cal na : ev_O α) := by
  refine ok_inv X hP hR hcf hy (fun as S' w n H locs ls hna hS' hH hls hS w1 rv k1 hM hbud => ?_) hq
  obtain ⟨hx, hbb, hml, hown, hts, -⟩ := id X
  refine vx_runSW ⟨hx, hbb, hml, hown, hts⟩ hM (vx_cwSW na hts (ev_good fun w hw => ?_) rfl rfl rfl hdn ⟨hd2.1, ?_⟩) ⟨ev_blind, fun U hU hW => ⟨rfl, ev_Bof X hH hS hU hW⟩⟩ rfl (by rw [List.length_map]; exact hna) hls (by rw [List.map_append, List.map_reverse]) (lv_room (ev_sum hS')) hd hbud
  · unfold va_wsS at hw
    rcases List.mem_append.mp hw with hw | hw
    · simp at hw
      rcases hw with rfl | rfl | rfl
      · exact h2
      · exact h3
      · exact h4
    · rcases List.mem_cons.mp hw with rfl | hw
      · exact h1
      · exact hw
  · show 8 + (maxL + 11) + 64 * (d + 2) ≤ R.locals
    omega
theorem ok_invSN {ys : List (MethodName × List Cond)} {d : Nat} {cf : Nat → List Value → ev_W → Option ev_R} (X : ev_X cc nL own rt p s m args meth c D G ad A z) (hP : ev_PP p l e R s m args below meth c Q nL D G ad A z wE nE P) (hR : wE - z ≤ R.cells ∧ nE ≤ R.slots) (hd2 : d + 3 ≤ R.frames ∧ 64 * (d + 3) ≤ R.locals) (hcf : ev_cf l ys d cf) {cal na : Nat} {y : MethodName} {host : String} {bytes : ByteArray} {maxL : Nat} {ret : Option FieldType} (hy : ys[cal]? = some (y, Cond.code y bytes maxL ret :: ev_gd)) (hd : decode cc pc = .ok (.invokestatic idx, 3)) (h1 : Cond.code y bytes maxL ret ∈ ev_gd) (h2 : Cond.methodLinkNest own idx y host ∈ ev_nw) (h3 : Cond.static y ∈ ev_gd) (h4 : Cond.initialized y.cls ∈ ev_gd)
    (hdn : y.cls ≠ "java/lang/invoke/MethodHandle" ∧ y.cls ≠ "java/lang/invoke/VarHandle" ∧ (parseMethodDescriptor y.desc).map (fun d => d.parameters.length) = some na) (hm : maxL ≤ 45) (hq : pc + 3 = q) : ev_ok P r pc (ev_inv cf q cal na : ev_O α) := by
  refine ok_inv X hP hR hcf hy (fun as S' w n H locs ls hna hS' hH hls hS w1 rv k1 hM hbud => ?_) hq
  obtain ⟨hx, hbb, hml, hown, hts, hK, hAO, hNW, -⟩ := id X
  refine va_runSN ⟨hx, hbb, hml, hown, hts⟩ hM ⟨va_cnB na hts (ev_good fun w hw => ?_) rfl rfl rfl (hNW.1 _ h2) (hts _ h4) hdn ⟨hd2.1, ?_⟩, hts _ h3, trivial⟩ ⟨ev_blind, fun U hU hW => ⟨rfl, ev_Bof X hH hS hU hW⟩⟩ rfl (by rw [List.length_map]; exact hna) hls (by rw [List.map_append, List.map_reverse]) (lv_room (ev_sum hS')) hd hbud
  · rcases List.mem_cons.mp hw with rfl | hw
    · exact h1
    · exact hw
  · show 8 + (maxL + 11) + 64 * (d + 2) ≤ R.locals
    omega
/-- the receiver is the deepest of the arguments -/
theorem ev_recv_split {as : List Value} {na : Nat} (h : as.length = na + 1) : ∃ v as', as = v :: as' ∧ as'.length = na := by
  cases as with
  | nil => simp at h
  | cons v as' => exact ⟨v, as', rfl, by simpa using h⟩
theorem ok_inr0 {ys : List (MethodName × List Cond)} {d : Nat} {cf : Nat → List Value → ev_W → Option ev_R} (X : ev_X cc nL own rt p s m args meth c D G ad A z) (hP : ev_PP p l e R s m args below meth c Q nL D G ad A z wE nE P) (hR : wE - z ≤ R.cells ∧ nE ≤ R.slots) (hcf : ev_cf l ys d cf) {cal na ci : Nat} {y : MethodName} {ws : List Cond} (hy : ys[cal]? = some (y, ws)) (len : Nat)
    (go : ∀ (a : Nat) (as' S' : List Value) (w : ev_W) (n : Nat) (H : Heap) (locs : List Loc) (ls : Array Slot) (c0 : ev_Q) (w1 : ev_W) (rv : Option Value) (k1 : Nat), as'.length + 1 = na → S'.length ≤ 4 → w[a]? = some c0 → Nat.beq c0.1 (ci + 3) = true → ev_H D G ad A w H → ls.size = nL → va_S A s.heap H locs → Met l y ws (ev_rm d (w1.length - w.length) k1) (ev_Pc D G ad A (.ref a :: as') w) (ev_Qc D G ad A rv w1) (w1.length - w.length) k1 A → w.length - z + (w1.length - w.length) ≤ R.cells ∧ n + k1 ≤ R.slots →
      (∀ H1 locs1, ev_H D G ad A w1 H1 → va_S A s.heap H1 locs1 → W p l e R s m args below meth c H1 locs1 (w.length - z + (w1.length - w.length)) (n + k1) Q (F0 m (pc + len) ls ((rv.map (ev_v ad)).toList ++ S'.map (ev_v ad)))) → W p l e R s m args below meth c H locs (w.length - z) n Q (F0 m pc ls (((.ref a :: as').reverse ++ S').map (ev_v ad)))) : ev_ok P r pc (ev_inr cf (pc + len) cal na ci : ev_O α) := by
  intro k L S w n hk h
  obtain ⟨as, S', rfl, hna, h1⟩ := ev_pop_some _ _ _ _ h
  rw [List.append_nil] at h1
  obtain ⟨v, as', rfl, h2⟩ := ev_lc_some h1
  obtain ⟨a, rfl, h3⟩ := ev_rc_some (v := v) h2
  obtain ⟨c0, hc0, h4⟩ := ev_oc_some h3
  obtain ⟨hb, h5⟩ := ev_bc_t h4
  obtain ⟨⟨rv, w1, k1⟩, hcall, h6⟩ := ev_oc_some h5
  rw [ev_at_eq] at hc0
  rw [Bool.and_eq_true, Nat.ble_eq, ev_len_eq] at hb
  obtain ⟨hlen, hMet⟩ := hcf _ _ _ _ _ _ hcall
  rw [hP]
  intro hz
  have hM := hMet y ws hy D G ad A z X.2.2.2.2.2.2.2.2.2.2.2.2 hz
  obtain ⟨hm, h7⟩ := (hP _ _ _ _ _).mp (hk _ _ _ _ _ h6) (Nat.le_trans hz hlen)
  have hm1 : w1.length ≤ wE := hm.1
  have hm2 : n + k1 ≤ nE := hm.2
  refine ⟨⟨Nat.le_trans hlen hm1, by omega⟩, fun H locs ls hH hl' hS => ?_⟩
  refine go a as' S' w n H locs ls c0 w1 rv k1 (by simpa using hna) hb.2 hc0 hb.1 hH hl'.1 hS hM ⟨by omega, by omega⟩ fun H1 locs1 hH1 hS1 => ?_
  have h8 := h7 H1 locs1 ls hH1 hl' hS1
  rw [ev_push_eq] at h8
  have e : w.length - z + (w1.length - w.length) = w1.length - z := by omega
  rw [e]
  exact h8
theorem ok_invV {ys : List (MethodName × List Cond)} {d : Nat} {cf : Nat → List Value → ev_W → Option ev_R} (X : ev_X cc nL own rt p s m args meth c D G ad A z) (hP : ev_PP p l e R s m args below meth c Q nL D G ad A z wE nE P) (hR : wE - z ≤ R.cells ∧ nE ≤ R.slots) (hd2 : d + 3 ≤ R.frames ∧ 64 * (d + 3) ≤ R.locals) (hcf : ev_cf l ys d cf) {cal na ci : Nat} {y : MethodName} {bytes : ByteArray} {maxL : Nat} {ret : Option FieldType} {C : vw_C} (hy : ys[cal]? = some (y, Cond.code y bytes maxL ret :: ev_gd)) (hc : vwCl[ci]? = some C) (hd : decode cc pc = .ok (.invokevirtual idx, 3)) (h1 : Cond.code y bytes maxL ret ∈ ev_gd) (h2 : Cond.methodLink own idx y ∈ ev_gd) (h3 : Cond.instanceMethod y ∈ ev_gd) (h4 : Cond.selects C.1 y y ∈ ev_gd) (h5 : Cond.initialized C.1 ∈ ev_gd)
    (hdn : y.cls = C.1 ∧ y.cls ≠ "java/lang/invoke/MethodHandle" ∧ y.cls ≠ "java/lang/invoke/VarHandle" ∧ (parseMethodDescriptor y.desc).map (fun d => d.parameters.length) = some na) (hm : maxL ≤ 45) (hq : pc + 3 = q) : ev_ok P r pc (ev_inr cf q cal (na + 1) ci : ev_O α) := by
  subst hq
  refine ok_inr0 X hP hR hcf hy 3 fun a as' S' w n H locs ls c0 w1 rv k1 hna hS' hc0 hb hH hls hS hM hbud kk => ?_
  obtain ⟨hx, hbb, hml, hown, hts, hK, -⟩ := id X
  refine ev_callW (va_runV (As := as'.map (ev_v ad)) (rest := S'.map (ev_v ad)) (b := ad a) ⟨hx, hbb, hml, hown, hts⟩ hM (cwV na hts (ev_good fun w hw => ?_) rfl rfl rfl hdn ⟨hd2.1, ?_⟩) ⟨ev_blind, va_recv hK hH.1 hc (ev_obj_at (G := G) (ad := ad) hc0 hb), fun U hU hW => ⟨rfl, ev_Bof X hH hS hU hW⟩⟩ rfl (by rw [List.length_map]; omega) hls (by simp [ev_v]) (lv_room (ev_sum hS')) hd hbud) hS kk
  · unfold wsV at hw
    rcases List.mem_append.mp hw with hw | hw
    · simp at hw
      rcases hw with rfl | rfl | rfl | rfl
      · exact h2
      · exact h3
      · exact h4
      · exact h5
    · rcases List.mem_cons.mp hw with rfl | hw
      · exact h1
      · exact hw
  · show 8 + (maxL + 11) + 64 * (d + 2) ≤ R.locals
    omega
theorem ok_invF {ys : List (MethodName × List Cond)} {d cnt : Nat} {cf : Nat → List Value → ev_W → Option ev_R} (X : ev_X cc nL own rt p s m args meth c D G ad A z) (hP : ev_PP p l e R s m args below meth c Q nL D G ad A z wE nE P) (hR : wE - z ≤ R.cells ∧ nE ≤ R.slots) (hd2 : d + 3 ≤ R.frames ∧ 64 * (d + 3) ≤ R.locals) (hcf : ev_cf l ys d cf) {cal na ci : Nat} {x y : MethodName} {bytes : ByteArray} {maxL : Nat} {ret : Option FieldType} {C : vw_C} (hy : ys[cal]? = some (y, Cond.code y bytes maxL ret :: ev_gd)) (hc : vwCl[ci]? = some C) (hd : decode cc pc = .ok (.invokeinterface idx cnt, 5)) (h1 : Cond.code y bytes maxL ret ∈ ev_gd) (h2 : Cond.methodLink own idx x ∈ ev_gd) (h3 : Cond.selects C.1 x y ∈ ev_gd) (h4 : Cond.instanceMethod y ∈ ev_gd) (h5 : Cond.initialized y.cls ∈ ev_gd) (h6 : (C.1, x, y) ∈ ev_fw)
    (hdn : x.cls ≠ "java/lang/invoke/MethodHandle" ∧ x.cls ≠ "java/lang/invoke/VarHandle" ∧ (parseMethodDescriptor x.desc).map (fun d => d.parameters.length) = some na) (hm : maxL ≤ 45) (hq : pc + 5 = q) : ev_ok P r pc (ev_inr cf q cal (na + 1) ci : ev_O α) := by
  subst hq
  refine ok_inr0 X hP hR hcf hy 5 fun a as' S' w n H locs ls c0 w1 rv k1 hna hS' hc0 hb hH hls hS hM hbud kk => ?_
  obtain ⟨hx, hbb, hml, hown, hts, hK, hAO, hNW, -⟩ := id X
  refine ev_callW5 (va_runF (As := as'.map (ev_v ad)) (rest := S'.map (ev_v ad)) (b := ad a) (hK.1 ci _ hc).2 ⟨hx, hbb, hml, hown, hts⟩ hM (va_cwF na hts (ev_good fun w hw => ?_) rfl rfl rfl (hNW.2.1 _ h6) hdn ⟨hd2.1, ?_⟩) ⟨ev_blind, va_recv hK hH.1 hc (ev_obj_at (G := G) (ad := ad) hc0 hb), fun U hU hW => ⟨rfl, ev_Bof X hH hS hU hW⟩⟩ rfl (by rw [List.length_map]; omega) hls (by simp [ev_v]) (lv_room (ev_sum hS')) hd hbud) hS kk
  · unfold va_wsF at hw
    rcases List.mem_append.mp hw with hw | hw
    · simp at hw
      rcases hw with rfl | rfl | rfl | rfl
      · exact h2
      · exact h3
      · exact h4
      · exact h5
    · rcases List.mem_cons.mp hw with rfl | hw
      · exact h1
      · exact hw
  · show 8 + (maxL + 11) + 64 * (d + 2) ≤ R.locals
    omega
/-- constructors: the receiver lies deepest, and is a cell's place -/
theorem ok_inv1 {ys : List (MethodName × List Cond)} {d : Nat} {cf : Nat → List Value → ev_W → Option ev_R} (X : ev_X cc nL own rt p s m args meth c D G ad A z) (hP : ev_PP p l e R s m args below meth c Q nL D G ad A z wE nE P) (hR : wE - z ≤ R.cells ∧ nE ≤ R.slots) (hcf : ev_cf l ys d cf) {cal na : Nat} {y : MethodName} {ws : List Cond} (hy : ys[cal]? = some (y, ws))
    (run : ∀ (a : Nat) (as' S' : List Value) (w : ev_W) (n : Nat) (H : Heap) (locs : List Loc) (ls : Array Slot), as'.length = na → S'.length ≤ 4 → ev_H D G ad A w H → ls.size = nL → va_S A s.heap H locs → ev_Ru p l e R s m args below meth c nL D G ad A z pc d y ws (.ref a :: as') S' w n H locs ls) (hq : pc + 3 = q) : ev_ok P r pc (ev_ini cf q cal (na + 1) : ev_O α) := by
  subst hq
  intro k L S w n hk h
  obtain ⟨as, S', rfl, hna, h1⟩ := ev_pop_some _ _ _ _ h
  rw [List.append_nil] at h1
  obtain ⟨v, as', rfl, h2⟩ := ev_lc_some h1
  obtain ⟨a, rfl, h3⟩ := ev_rc_some (v := v) h2
  obtain ⟨hb, h5⟩ := ev_bc_t h3
  obtain ⟨⟨rv, w1, k1⟩, hcall, h6⟩ := ev_oc_some h5
  rw [Nat.ble_eq, ev_len_eq] at hb
  obtain ⟨hlen, hMet⟩ := hcf _ _ _ _ _ _ hcall
  rw [hP]
  intro hz
  have hM := hMet y ws hy D G ad A z X.2.2.2.2.2.2.2.2.2.2.2.2 hz
  obtain ⟨hm, h7⟩ := (hP _ _ _ _ _).mp (hk _ _ _ _ _ h6) (Nat.le_trans hz hlen)
  have hm1 : w1.length ≤ wE := hm.1
  have hm2 : n + k1 ≤ nE := hm.2
  refine ⟨⟨Nat.le_trans hlen hm1, by omega⟩, fun H locs ls hH hl' hS => ?_⟩
  refine ev_callW (run a as' S' w n H locs ls (by simpa using hna) hb hH hl'.1 hS w1 rv k1 hM ⟨by omega, by omega⟩) hS fun H1 locs1 hH1 hS1 => ?_
  have h8 := h7 H1 locs1 ls hH1 hl' hS1
  rw [ev_push_eq] at h8
  have e : w.length - z + (w1.length - w.length) = w1.length - z := by omega
  rw [e]
  exact h8
theorem ok_invI {ys : List (MethodName × List Cond)} {d : Nat} {cf : Nat → List Value → ev_W → Option ev_R} (X : ev_X cc nL own rt p s m args meth c D G ad A z) (hP : ev_PP p l e R s m args below meth c Q nL D G ad A z wE nE P) (hR : wE - z ≤ R.cells ∧ nE ≤ R.slots) (hd2 : d + 3 ≤ R.frames ∧ 64 * (d + 3) ≤ R.locals) (hcf : ev_cf l ys d cf) {cal na : Nat} {y : MethodName} {bytes : ByteArray} {maxL : Nat} (hy : ys[cal]? = some (y, Cond.code y bytes maxL none :: ev_gd)) (hd : decode cc pc = .ok (.invokespecial idx, 3)) (h1 : Cond.code y bytes maxL none ∈ ev_gd) (h2 : Cond.methodLink own idx y ∈ ev_gd) (h3 : Cond.instanceMethod y ∈ ev_gd) (h4 : Cond.initialized y.cls ∈ ev_gd) (hy1 : y.name = "<init>")
    (hdn : y.cls ≠ "java/lang/invoke/MethodHandle" ∧ y.cls ≠ "java/lang/invoke/VarHandle" ∧ (parseMethodDescriptor y.desc).map (fun d => d.parameters.length) = some na) (hm : maxL ≤ 45) (hq : pc + 3 = q) : ev_ok P r pc (ev_ini cf q cal (na + 1) : ev_O α) := by
  refine ok_inv1 X hP hR hcf hy (fun a as' S' w n H locs ls hna hS' hH hls hS w1 rv k1 hM hbud => ?_) hq
  obtain ⟨hx, hbb, hml, hown, hts, -⟩ := id X
  refine va_runI (As := as'.map (ev_v ad)) (rest := S'.map (ev_v ad)) (b := ad a) ⟨hx, hbb, hml, hown, hts⟩ hM (cwI na hts (ev_good fun w hw => ?_) rfl rfl rfl (hts _ h4) (hts _ h2) (hts _ h3) hy1 hdn ⟨hd2.1, ?_⟩) ⟨ev_blind, fun U hU hW => ⟨rfl, ev_Bof X hH hS hU hW⟩⟩ rfl (by rw [List.length_map]; exact hna) hls (by simp [ev_v]) (lv_room (ev_sum hS')) hd hbud
  · rcases List.mem_cons.mp hw with rfl | hw
    · exact h1
    · exact hw
  · show 8 + (maxL + 11) + 64 * (d + 2) ≤ R.locals
    omega
theorem ok_invIN {ys : List (MethodName × List Cond)} {d : Nat} {cf : Nat → List Value → ev_W → Option ev_R} (X : ev_X cc nL own rt p s m args meth c D G ad A z) (hP : ev_PP p l e R s m args below meth c Q nL D G ad A z wE nE P) (hR : wE - z ≤ R.cells ∧ nE ≤ R.slots) (hd2 : d + 3 ≤ R.frames ∧ 64 * (d + 3) ≤ R.locals) (hcf : ev_cf l ys d cf) {cal na : Nat} {y : MethodName} {host : String} {bytes : ByteArray} {maxL : Nat} (hy : ys[cal]? = some (y, Cond.code y bytes maxL none :: ev_gd)) (hd : decode cc pc = .ok (.invokespecial idx, 3)) (h1 : Cond.code y bytes maxL none ∈ ev_gd) (h2 : Cond.methodLinkNest own idx y host ∈ ev_nw) (h3 : Cond.instanceMethod y ∈ ev_gd) (h4 : Cond.initialized y.cls ∈ ev_gd) (hy1 : y.name = "<init>")
    (hdn : y.cls ≠ "java/lang/invoke/MethodHandle" ∧ y.cls ≠ "java/lang/invoke/VarHandle" ∧ (parseMethodDescriptor y.desc).map (fun d => d.parameters.length) = some na) (hm : maxL ≤ 45) (hq : pc + 3 = q) : ev_ok P r pc (ev_ini cf q cal (na + 1) : ev_O α) := by
  refine ok_inv1 X hP hR hcf hy (fun a as' S' w n H locs ls hna hS' hH hls hS w1 rv k1 hM hbud => ?_) hq
  obtain ⟨hx, hbb, hml, hown, hts, hK, hAO, hNW, -⟩ := id X
  refine va_runIN (As := as'.map (ev_v ad)) (rest := S'.map (ev_v ad)) (b := ad a) ⟨hx, hbb, hml, hown, hts⟩ hM ⟨va_cnB na hts (ev_good fun w hw => ?_) rfl rfl rfl (hNW.1 _ h2) (hts _ h4) hdn ⟨hd2.1, ?_⟩, hy1, hts _ h3⟩ ⟨ev_blind, fun U hU hW => ⟨rfl, ev_Bof X hH hS hU hW⟩⟩ rfl (by rw [List.length_map]; exact hna) hls (by simp [ev_v]) (lv_room (ev_sum hS')) hd hbud
  · rcases List.mem_cons.mp hw with rfl | hw
    · exact h1
    · exact hw
  · show 8 + (maxL + 11) + 64 * (d + 2) ≤ R.locals
    omega
end CALLS
end
section
/-! the evaluator's worlds only grow -/
abbrev ev_Pm (wE nE : Nat) : Nat → List Value → List Value → ev_W → Nat → Prop := fun _ _ _ w n => w.length ≤ wE ∧ n ≤ nE
section MO
variable {α : Type} {r : α} {wE nE pc p q i t ci kf tq : Nat}
theorem mo_use {k : ev_G α} (hk : ∀ pc' L' S' w' n', k pc' L' S' w' n' = some r → ev_Pm wE nE pc' L' S' w' n') {pc' : Nat} {L' S' : List Value} {w' : ev_W} {n' : Nat} (h : k pc' L' S' w' n' = some r) : w'.length ≤ wE ∧ n' ≤ nE := hk _ _ _ _ _ h
theorem mo_no : ev_ok (ev_Pm wE nE) r pc (ev_no : ev_O α) := fun k L S w n _ h => by cases h
theorem mo_psh {v : Value} : ev_ok (ev_Pm wE nE) r pc (ev_psh p v) := fun k L S w n hk h => mo_use hk h
theorem mo_ild : ev_ok (ev_Pm wE nE) r pc (ev_ild p i) := fun k L S w n hk h => by
  obtain ⟨v, -, h⟩ := ev_oc_some h
  obtain ⟨x, -, h⟩ := ev_ic_some h
  exact mo_use hk h
theorem mo_ald : ev_ok (ev_Pm wE nE) r pc (ev_ald p i) := fun k L S w n hk h => by
  obtain ⟨v, -, h⟩ := ev_oc_some h
  exact mo_use hk (ev_pc_some h).2
theorem mo_ist : ev_ok (ev_Pm wE nE) r pc (ev_ist p i) := fun k L S w n hk h => by
  obtain ⟨v, S', -, h⟩ := ev_lc_some h
  obtain ⟨x, -, h⟩ := ev_ic_some h
  exact mo_use hk h
theorem mo_ast : ev_ok (ev_Pm wE nE) r pc (ev_ast p i) := fun k L S w n hk h => by
  obtain ⟨v, S', -, h⟩ := ev_lc_some h
  exact mo_use hk (ev_pc_some h).2
theorem mo_inc {c : Int32} : ev_ok (ev_Pm wE nE) r pc (ev_inc p i c) := fun k L S w n hk h => by
  obtain ⟨v, -, h⟩ := ev_oc_some h
  obtain ⟨x, -, h⟩ := ev_ic_some h
  exact mo_use hk h
theorem mo_dup : ev_ok (ev_Pm wE nE) r pc (ev_dup p) := fun k L S w n hk h => by
  obtain ⟨v, S', -, h⟩ := ev_lc_some h
  exact mo_use hk (ev_c1_some h).2
theorem mo_dx1 : ev_ok (ev_Pm wE nE) r pc (ev_dx1 p) := fun k L S w n hk h => by
  obtain ⟨v, S1, -, h⟩ := ev_lc_some h
  obtain ⟨u, S', -, h⟩ := ev_lc_some (l := S1) h
  exact mo_use hk (ev_c1_some (ev_c1_some h).2).2
theorem mo_drop : ev_ok (ev_Pm wE nE) r pc (ev_drop p) := fun k L S w n hk h => by
  obtain ⟨v, S', -, h⟩ := ev_lc_some h
  exact mo_use hk (ev_c1_some h).2
theorem mo_bin {f : Int32 → Int32 → Int32} : ev_ok (ev_Pm wE nE) r pc (ev_bin p f) := fun k L S w n hk h => by
  obtain ⟨v, S1, -, h⟩ := ev_lc_some h
  obtain ⟨u, S', -, h⟩ := ev_lc_some (l := S1) h
  obtain ⟨y, -, h⟩ := ev_ic_some (v := v) h
  obtain ⟨x, -, h⟩ := ev_ic_some (v := u) h
  exact mo_use hk h
theorem mo_div {f : Int32 → Int32 → Int32} : ev_ok (ev_Pm wE nE) r pc (ev_div p f) := fun k L S w n hk h => by
  obtain ⟨v, S1, -, h⟩ := ev_lc_some h
  obtain ⟨u, S', -, h⟩ := ev_lc_some (l := S1) h
  obtain ⟨y, -, h⟩ := ev_ic_some (v := v) h
  obtain ⟨x, -, h⟩ := ev_ic_some (v := u) h
  rcases ev_bc_some h with ⟨-, h⟩ | ⟨-, h⟩
  · cases h
  · exact mo_use hk h
theorem mo_mx : ev_ok (ev_Pm wE nE) r pc (ev_mx p) := fun k L S w n hk h => by
  obtain ⟨v, S1, -, h⟩ := ev_lc_some h
  obtain ⟨u, S', -, h⟩ := ev_lc_some (l := S1) h
  obtain ⟨y, -, h⟩ := ev_ic_some (v := v) h
  obtain ⟨x, -, h⟩ := ev_ic_some (v := u) h
  exact mo_use hk (ev_bc_t h).2
theorem mo_cmp {f : Int32 → Int32 → Bool} : ev_ok (ev_Pm wE nE) r pc (ev_cmp p t f) := fun k L S w n hk h => by
  obtain ⟨v, S1, -, h⟩ := ev_lc_some h
  obtain ⟨u, S', -, h⟩ := ev_lc_some (l := S1) h
  obtain ⟨y, -, h⟩ := ev_ic_some (v := v) h
  obtain ⟨x, -, h⟩ := ev_ic_some (v := u) h
  rcases ev_bc_some h with ⟨-, h⟩ | ⟨-, h⟩ <;> exact mo_use hk h
theorem mo_cm0 {f : Int32 → Bool} : ev_ok (ev_Pm wE nE) r pc (ev_cm0 p t f) := fun k L S w n hk h => by
  obtain ⟨v, S', -, h⟩ := ev_lc_some h
  obtain ⟨x, -, h⟩ := ev_ic_some (v := v) h
  rcases ev_bc_some h with ⟨-, h⟩ | ⟨-, h⟩ <;> exact mo_use hk h
theorem mo_acm : ev_ok (ev_Pm wE nE) r pc (ev_acm p q) := fun k L S w n hk h => by
  obtain ⟨v, S1, -, h⟩ := ev_lc_some h
  obtain ⟨u, S', -, h⟩ := ev_lc_some (l := S1) h
  have h2 : ∃ a, ev_rn u (fun b => ev_bc (Nat.beq b a) (k p L S' w n) (ev_pl w a (ev_pl w b (k q L S' w n)))) = some r := by
    rcases ev_rn_some (v := v) h with ⟨-, h⟩ | ⟨x, -, h⟩ <;> exact ⟨_, h⟩
  obtain ⟨a, h2⟩ := h2
  have h3 : ∃ b, ev_bc (Nat.beq b a) (k p L S' w n) (ev_pl w a (ev_pl w b (k q L S' w n))) = some r := by
    rcases ev_rn_some (v := u) h2 with ⟨-, h⟩ | ⟨x, -, h⟩ <;> exact ⟨_, h⟩
  obtain ⟨b, h3⟩ := h3
  rcases ev_bc_some h3 with ⟨-, h⟩ | ⟨-, h⟩
  · exact mo_use hk h
  · exact mo_use hk (ev_pl_some (ev_pl_some h).1).1
theorem mo_jmp : ev_ok (ev_Pm wE nE) r pc (ev_jmp t) := fun k L S w n hk h => mo_use hk h
theorem mo_aln : ev_ok (ev_Pm wE nE) r pc (ev_aln p) := fun k L S w n hk h => by
  obtain ⟨v, S', -, h⟩ := ev_lc_some h
  obtain ⟨a, -, h⟩ := ev_rc_some (v := v) h
  obtain ⟨c, -, h⟩ := ev_oc_some h
  exact mo_use hk (ev_bc_t h).2
theorem mo_get : ev_ok (ev_Pm wE nE) r pc (ev_get p ci kf) := fun k L S w n hk h => by
  obtain ⟨v, S', -, h⟩ := ev_lc_some h
  obtain ⟨a, -, h⟩ := ev_rc_some (v := v) h
  obtain ⟨c, -, h⟩ := ev_oc_some h
  obtain ⟨u, -, h⟩ := ev_oc_some (ev_bc_t h).2
  exact mo_use hk h
theorem mo_ldi : ev_ok (ev_Pm wE nE) r pc (ev_ldi p t) := fun k L S w n hk h => by
  obtain ⟨v, S1, -, h⟩ := ev_lc_some h
  obtain ⟨u, S', -, h⟩ := ev_lc_some (l := S1) h
  obtain ⟨y, -, h⟩ := ev_ic_some (v := v) h
  obtain ⟨a, -, h⟩ := ev_rc_some (v := u) h
  obtain ⟨c, -, h⟩ := ev_oc_some h
  obtain ⟨u, -, h⟩ := ev_oc_some (ev_bc_t h).2
  obtain ⟨x, -, h⟩ := ev_ic_some (v := u) h
  exact mo_use hk h
theorem mo_ldq : ev_ok (ev_Pm wE nE) r pc (ev_ldq p) := fun k L S w n hk h => by
  obtain ⟨v, S1, -, h⟩ := ev_lc_some h
  obtain ⟨u, S', -, h⟩ := ev_lc_some (l := S1) h
  obtain ⟨y, -, h⟩ := ev_ic_some (v := v) h
  obtain ⟨a, -, h⟩ := ev_rc_some (v := u) h
  obtain ⟨c, -, h⟩ := ev_oc_some h
  obtain ⟨u, -, h⟩ := ev_oc_some (ev_bc_t h).2
  exact mo_use hk (ev_pc_some h).2
theorem mo_sti {g : Int32 → Int32} : ev_ok (ev_Pm wE nE) r pc (ev_sti p t g) := fun k L S w n hk h => by
  obtain ⟨x, i, a, S', c0, -, -, -, -, h⟩ := ev_sti_some h
  have := mo_use hk h
  rw [List.length_set] at this
  exact this
theorem mo_stq : ev_ok (ev_Pm wE nE) r pc (ev_stq p t) := fun k L S w n hk h => by
  obtain ⟨y, S0, -, h⟩ := ev_lc_some h
  obtain ⟨v, S1, -, h⟩ := ev_lc_some (l := S0) h
  obtain ⟨u, S', -, h⟩ := ev_lc_some (l := S1) h
  obtain ⟨i, -, h⟩ := ev_ic_some (v := v) h
  obtain ⟨a, -, h⟩ := ev_rc_some (v := u) h
  obtain ⟨c, -, h⟩ := ev_oc_some h
  obtain ⟨-, h⟩ := ev_bc_t h
  have h2 : k p L S' (ev_set w a (c.1, c.2.1, ev_set c.2.2 (ev_bits i) y)) n = some r := by
    rcases ev_rn_some (v := y) h with ⟨-, h⟩ | ⟨x, -, h⟩
    · exact h
    · obtain ⟨d, -, h⟩ := ev_oc_some (show ev_oc (ev_at w x) _ = some r from h)
      exact (ev_bc_t h).2
  have := mo_use hk h2
  rw [ev_set_eq, List.length_set] at this
  exact this
theorem mo_fit {q : Nat} {v : Value} {y : Option α} (h : ev_fit q v y = some r) : y = some r := by
  match q, h with
  | 0, h =>
    obtain ⟨x, -, h⟩ := ev_ic_some (v := v) h
    exact h
  | 1, h => exact (ev_pc_some (v := v) h).2
  | 2, h =>
    obtain ⟨x, -, h⟩ := ev_ic_some (v := v) h
    exact (ev_bc_t h).2
  | q + 3, h =>
    obtain ⟨x, -, h⟩ := ev_jc_some (v := v) h
    exact h
theorem mo_ptf : ev_ok (ev_Pm wE nE) r pc (ev_ptf p ci kf tq) := fun k L S w n hk h => by
  obtain ⟨v, S1, -, h⟩ := ev_lc_some h
  obtain ⟨u, S', -, h⟩ := ev_lc_some (l := S1) h
  obtain ⟨a, -, h⟩ := ev_rc_some (v := u) h
  obtain ⟨c, -, h⟩ := ev_oc_some h
  have := mo_use hk (mo_fit (ev_bc_t h).2)
  rw [ev_set_eq, List.length_set] at this
  exact this
theorem mo_nwa {v0 : Value} : ev_ok (ev_Pm wE nE) r pc (ev_nwa p t v0) := fun k L S w n hk h => by
  obtain ⟨i, S', -, -, h⟩ := ev_nwa_some h
  have := mo_use hk h
  rw [List.length_append, List.length_singleton] at this
  exact ⟨by omega, by omega⟩
theorem mo_new {N : Nat} {dv : List Value} : ev_ok (ev_Pm wE nE) r pc (ev_new p ci N dv) := fun k L S w n hk h => by
  have := mo_use hk h
  rw [List.length_append, List.length_singleton] at this
  exact ⟨by omega, by omega⟩
theorem mo_gst {a : Nat} : ev_ok (ev_Pm wE nE) r pc (ev_gst p a) := fun k L S w n hk h => mo_use hk h
theorem mo_cst : ev_ok (ev_Pm wE nE) r pc (ev_cst p t) := fun k L S w n hk h => by
  obtain ⟨v, S', -, h⟩ := ev_lc_some h
  obtain ⟨a, -, h⟩ := ev_rc_some (v := v) h
  obtain ⟨c, -, h⟩ := ev_oc_some h
  exact mo_use hk (ev_bc_t h).2
theorem mo_i2l : ev_ok (ev_Pm wE nE) r pc (ev_i2l p) := fun k L S w n hk h => by
  obtain ⟨v, S', -, h⟩ := ev_lc_some h
  obtain ⟨x, -, h⟩ := ev_ic_some (v := v) h
  exact mo_use hk h
theorem mo_lcm : ev_ok (ev_Pm wE nE) r pc (ev_lcm p) := fun k L S w n hk h => by
  obtain ⟨v, S1, -, h⟩ := ev_lc_some h
  obtain ⟨u, S', -, h⟩ := ev_lc_some (l := S1) h
  obtain ⟨y, -, h⟩ := ev_jc_some (v := v) h
  obtain ⟨x, -, h⟩ := ev_jc_some (v := u) h
  exact mo_use hk h
theorem mo_tsw {ts : List Nat} : ev_ok (ev_Pm wE nE) r pc (ev_tsw ts) := fun k L S w n hk h => by
  obtain ⟨v, S', -, h⟩ := ev_lc_some h
  obtain ⟨x, -, h⟩ := ev_ic_some (v := v) h
  obtain ⟨t, -, h⟩ := ev_oc_some (ev_bc_t h).2
  exact mo_use hk h
theorem mo_obj : ev_ok (ev_Pm wE nE) r pc (ev_obj p) := fun k L S w n hk h => by
  obtain ⟨v, S', -, h⟩ := ev_lc_some h
  obtain ⟨x, -, h⟩ := ev_rc_some (v := v) h
  exact mo_use hk (ev_bc_t h).2
def ev_cm (cf : Nat → List Value → ev_W → Option ev_R) : Prop := ∀ (y : Nat) (vs : List Value) (w w1 : ev_W) (rv : Option Value) (k1 : Nat), cf y vs w = some (rv, w1, k1) → w.length ≤ w1.length
theorem mo_inv {cf : Nat → List Value → ev_W → Option ev_R} (hcm : ev_cm cf) {cal na : Nat} : ev_ok (ev_Pm wE nE) r pc (ev_inv cf p cal na : ev_O α) := fun k L S w n hk h => by
  obtain ⟨as, S', -, -, h⟩ := ev_pop_some _ _ _ _ h
  obtain ⟨⟨rv, w1, k1⟩, hc, h⟩ := ev_oc_some (ev_bc_t h).2
  have h1 := mo_use hk h
  have h2 := hcm _ _ _ _ _ _ hc
  exact ⟨Nat.le_trans h2 h1.1, Nat.le_trans (Nat.le_add_right _ _) h1.2⟩
theorem mo_ini {cf : Nat → List Value → ev_W → Option ev_R} (hcm : ev_cm cf) {cal na : Nat} : ev_ok (ev_Pm wE nE) r pc (ev_ini cf p cal na : ev_O α) := fun k L S w n hk h => by
  obtain ⟨as, S', -, -, h⟩ := ev_pop_some _ _ _ _ h
  obtain ⟨v, t, -, h⟩ := ev_lc_some h
  obtain ⟨a, -, h⟩ := ev_rc_some (v := v) h
  obtain ⟨⟨rv, w1, k1⟩, hc, h⟩ := ev_oc_some (ev_bc_t h).2
  have h1 := mo_use hk h
  have h2 := hcm _ _ _ _ _ _ hc
  exact ⟨Nat.le_trans h2 h1.1, Nat.le_trans (Nat.le_add_right _ _) h1.2⟩
theorem mo_inr {cf : Nat → List Value → ev_W → Option ev_R} (hcm : ev_cm cf) {cal na : Nat} : ev_ok (ev_Pm wE nE) r pc (ev_inr cf p cal na ci : ev_O α) := fun k L S w n hk h => by
  obtain ⟨as, S', -, -, h⟩ := ev_pop_some _ _ _ _ h
  obtain ⟨v, t, -, h⟩ := ev_lc_some h
  obtain ⟨a, -, h⟩ := ev_rc_some (v := v) h
  obtain ⟨c, -, h⟩ := ev_oc_some h
  obtain ⟨⟨rv, w1, k1⟩, hc, h⟩ := ev_oc_some (ev_bc_t h).2
  have h1 := mo_use hk h
  have h2 := hcm _ _ _ _ _ _ hc
  exact ⟨Nat.le_trans h2 h1.1, Nat.le_trans (Nat.le_add_right _ _) h1.2⟩
variable {fin : Option Value → ev_W → Nat → Option α}
theorem mo_rti (hfin : ∀ v w n, fin v w n = some r → w.length = wE ∧ n = nE) : ev_ok (ev_Pm wE nE) r pc (ev_rti fin) := fun k L S w n hk h => by
  obtain ⟨v, S', -, h⟩ := ev_lc_some h
  obtain ⟨x, -, h⟩ := ev_ic_some (v := v) h
  cases S' with
  | cons _ _ => cases h
  | nil => have := hfin _ _ _ h; exact ⟨by omega, by omega⟩
theorem mo_rtz (hfin : ∀ v w n, fin v w n = some r → w.length = wE ∧ n = nE) : ev_ok (ev_Pm wE nE) r pc (ev_rtz fin) := fun k L S w n hk h => by
  obtain ⟨v, S', -, h⟩ := ev_lc_some h
  obtain ⟨x, -, h⟩ := ev_ic_some (v := v) h
  obtain ⟨-, h⟩ := ev_bc_t h
  cases S' with
  | cons _ _ => cases h
  | nil => have := hfin _ _ _ h; exact ⟨by omega, by omega⟩
theorem mo_rta (hfin : ∀ v w n, fin v w n = some r → w.length = wE ∧ n = nE) : ev_ok (ev_Pm wE nE) r pc (ev_rta fin) := fun k L S w n hk h => by
  obtain ⟨v, S', -, h⟩ := ev_lc_some h
  obtain ⟨-, h⟩ := ev_pc_some h
  cases S' with
  | cons _ _ => cases h
  | nil => have := hfin _ _ _ h; exact ⟨by omega, by omega⟩
theorem mo_rtv (hfin : ∀ v w n, fin v w n = some r → w.length = wE ∧ n = nE) : ev_ok (ev_Pm wE nE) r pc (ev_rtv fin) := fun k L S w n hk h => by
  cases S with
  | cons _ _ => cases h
  | nil => have := hfin _ _ _ h; exact ⟨by omega, by omega⟩
end MO
/-! tables of operations; runs -/
def ev_all {α : Type} (Pk : Nat → ev_O α → Prop) : Nat → List (ev_O α) → Prop
  | _, [] => True
  | b, o :: t => Pk b o ∧ ev_all Pk (b + 1) t
def ev_all2 {α : Type} (Pk : Nat → ev_O α → Prop) : Nat → List (List (ev_O α)) → Prop
  | _, [] => True
  | b, o :: t => ev_all Pk (16 * b) o ∧ ev_all2 Pk (b + 1) t
theorem ev_a0 {α : Type} {Pk : Nat → ev_O α → Prop} {b : Nat} : ev_all Pk b [] := trivial
theorem ev_a {α : Type} {Pk : Nat → ev_O α → Prop} {b : Nat} {o : ev_O α} {t : List (ev_O α)} (h : Pk b o) (ht : ev_all Pk (b + 1) t) : ev_all Pk b (o :: t) := ⟨h, ht⟩
theorem ev_b0 {α : Type} {Pk : Nat → ev_O α → Prop} {b : Nat} : ev_all2 Pk b [] := trivial
theorem ev_b {α : Type} {Pk : Nat → ev_O α → Prop} {b : Nat} {o : List (ev_O α)} {t : List (List (ev_O α))} (h : ev_all Pk (16 * b) o) (ht : ev_all2 Pk (b + 1) t) : ev_all2 Pk b (o :: t) := ⟨h, ht⟩
theorem ev_all_at {α : Type} {Pk : Nat → ev_O α → Prop} : ∀ (l : List (ev_O α)) (b j : Nat) (o : ev_O α), ev_all Pk b l → l[j]? = some o → Pk (b + j) o := by
  intro l
  induction l with
  | nil => intro b j o _ h; cases h
  | cons a l ih =>
    intro b j o h hj
    cases j with
    | zero => cases hj; exact h.1
    | succ j => rw [show b + (j + 1) = (b + 1) + j by omega]; exact ih _ _ _ h.2 (by simpa using hj)
theorem ev_all2_at {α : Type} {Pk : Nat → ev_O α → Prop} : ∀ (l : List (List (ev_O α))) (b j : Nat) (c : List (ev_O α)), ev_all2 Pk b l → l[j]? = some c → ev_all Pk (16 * (b + j)) c := by
  intro l
  induction l with
  | nil => intro b j o _ h; cases h
  | cons a l ih =>
    intro b j o h hj
    cases j with
    | zero => cases hj; exact h.1
    | succ j => rw [show b + (j + 1) = (b + 1) + j by omega]; exact ih _ _ _ h.2 (by simpa using hj)
theorem ev_run_ok {α : Type} {P : Nat → List Value → List Value → ev_W → Nat → Prop} {r : α} {tb : List (List (ev_O α))} {stop : ev_G α} (htb : ev_all2 (ev_ok P r) 0 tb) (hstop : ∀ pc L S w n, stop pc L S w n = some r → P pc L S w n) : ∀ (f pc : Nat) (L S : List Value) (w : ev_W) (n : Nat), ev_run tb stop f pc L S w n = some r → P pc L S w n := by
  intro f
  induction f with
  | zero => intro pc L S w n h; exact hstop pc L S w n h
  | succ f ih =>
    intro pc L S w n h
    obtain ⟨o, ho, h1⟩ := ev_oc_some (show ev_oc (ev_oc (ev_at tb (pc / 16)) fun c => ev_at c (pc % 16)) (fun o => o (ev_run tb stop f) L S w n) = some r from h)
    obtain ⟨c, hc, hoc⟩ := ev_oc_some ho
    rw [ev_at_eq] at hc hoc
    have h2 := ev_all_at c _ _ o (ev_all2_at tb 0 _ c htb hc) hoc
    rw [Nat.zero_add, Nat.div_add_mod] at h2
    exact h2 _ L S w n (fun pc' L' S' w' n' hk => ih pc' L' S' w' n' hk) h1
theorem ev_all_map {α : Type} {Pk Pl : Nat → ev_O α → Prop} (h : ∀ b o, Pk b o → Pl b o) : ∀ (l : List (ev_O α)) (b : Nat), ev_all Pk b l → ev_all Pl b l
  | [], _, _ => trivial
  | _ :: t, _, hl => ⟨h _ _ hl.1, ev_all_map h t _ hl.2⟩
/-- the locals that a method begins with -/
theorem ev_l_entry {ad : Nat → Nat} {vs pad : List Value} {nL : Nat} (hv : ∀ v ∈ vs, v.category = 1) (hp : ∀ v ∈ pad, v = .retAddr 0) (hn : vs.length ≤ nL) : lv_has ((lg_sl (vs.map (ev_v ad)) ++ List.replicate (nL - (lg_sl (vs.map (ev_v ad))).length) Slot.unset).toArray) nL (ev_l ad (vs ++ pad)) := by
  have hsl : ∀ us : List Value, (∀ v ∈ us, v.category = 1) → lg_sl (us.map (ev_v ad)) = us.map (fun v => Slot.val (ev_v ad v)) := by
    intro us
    induction us with
    | nil => intro _; rfl
    | cons v us ih =>
      intro h
      have h1 : (ev_v ad v).category = 1 := ev_v_cat.trans (h v List.mem_cons_self)
      have h2 := ih fun u hu => h u (List.mem_cons_of_mem _ hu)
      unfold lg_sl at h2 ⊢
      simp only [List.map_cons, List.flatMap_cons, h1]
      rw [h2]
      rfl
  have hlen : (lg_sl (vs.map (ev_v ad))).length = vs.length := by rw [hsl vs hv, List.length_map]
  have h0 := lv_entry (vs.map (ev_v ad)) (n := nL) (by rw [hlen]; exact hn)
  refine ⟨h0.1, h0.2.1, fun q hq => ?_⟩
  obtain ⟨i, v⟩ := q
  obtain ⟨u, h1, rfl, h3⟩ := ev_l_mem.mp hq
  by_cases hi : i < vs.length
  · rw [List.getElem?_append_left hi] at h1
    rw [List.getElem?_toArray, List.getElem?_append_left (by rw [hlen]; exact hi), hsl vs hv, List.getElem?_map, h1]
    rfl
  · rw [List.getElem?_append_right (by omega)] at h1
    have := hp u (List.mem_of_getElem? h1)
    subst this
    cases h3
end
section
/-! a method's body, by its table -/
theorem ev_body {l : Launch} {ys : List (MethodName × List Cond)} {d : Nat} {nm : MethodName} {bytes : ByteArray} {nL : Nat} {ret : Option FieldType} {ws : List Cond} (hws : ∀ w ∈ ev_gd, w ∈ ws) {tb : List (List (ev_O ev_R))} {pad vs : List Value} {w w1 : ev_W} {rv : Option Value} {k1 : Nat}
    (htab : ∀ (p : Program) (e : Env) (R : Room) (s : State) (m : MethodId) (args : Array Value) (below : List Frame) (meth : Method) (c : Code) (Q : State → Prop) (D : va_G) (G : Nat → ClassId) (ad : Nat → Nat) (A : Nat → Prop) (z wE nE : Nat) (P : Nat → List Value → List Value → ev_W → Nat → Prop) (r : ev_R),
      ev_X bytes nL nm.cls ret p s m args meth c D G ad A z → ev_PP p l e R s m args below meth c Q nL D G ad A z wE nE P → (wE - z ≤ R.cells ∧ nE ≤ R.slots) → (d + 3 ≤ R.frames ∧ 64 * (d + 3) ≤ R.locals) → meth.name = nm.name → ∀ Qc, Q = MQ below Qc args s (wE - z) nE A →
      (∀ (v : Option Value) (w : ev_W) (n : Nat), (fun r w n => some (r, w, n) : Option Value → ev_W → Nat → Option ev_R) v w n = some r → w.length = wE ∧ n = nE ∧ ∀ H locs, ev_H D G ad A w H → va_S A s.heap H locs → ∀ t : State, t.heap = H → s.WarmedH t.vm → Qc args s (.returned (v.map (ev_v ad))) t) → ev_all2 (ev_ok P r) 0 tb)
    (hcat : ∀ v ∈ vs, v.category = 1) (hpad : ∀ v ∈ pad, v = .retAddr 0) (hn : vs.length ≤ nL) (hrun : ev_run tb (fun _ _ _ _ _ => none) 100000 0 (vs ++ pad) [] w 0 = some (rv, w1, k1))
    {D : va_G} {G : Nat → ClassId} {ad : Nat → Nat} {A : Nat → Prop} {z : Nat} (had : ∀ k, z ≤ k → ad (k + 1) = ad k + 1) (hz : z ≤ w.length)
    {p : Program} {e : Env} {s : State} {m : MethodId} {args : Array Value} {below : List Frame} {meth : Method} {c : Code} {s₁ : State} (B : BodyLoose p l nm (headSpec ws (ev_rm (d + 1) (w1.length - w.length) k1)) bytes nL ret e s m args below meth c s₁) (hml : c.maxLocals = nL) (hv : ev_Pc D G ad A vs w args s) :
    W p l e (headSpec ws (ev_rm (d + 1) (w1.length - w.length) k1)).room s m args below meth c s.heap [] 0 0 (MQ below (ev_Qc D G ad A rv w1) args s (w1.length - w.length) k1 A) (entryFrame m args nL) := by
  obtain ⟨rfl, hH, hK, hAO, hNW, hZ, hA⟩ := hv
  have hts0 := atoms_spec (ws := ws) B.pre
  have hown : s.vm.findClass nm.cls = some m.cls := findClass_of_methodNamed B.named
  have hin : meth.name = nm.name := (name_of_methodNamed B.named B.method).1
  have had' : ∀ k, w.length ≤ k → ad (k + 1) = ad k + 1 := fun k hk => had k (Nat.le_trans hz hk)
  have X : ev_X bytes nL nm.cls ret p s m ((vs.map (ev_v ad)).toArray) meth c D G ad A w.length := ⟨B.exec, B.bytes, hml, hown, fun w hw => hts0 w (hws w hw), hK, hAO, hNW, hZ, hA, B.notSynchronized, B.returns, had'⟩
  let P : Nat → List Value → List Value → ev_W → Nat → Prop := fun pc L S w' n => w.length ≤ w'.length → (w'.length ≤ w1.length ∧ n ≤ k1) ∧ ∀ (H : Heap) (locs : List Loc) (ls : Array Slot), ev_H D G ad A w' H → lv_has ls nL (ev_l ad L) → va_S A s.heap H locs → W p l e (headSpec ws (ev_rm (d + 1) (w1.length - w.length) k1)).room s m ((vs.map (ev_v ad)).toArray) below meth c H locs (w'.length - w.length) n (MQ below (ev_Qc D G ad A rv w1) ((vs.map (ev_v ad)).toArray) s (w1.length - w.length) k1 A) (F0 m pc ls (S.map (ev_v ad)))
  have htb := htab p e (headSpec ws (ev_rm (d + 1) (w1.length - w.length) k1)).room s m ((vs.map (ev_v ad)).toArray) below meth c (MQ below (ev_Qc D G ad A rv w1) ((vs.map (ev_v ad)).toArray) s (w1.length - w.length) k1 A) D G ad A w.length w1.length k1 P (rv, w1, k1) X (fun _ _ _ _ _ => Iff.rfl) ⟨Nat.le_refl _, Nat.le_refl _⟩ ⟨Nat.le_refl _, Nat.le_refl _⟩ hin (ev_Qc D G ad A rv w1) rfl (fun v w' n h => by
    cases h
    exact ⟨rfl, rfl, fun H locs hH' hS t ht hW => ⟨rfl, by rw [ht]; exact hH', hS.F ht⟩⟩)
  have h := ev_run_ok htb (fun _ _ _ _ _ h => by cases h) 100000 0 (vs ++ pad) [] w 0 hrun (Nat.le_refl _)
  rw [lg_entry_eq]
  have h2 := h.2 s.heap [] _ hH (ev_l_entry hcat hpad hn) va_S.rf
  rw [Nat.sub_self] at h2
  exact h2
theorem ev_cat_some {α : Type} {y : Option α} {r : α} : ∀ (vs : List Value), ev_cat vs y = some r → (∀ v ∈ vs, v.category = 1) ∧ y = some r := by
  intro vs
  induction vs with
  | nil => intro h; exact ⟨(fun v hv => by cases hv), h⟩
  | cons v vs ih =>
    intro h
    obtain ⟨h1, h2⟩ := ev_c1_some (show ev_c1 v (ev_cat vs y) = some r from h)
    obtain ⟨h3, h4⟩ := ih h2
    refine ⟨fun u hu => ?_, h4⟩
    rcases List.mem_cons.mp hu with rfl | hu
    · exact h1
    · exact h3 u hu
/-- what a method's row must be: its words over the machine, d + 1 deep -/
def ev_row (l : Launch) (d : Nat) (q : MethodName × List Cond) (M : ev_Y) : Prop := ∀ (vs : List Value) (w w1 : ev_W) (rv : Option Value) (k1 : Nat), ev_go M vs w = some (rv, w1, k1) → w.length ≤ w1.length ∧ ∀ (D : va_G) (G : Nat → ClassId) (ad : Nat → Nat) (A : Nat → Prop) (z : Nat), (∀ k, z ≤ k → ad (k + 1) = ad k + 1) → z ≤ w.length →
    Met l q.1 q.2 (ev_rm (d + 1) (w1.length - w.length) k1) (ev_Pc D G ad A vs w) (ev_Qc D G ad A rv w1) (w1.length - w.length) k1 A
theorem ev_go_some {M : ev_Y} {vs : List Value} {w : ev_W} {r : ev_R} (h : ev_go M vs w = some r) : vs.length = M.1 ∧ (∀ v ∈ vs, v.category = 1) ∧ ev_run M.2.2 (fun _ _ _ _ _ => none) 100000 0 (vs ++ M.2.1) [] w 0 = some r := by
  obtain ⟨h1, h2⟩ := ev_bc_t h
  obtain ⟨h3, h4⟩ := ev_cat_some vs h2
  refine ⟨?_, h3, h4⟩
  have := Nat.eq_of_beq_eq_true h1
  rw [ev_len_eq] at this
  exact this
theorem ev_row_mono {tb : List (List (ev_O ev_R))} (hmo : ∀ (r : ev_R) (wE nE : Nat), (∀ (v : Option Value) (w : ev_W) (n : Nat), (fun r w n => some (r, w, n) : Option Value → ev_W → Nat → Option ev_R) v w n = some r → w.length = wE ∧ n = nE) → ev_all2 (ev_ok (ev_Pm wE nE) r) 0 tb) {L : List Value} {w w1 : ev_W} {rv : Option Value} {k1 : Nat} (h : ev_run tb (fun _ _ _ _ _ => none) 100000 0 L [] w 0 = some (rv, w1, k1)) : w.length ≤ w1.length :=
  (ev_run_ok (P := ev_Pm w1.length k1) (hmo (rv, w1, k1) w1.length k1 (fun v w' n h => by cases h; exact ⟨rfl, rfl⟩)) (fun _ _ _ _ _ h => by cases h) 100000 0 L [] w 0 h).1
abbrev ev_ht (l : Launch) (d : Nat) (nm : MethodName) (bytes : ByteArray) (nL : Nat) (ret : Option FieldType) (tb : List (List (ev_O ev_R))) : Prop := ∀ (p : Program) (e : Env) (R : Room) (s : State) (m : MethodId) (args : Array Value) (below : List Frame) (meth : Method) (c : Code) (Q : State → Prop) (D : va_G) (G : Nat → ClassId) (ad : Nat → Nat) (A : Nat → Prop) (z wE nE : Nat) (P : Nat → List Value → List Value → ev_W → Nat → Prop) (r : ev_R),
      ev_X bytes nL nm.cls ret p s m args meth c D G ad A z → ev_PP p l e R s m args below meth c Q nL D G ad A z wE nE P → (wE - z ≤ R.cells ∧ nE ≤ R.slots) → (d + 3 ≤ R.frames ∧ 64 * (d + 3) ≤ R.locals) → meth.name = nm.name → ∀ Qc, Q = MQ below Qc args s (wE - z) nE A →
      (∀ (v : Option Value) (w : ev_W) (n : Nat), (fun r w n => some (r, w, n) : Option Value → ev_W → Nat → Option ev_R) v w n = some r → w.length = wE ∧ n = nE ∧ ∀ H locs, ev_H D G ad A w H → va_S A s.heap H locs → ∀ t : State, t.heap = H → s.WarmedH t.vm → Qc args s (.returned (v.map (ev_v ad))) t) → ev_all2 (ev_ok P r) 0 tb
theorem ev_row_code {l : Launch} {d : Nat} {nm : MethodName} {bytes : ByteArray} {nL na : Nat} {ret : Option FieldType} {tb : List (List (ev_O ev_R))} {pad : List Value} (hy : plainName nm.cls = true) (hmo : ∀ (r : ev_R) (wE nE : Nat), (∀ (v : Option Value) (w : ev_W) (n : Nat), (fun r w n => some (r, w, n) : Option Value → ev_W → Nat → Option ev_R) v w n = some r → w.length = wE ∧ n = nE) → ev_all2 (ev_ok (ev_Pm wE nE) r) 0 tb) (htab : ev_ht l d nm bytes nL ret tb) (hpad : ∀ v ∈ pad, v = .retAddr 0) (hn : na ≤ nL) : ev_row l d (nm, Cond.code nm bytes nL ret :: ev_gd) (na, pad, tb) := by
  intro vs w w1 rv k1 h
  obtain ⟨hlen, hcat, hrun⟩ := ev_go_some h
  refine ⟨ev_row_mono hmo hrun, fun D G ad A z had hz => ?_⟩
  refine Met.ofW (cc := bytes) (maxL := nL) (ret := ret) hy rfl ?_
  intro p e s m args below meth c s₁ B hml hv
  exact ev_body (ys := []) (fun w hw => List.mem_cons_of_mem _ hw) htab hcat hpad (by rw [hlen]; exact hn) hrun had hz B hml hv
theorem ev_row_codeW {l : Launch} {d : Nat} {nm : MethodName} {bytes : ByteArray} {nL na : Nat} {ret : Option FieldType} {hh : List (Nat × Nat × Nat × Nat)} {tb : List (List (ev_O ev_R))} {pad : List Value} (hy : plainName nm.cls = true) (hmo : ∀ (r : ev_R) (wE nE : Nat), (∀ (v : Option Value) (w : ev_W) (n : Nat), (fun r w n => some (r, w, n) : Option Value → ev_W → Nat → Option ev_R) v w n = some r → w.length = wE ∧ n = nE) → ev_all2 (ev_ok (ev_Pm wE nE) r) 0 tb) (htab : ev_ht l d nm bytes nL ret tb) (hpad : ∀ v ∈ pad, v = .retAddr 0) (hn : na ≤ nL) : ev_row l d (nm, Cond.codeWith nm bytes nL ret hh :: ev_gd) (na, pad, tb) := by
  intro vs w w1 rv k1 h
  obtain ⟨hlen, hcat, hrun⟩ := ev_go_some h
  refine ⟨ev_row_mono hmo hrun, fun D G ad A z had hz => ?_⟩
  refine va_MetW (cc := bytes) (maxL := nL) (ret := ret) hy rfl ?_
  intro p e s m args below meth c s₁ B hml hv
  exact ev_body (ys := []) (fun w hw => List.mem_cons_of_mem _ hw) htab hcat hpad (by rw [hlen]; exact hn) hrun had hz B hml hv
theorem ev_row_none {l : Launch} {d : Nat} {q : MethodName × List Cond} {pad : List Value} {na : Nat} : ev_row l d q (na, pad, []) := by
  intro vs w w1 rv k1 h
  obtain ⟨-, -, hrun⟩ := ev_go_some h
  exact (ev_run_ok (P := fun _ _ _ _ _ => False) (tb := []) (r := (rv, w1, k1)) ev_b0 (fun _ _ _ _ _ h => by cases h) 100000 0 _ [] w 0 hrun).elim
def ev_rows (l : Launch) (d : Nat) : List (MethodName × List Cond) → List ev_Y → Prop
  | q :: t, M :: u => ev_row l d q M ∧ ev_rows l d t u
  | [], [] => True
  | _, _ => False
theorem ev_r0 {l : Launch} {d : Nat} : ev_rows l d [] [] := trivial
theorem ev_r {l : Launch} {d : Nat} {q : MethodName × List Cond} {M : ev_Y} {t : List (MethodName × List Cond)} {u : List ev_Y} (h : ev_row l d q M) (ht : ev_rows l d t u) : ev_rows l d (q :: t) (M :: u) := ⟨h, ht⟩
theorem ev_rows_at {l : Launch} {d : Nat} : ∀ (ys : List (MethodName × List Cond)) (Ms : List ev_Y) (y : Nat) (M : ev_Y), ev_rows l d ys Ms → Ms[y]? = some M → ∃ q, ys[y]? = some q ∧ ev_row l d q M := by
  intro ys
  induction ys with
  | nil =>
    intro Ms y M h hM
    cases Ms with
    | nil => cases hM
    | cons _ _ => exact h.elim
  | cons q ys ih =>
    intro Ms y M h hM
    cases Ms with
    | nil => exact h.elim
    | cons N Ms =>
      cases y with
      | zero => cases hM; exact ⟨q, rfl, h.1⟩
      | succ y =>
        obtain ⟨q', h1, h2⟩ := ih Ms y M h.2 (by simpa using hM)
        exact ⟨q', by simpa using h1, h2⟩
end
section
/-! Arrays.copyOf of an Object[], as one operation -/
abbrev ev_gc : MethodName := ⟨"java/lang/Object", "getClass", "()Ljava/lang/Class;"⟩
abbrev ev_oa : FieldType := .array (.object "java/lang/Object")
/-- the words that it asks; C: the class of the objects that a list may hold -/
def ev_cw (C : String) : Prop := (Cond.methodLink "java/util/Arrays" 86 ev_gc ∈ ev_gd ∧ Cond.selects "[Ljava/lang/Object;" ev_gc ev_gc ∈ ev_gd ∧ Cond.instanceMethod ev_gc ∈ ev_gd ∧ Cond.native ev_gc ∈ ev_gd) ∧
  (Cond.methodLink "java/util/Arrays" 300 yJ7_copyOf_6403c ∈ ev_gd ∧ Cond.static yJ7_copyOf_6403c ∈ ev_gd ∧ Cond.initialized "java/util/Arrays" ∈ ev_gd ∧ Cond.code yJ7_copyOf_6403c cJ7_copyOf_6403c 4 (some ev_oa) ∈ ev_gd) ∧
  (Cond.classLink "java/util/Arrays" 110 "[Ljava/lang/Object;" ∈ ev_gd ∧ Cond.classLink "java/util/Arrays" 2 "java/lang/Object" ∈ ev_gd) ∧
  (Cond.methodLink "java/util/Arrays" 304 Lib.Math.min.name ∈ ev_gd ∧ Cond.static Lib.Math.min.name ∈ ev_gd ∧ Cond.initialized "java/lang/Math" ∈ ev_gd ∧ Cond.code Lib.Math.min.name Lib.Math.min.code 2 (some .int) ∈ ev_gd) ∧
  (Cond.methodLink "java/util/Arrays" 150 arraycopyName ∈ ev_gd ∧ Cond.native arraycopyName ∈ ev_gd ∧ Cond.static arraycopyName ∈ ev_gd ∧ Cond.initialized "java/lang/System" ∈ ev_gd) ∧
  Cond.castable C "java/lang/Object" ∈ ev_nw ∧ Cond.castable "[I" "java/lang/Object" ∈ ev_nw
theorem ev_el_some {α : Type} {w : ev_W} {rt : Nat} {y : Option α} {r : α} : ∀ vs : List Value, ev_el w rt vs y = some r → (∀ v ∈ vs, v = .null ∨ ∃ x, v = .ref x ∧ ∃ d0, w[x]? = some d0 ∧ (d0.1 = 0 ∨ d0.1 = rt)) ∧ y = some r := by
  intro vs
  induction vs with
  | nil => intro h; exact ⟨(fun v hv => by cases hv), h⟩
  | cons v vs ih =>
    intro h
    have h0 : ev_rn v (fun b => Nat.rec (ev_el w rt vs y) (fun b _ => ev_oc (ev_at w b) fun d => ev_bc (Nat.beq d.1 0 || Nat.beq d.1 rt) (ev_el w rt vs y) none) b) = some r := h
    rcases ev_rn_some h0 with ⟨rfl, h1⟩ | ⟨x, rfl, h1⟩
    · obtain ⟨h2, h3⟩ := ih h1
      refine ⟨fun u hu => ?_, h3⟩
      rcases List.mem_cons.mp hu with rfl | hu
      · exact Or.inl rfl
      · exact h2 u hu
    · obtain ⟨d0, hd0, h2⟩ := ev_oc_some (show ev_oc (ev_at w x) (fun d => ev_bc (Nat.beq d.1 0 || Nat.beq d.1 rt) (ev_el w rt vs y) none) = some r from h1)
      obtain ⟨hk, h3⟩ := ev_bc_t h2
      obtain ⟨h4, h5⟩ := ih h3
      rw [ev_at_eq] at hd0
      rw [Bool.or_eq_true] at hk
      refine ⟨fun u hu => ?_, h5⟩
      rcases List.mem_cons.mp hu with rfl | hu
      · refine Or.inr ⟨x, rfl, d0, hd0, ?_⟩
        rcases hk with hk | hk
        · exact Or.inl (Nat.eq_of_beq_eq_true hk)
        · exact Or.inr (Nat.eq_of_beq_eq_true hk)
      · exact h4 u hu
/-- the new list -/
def ev_cl (i N : Nat) (vs : List Value) : List Value := vs ++ List.replicate (i - N) .null
theorem ev_cpy_some {α : Type} {fin : Option Value → ev_W → Nat → Option α} {rt : Nat} {k : ev_G α} {L S : List Value} {w : ev_W} {n : Nat} {r : α} (h : ev_cpy fin rt k L S w n = some r) : ∃ a i vs N, L[0]? = some (.ref a) ∧ L[1]? = some (.int i) ∧ S = [] ∧ w[a]? = some (2, N, vs) ∧ N ≤ ev_bits i ∧ ev_bits i < 100000 ∧ (∀ v ∈ vs, v = .null ∨ ∃ x, v = .ref x ∧ ∃ d0, w[x]? = some d0 ∧ (d0.1 = 0 ∨ d0.1 = rt)) ∧ fin (some (.ref w.length)) (w ++ [(2, ev_bits i, ev_cl (ev_bits i) N vs)]) (n + ev_bits i) = some r := by
  obtain ⟨u, hu, h1⟩ := ev_oc_some h
  obtain ⟨v, hv, h2⟩ := ev_oc_some h1
  obtain ⟨a, rfl, h3⟩ := ev_rc_some (v := u) h2
  obtain ⟨i, rfl, h4⟩ := ev_ic_some (v := v) h3
  obtain ⟨c0, hc0, h5⟩ := ev_oc_some h4
  obtain ⟨hb, h6⟩ := ev_bc_t h5
  obtain ⟨hel, h7⟩ := ev_el_some _ h6
  rw [ev_at_eq] at hu hv hc0
  rw [Bool.and_eq_true, Bool.and_eq_true, Nat.ble_eq, Nat.blt_eq] at hb
  cases S with
  | cons _ _ => cases h7
  | nil =>
    have h8 : fin (some (.ref (ev_len w))) (w ++ [(2, ev_bits i, c0.2.2 ++ List.replicate (ev_bits i - c0.2.1) .null)]) (n + ev_bits i) = some r := h7
    rw [ev_len_eq] at h8
    obtain ⟨t, N, vs⟩ := c0
    have ht : t = 2 := Nat.eq_of_beq_eq_true hb.1
    subst ht
    exact ⟨a, i, vs, N, hu, hv, rfl, hc0, hb.2.1, hb.2.2, hel, h8⟩
theorem mo_cpy {α : Type} {r : α} {wE nE pc rt : Nat} {fin : Option Value → ev_W → Nat → Option α} (hfin : ∀ v w n, fin v w n = some r → w.length = wE ∧ n = nE) : ev_ok (ev_Pm wE nE) r pc (ev_cpy fin rt) := fun k L S w n hk h => by
  obtain ⟨a, i, vs, N, -, -, -, -, -, -, -, h1⟩ := ev_cpy_some h
  obtain ⟨h2, h3⟩ := hfin _ _ _ h1
  rw [List.length_append, List.length_singleton] at h2
  exact ⟨by omega, by omega⟩
def ev_r3 (ms : Nat) : Room := { frames := 1, cells := 1, slots := ms, locals := 64 }
def ev_P3 (D : va_G) (G : Nat → ClassId) (ad : Nat → Nat) (A : Nat → Prop) (a mi : Nat) (i : Int32) (w : ev_W) : Array Value → State → Prop := fun aa U => aa = ([.ref (ad a), .int i, .ref mi] : List Value).toArray ∧ ev_B D G ad A w U ∧ va_Mi "[Ljava/lang/Object;" mi U
theorem ev_blind3 {D : va_G} {G : Nat → ClassId} {ad : Nat → Nat} {A : Nat → Prop} {a mi : Nat} {i : Int32} {w : ev_W} : FrameBlind (ev_P3 D G ad A a mi i w) := by
  intro a U g mk h
  obtain ⟨ha, ⟨hH, hK, hAO, hNW, hZ, hA⟩, hM⟩ := h
  exact ⟨ha, ⟨hH, va_K.moved (u := U) (U := U.calling g mk a) (Vm.Alike.refl U.vm) hK, va_AO.moved (u := U) (U := U.calling g mk a) (Vm.Alike.refl U.vm) hAO, ev_NW.warm (s := U) (U := U.calling g mk a) (State.WarmedH.refl U) hNW, va_Z.moved (u := U) (U := U.calling g mk a) (Vm.Alike.refl U.vm) hZ, hA⟩, va_Mi.moved (u := U) (U := U.calling g mk a) (Vm.Alike.refl U.vm) hM⟩
theorem ev_cpyf {ad : Nat → Nat} {i N : Nat} {vs : List Value} (hN : N = vs.length) : va_cpy (fun j => ev_rv ad (vs.getD j .null)) (fun j => ev_rv ad ((List.replicate i (.null : Value)).getD j .null)) 0 0 N = fun j => ev_rv ad ((ev_cl i N vs).getD j .null) := by
  subst hN
  funext j
  unfold va_cpy ev_cl
  show (if 0 ≤ j ∧ j < 0 + vs.length then ev_rv ad (vs.getD (0 + (j - 0)) .null) else ev_rv ad ((List.replicate i (.null : Value)).getD j .null)) = _
  rw [List.getD_eq_getElem?_getD, List.getD_eq_getElem?_getD, List.getD_eq_getElem?_getD, List.getElem?_replicate]
  by_cases h : j < vs.length
  · rw [if_pos ⟨Nat.zero_le _, by omega⟩, List.getElem?_append_left h]
    simp
  · rw [if_neg (by omega), List.getElem?_append_right (by omega), List.getElem?_replicate]
    split <;> split <;> rfl
theorem ev_any {D : va_G} {G : Nat → ClassId} {ad : Nat → Nat} {w : ev_W} {H : Heap} {s : State} {args : Array Value} {ci x : Nat} {C : vw_C} {d0 : ev_Q} (hc : vwCl[ci]? = some C) (h1 : Cond.castable C.1 "java/lang/Object" ∈ ev_nw) (h2 : Cond.castable "[I" "java/lang/Object" ∈ ev_nw) (hK : va_K D vwCl (ev_ty G) s) (hNW : ev_NW s) (hP : va_P D vwCl (ev_w G ad w) H) (hd0 : w[x]? = some d0) (hdk : d0.1 = 0 ∨ d0.1 = ci + 3) : va_Any "java/lang/Object" s H (ad x) := by
  rcases hdk with hdk | hdk
  · have hv := hP x _ (ev_arr_at (G := G) (ad := ad) hd0 0 hdk)
    obtain ⟨c1, t1, f1, f2, f3⟩ := Cond.castable_spec (va_Nw.use (A := args) rfl (hNW.1 _ h2))
    have hI : s.vm.findClass "[I" = some (G 0) := (hK.2 0 _ rfl).2
    cases hI.symm.trans f1
    obtain ⟨kI, hkI, -⟩ := Vm.findClass_spec hI
    refine ⟨_, hv, rfl, ⟨kI, hkI⟩, fun comp h => ?_⟩
    cases f2.symm.trans h
    exact f3
  · have hv := ev_obj_at (G := G) (ad := ad) hd0 (by rw [hdk]; exact Nat.beq_refl _)
    obtain ⟨c1, t1, f1, f2, f3⟩ := Cond.castable_spec (va_Nw.use (A := args) rfl (hNW.1 _ h1))
    refine va_rAny hK hP hv hc fun comp c2 m1 m2 => ?_
    cases f2.symm.trans m1
    cases f1.symm.trans m2
    exact f3
theorem ev_copy3 {l : Launch} {ci : Nat} {C : vw_C} (hC : vwCl[ci]? = some C) (hcw : ev_cw C.1) {D : va_G} {G : Nat → ClassId} {ad : Nat → Nat} {A : Nat → Prop} {w : ev_W} (had : ad (w.length + 1) = ad w.length + 1) {a mi : Nat} {i : Int32} {vs : List Value} {N : Nat} (hc : w[a]? = some (2, N, vs)) (hN : N ≤ ev_bits i) (hi : ev_bits i < 100000) (hel : ∀ v ∈ vs, v = .null ∨ ∃ x, v = .ref x ∧ ∃ d0, w[x]? = some d0 ∧ (d0.1 = 0 ∨ d0.1 = ci + 3)) :
    Met l yJ7_copyOf_6403c (Cond.code yJ7_copyOf_6403c cJ7_copyOf_6403c 4 (some ev_oa) :: ev_gd) (ev_r3 (ev_bits i)) (ev_P3 D G ad A a mi i w) (ev_Qc D G ad A (some (.ref w.length)) (w ++ [(2, ev_bits i, ev_cl (ev_bits i) N vs)])) 1 (ev_bits i) A := by
  refine Met.ofW (cc := cJ7_copyOf_6403c) (maxL := 4) (ret := some ev_oa) (by decide +kernel) rfl ?_
  intro p e s m args below meth c s₁ B hml hv
  obtain ⟨rfl, ⟨hH, hK, hAO, hNW, hZ, hA⟩, hM⟩ := hv
  have hts0 := atoms_spec (ws := Cond.code yJ7_copyOf_6403c cJ7_copyOf_6403c 4 (some ev_oa) :: ev_gd) B.pre
  have hts : ∀ w ∈ ev_gd, w.before ([.ref (ad a), .int i, .ref mi] : List Value).toArray s = true := fun w hw => hts0 w (List.mem_cons_of_mem _ hw)
  have hown : s.vm.findClass "java/util/Arrays" = some m.cls := findClass_of_methodNamed B.named
  obtain ⟨-, ⟨-, -, -, -⟩, ⟨k1, k2⟩, ⟨n1, n2, n3, n4⟩, ⟨a1, a2, a3, a4⟩, b1, b2⟩ := hcw
  have hx := B.exec
  have hb := B.bytes
  have hlk := B.notSynchronized
  have hr := B.returns
  rw [lg_entry_eq]
  have hl : lv_has ((lg_sl ([.ref (ad a), .int i, .ref mi] : List Value) ++ List.replicate (4 - (lg_sl ([.ref (ad a), .int i, .ref mi] : List Value)).length) Slot.unset).toArray) 4 [(0, .ref (ad a)), (1, .int i), (2, .ref mi)] := lv_entry ([.ref (ad a), .int i, .ref mi] : List Value) (n := 4) (show 3 ≤ 4 by decide)
  generalize (lg_sl ([.ref (ad a), .int i, .ref mi] : List Value) ++ List.replicate (4 - (lg_sl ([.ref (ad a), .int i, .ref mi] : List Value)).length) Slot.unset).toArray = ls at hl ⊢
  have l0 : ls[0]? = some (.val (.ref (ad a))) := hl.2.2 (0, _) (by simp)
  have l1 : ls[1]? = some (.val (.int i)) := hl.2.2 (1, _) (by simp)
  have l2 : ls[2]? = some (.val (.ref mi)) := hl.2.2 (2, _) (by simp)
  refine lv_aload_n hx hb (by decide +kernel : decode cJ7_copyOf_6403c 0 = .ok (.aload_n 2, 1)) rfl l2 ?_
  refine va_ldcM hx hb hown (hts _ k1) hM (by decide +kernel : decode cJ7_copyOf_6403c 1 = .ok (.ldc 110, 2)) ?_
  refine lv_acmp_ne (rx := some mi) (ry := some mi) hx hb (by decide +kernel : decode cJ7_copyOf_6403c 3 = .ok (.if_acmp .ne 10, 3)) (tgt := 13) (by exact (show ((3 : Nat) : Int) + 10 = ((13 : Nat) : Int) by decide)) (fun q => absurd rfl q) (fun _ => ?_)
  refine lv_iload_n hx hb (by decide +kernel : decode cJ7_copyOf_6403c 6 = .ok (.iload_n 1, 1)) rfl l1 ?_
  obtain ⟨h0, hii⟩ := ev_ix hi (Nat.le_refl _)
  have hAq : A (ad w.length) := hA _ (by rw [← hH.2.2.2]; exact Nat.le_refl _)
  refine W.anew hx hb hown (hts _ k2) (va_AO.use hAO) rfl (by decide +kernel : decode cJ7_copyOf_6403c 7 = .ok (.anewarray 2, 3)) rfl h0 (by rw [hii]; omega) (Nat.le_refl _) (by rw [hii]; exact Nat.le_of_eq (Nat.zero_add _)) fun cA kA comp f1 f2 f3 f4 => ?_
  have hcA : cA = G 2 := by
    obtain ⟨kO, co, -, -, -, hO⟩ := (hK.2 2 _ rfl).2
    exact Option.some.inj (f1.symm.trans hO)
  subst hcA
  rw [hii, Nat.zero_add, Nat.zero_add]
  generalize hH1 : s.heap.push ({ cls := G 2, slots := Array.replicate (ev_bits i) .null, vm := .none } : Cell) = H1
  have z1 : H1.size = s.heap.size + 1 := by rw [← hH1, Array.size_push]
  have e1 : H1[s.heap.size]? = some (arrV (G 2) (ev_bits i) (fun _ => .null)) := by rw [← hH1, Array.getElem?_push_size, ← arrV_new]
  have o1 : ∀ q : Nat, q < s.heap.size → H1[q]? = s.heap[q]? := fun q hq => by rw [← hH1, Array.getElem?_push, if_neg (Nat.ne_of_lt hq)]
  have hw2 : ev_H D G ad A (w ++ [(2, ev_bits i, List.replicate (ev_bits i) .null)]) H1 := by
    refine ev_H_push hH ?_ z1 o1 hAq had ⟨by simp, Nat.le_of_lt hi⟩
    show H1[ad w.length]? = some (vp_cell (G 2) (ev_bits i, .inr (.inr (.inr (.inr (fun j => ev_rv ad ((List.replicate (ev_bits i) .null).getD j .null)))))))
    rw [← hH.2.2.2, e1, vp_cell_q]
    congr 2
    funext j
    rw [List.getD_eq_getElem?_getD, List.getElem?_replicate]
    split <;> rfl
  have hS1 : va_S A s.heap H1 [] := ⟨by omega, fun x h1 h2 => o1 x h1, fun _ h => by cases h⟩
  rw [hH.2.2.2]
  refine lv_goto hx hb (by decide +kernel : decode cJ7_copyOf_6403c 10 = .ok (.goto 14, 3)) (tgt := 24) (by exact (show ((10 : Nat) : Int) + 14 = ((24 : Nat) : Int) by decide)) ?_
  refine lv_astore_n hx hb (by decide +kernel : decode cJ7_copyOf_6403c 24 = .ok (.astore_n 3, 1)) rfl hl (by decide) (lv' := [(3, .ref (ad w.length)), (0, .ref (ad a)), (1, .int i), (2, .ref mi)]) rfl fun ls' hl' => ?_
  have l0' : ls'[0]? = some (.val (.ref (ad a))) := hl'.2.2 (0, _) (by simp)
  have l1' : ls'[1]? = some (.val (.int i)) := hl'.2.2 (1, _) (by simp)
  have l3' : ls'[3]? = some (.val (.ref (ad w.length))) := hl'.2.2 (3, _) (by simp)
  have hwf := hH.2.2.1 _ (List.mem_of_getElem? hc)
  have hNl : N = vs.length := hwf.1
  have hlt : a < w.length := (List.getElem?_eq_some_iff.mp hc).1
  have hca : (w ++ [(2, ev_bits i, List.replicate (ev_bits i) .null)])[a]? = some (2, N, vs) := by rw [List.getElem?_append_left hlt]; exact hc
  have hcb : (w ++ [(2, ev_bits i, List.replicate (ev_bits i) .null)])[w.length]? = some (2, ev_bits i, List.replicate (ev_bits i) .null) := by simp
  have ha0 := ev_arr_at (G := G) (ad := ad) hca 2 rfl
  have ha1 := ev_arr_at (G := G) (ad := ad) hcb 2 rfl
  refine lv_aload_n hx hb (by decide +kernel : decode cJ7_copyOf_6403c 25 = .ok (.aload_n 0, 1)) rfl l0' ?_
  refine lv_iconst hx hb (by decide +kernel : decode cJ7_copyOf_6403c 26 = .ok (.iconst 0, 1)) (v := 0) (by decide) ?_
  refine lv_aload_n hx hb (by decide +kernel : decode cJ7_copyOf_6403c 27 = .ok (.aload_n 3, 1)) rfl l3' ?_
  refine lv_iconst hx hb (by decide +kernel : decode cJ7_copyOf_6403c 28 = .ok (.iconst 0, 1)) (v := 0) (by decide) ?_
  refine lv_aload_n hx hb (by decide +kernel : decode cJ7_copyOf_6403c 29 = .ok (.aload_n 0, 1)) rfl l0' ?_
  refine va_alen hx hb hK hw2.1 a 2 ha0 (ty := .object "java/lang/Object") rfl (v := Int32.ofNat N) rfl (by decide +kernel : decode cJ7_copyOf_6403c 30 = .ok (.arraylength, 1)) ?_
  refine lv_iload_n hx hb (by decide +kernel : decode cJ7_copyOf_6403c 31 = .ok (.iload_n 1, 1)) rfl l1' ?_
  refine va_mmin hx hb (hml.trans hl'.1.symm) hown (hts _ n1) (hts _ n2) (hts _ n3) (hts _ n4) (Nat.le_refl 1) (by exact (show (1 + (1 + (1 + (1 + 0)))) + 13 ≤ 64 by decide)) (Nat.le_refl _) (Nat.le_refl _) (by decide +kernel : decode cJ7_copyOf_6403c 32 = .ok (.invokestatic 304, 3)) ?_
  have hbN : ev_bits (Int32.ofNat N) = N := by
    show (BitVec.ofNat 32 N).toNat = N
    rw [BitVec.toNat_ofNat]
    exact Nat.mod_eq_of_lt (by omega)
  obtain ⟨g0, gN⟩ := ev_ix (i := Int32.ofNat N) (N := 100000) (by rw [hbN]; omega) (Nat.le_refl _)
  rw [hbN] at gN
  have hmin : (if i < Int32.ofNat N then i else Int32.ofNat N) = Int32.ofNat N := by
    refine if_neg fun q => ?_
    rw [Int32.lt_iff_toInt_lt, ev_bits_toInt, ev_bits_toInt, hbN, if_pos (by omega), if_pos (by omega)] at q
    omega
  rw [hmin]
  have hz0 : (0 : Int32).toNatClampNeg = 0 := by decide
  refine va_copyM (H0 := H1) (A := A) hx hb (hml.trans hl'.1.symm) hown (hts _ a1) (hts _ a2) (hts _ a3) (hts _ a4) hK hw2.1 hw2.2.1 va_S.rf a w.length 2 2 ha0 ha1 (E0 := "java/lang/Object") (E1 := "java/lang/Object") rfl rfl (sp := 0) (dp := 0) (n := Int32.ofNat N) (by decide) (by decide) g0 (by rw [hz0, gN, Nat.zero_add]; exact Nat.le_refl _) (by rw [hz0, gN, Nat.zero_add]; exact hN) (fun j hj y hy => ?_) (Nat.le_refl 1) (by exact (show 0 + (nativeFrameWords "java/lang/System" "arraycopy" 5 + 11) ≤ 64 by decide)) (by decide +kernel : decode cJ7_copyOf_6403c 35 = .ok (.invokestatic 150, 3)) (fun H2 locs2 hP2 hD2 hS2 => ?_)
  · rw [hz0, Nat.zero_add, List.getD_eq_getElem?_getD] at hy
    cases hj2 : vs[j]? with
    | none => rw [hj2] at hy; cases hy
    | some v =>
      rw [hj2] at hy
      rcases hel v (List.mem_of_getElem? hj2) with rfl | ⟨x, rfl, d0, hd0, hdk⟩
      · cases hy
      · cases hy
        have hxl : x < w.length := (List.getElem?_eq_some_iff.mp hd0).1
        exact ev_any (args := #[]) hC b1 b2 hK hNW hw2.1 (by rw [List.getElem?_append_left hxl]; exact hd0) hdk
  · rw [hz0, gN, ev_cpyf hNl] at hP2 hD2
    have hset : (w ++ [(2, ev_bits i, List.replicate (ev_bits i) (.null : Value))]).set w.length (2, ev_bits i, ev_cl (ev_bits i) N vs) = w ++ [(2, ev_bits i, ev_cl (ev_bits i) N vs)] := by
      rw [List.set_append_right _ _ (Nat.le_refl _), Nat.sub_self]
      rfl
    have hset2 : (ev_w G ad (w ++ [(2, ev_bits i, List.replicate (ev_bits i) .null)])).set w.length (ad w.length, .inl (G 2, ev_bits i, .inr (.inr (.inr (.inr (fun j => ev_rv ad ((ev_cl (ev_bits i) N vs).getD j .null))))))) = ev_w G ad (w ++ [(2, ev_bits i, ev_cl (ev_bits i) N vs)]) := by
      rw [← hset, ev_w_set]
      rfl
    rw [hset2] at hP2 hD2
    intro T hT X
    have hz2 : H2.size = s.heap.size + 1 := by
      have q1 : T.heap.size ≤ s.heap.size + 1 := X.same.2.2.1
      rw [hT] at q1
      have q2 := hS2.1
      omega
    have hwq : ev_wf (w ++ [(2, ev_bits i, ev_cl (ev_bits i) N vs)]) := by
      rw [← hset]
      refine ev_wf_set hw2.2.2.1 ⟨?_, Nat.le_of_lt hi⟩
      show ev_bits i = (vs ++ List.replicate (ev_bits i - N) (.null : Value)).length
      rw [List.length_append, List.length_replicate]
      omega
    have hH2 : ev_H D G ad A (w ++ [(2, ev_bits i, ev_cl (ev_bits i) N vs)]) H2 := ⟨hP2, hD2, hwq, by rw [hz2, hH.2.2.2, List.length_append, List.length_singleton, had]⟩
    have hS3 : va_S A s.heap H2 locs2 := ⟨by omega, fun q h1 h2 => (hS2.2.1 q (by omega) h2).trans (hS1.2.1 q h1 h2), hS2.2.2⟩
    refine lv_aload_n hx hb (by decide +kernel : decode cJ7_copyOf_6403c 38 = .ok (.aload_n 3, 1)) rfl l3' ?_ T hT X
    exact W.aret hx hb hr (Or.inr ⟨_, rfl⟩) (v := .ref (ad w.length)) (Or.inr ⟨_, rfl⟩) (fun t ht hW => ⟨rfl, by rw [ht]; exact hH2, hS3.F ht⟩) hS3.2.2 (by decide +kernel : decode cJ7_copyOf_6403c 39 = .ok (.areturn, 1)) hlk
theorem ok_cpy {p : Program} {l : Launch} {d : Nat} {e : Env} {R : Room} {s : State} {m : MethodId} {args : Array Value} {below : List Frame} {meth : Method} {c : Code} {Q : State → Prop} {nL : Nat} {D : va_G} {G : Nat → ClassId} {ad : Nat → Nat} {A : Nat → Prop} {z wE nE : Nat} {α : Type} {r : α} {P : Nat → List Value → List Value → ev_W → Nat → Prop} {rt : Option FieldType}
    (X : ev_X cJ7_copyOf_1904c nL yJ7_copyOf_1904c.cls rt p s m args meth c D G ad A z) (hP : ev_PP p l e R s m args below meth c Q nL D G ad A z wE nE P) (hR : wE - z ≤ R.cells ∧ nE ≤ R.slots) (hd2 : d + 3 ≤ R.frames ∧ 64 * (d + 3) ≤ R.locals) {ci : Nat} {C : vw_C} (hC : vwCl[ci]? = some C) (hcw : ev_cw C.1)
    (hdn : yJ7_copyOf_6403c.cls ≠ "java/lang/invoke/MethodHandle" ∧ yJ7_copyOf_6403c.cls ≠ "java/lang/invoke/VarHandle" ∧ (parseMethodDescriptor yJ7_copyOf_6403c.desc).map (fun d => d.parameters.length) = some 3)
    {Qc : Array Value → State → Outcome → State → Prop} (hQ : Q = MQ below Qc args s (wE - z) nE A) {fin : Option Value → ev_W → Nat → Option α} (hfin : ∀ v w n, fin v w n = some r → w.length = wE ∧ n = nE ∧ ∀ H locs, ev_H D G ad A w H → va_S A s.heap H locs → ∀ t : State, t.heap = H → s.WarmedH t.vm → Qc args s (.returned (v.map (ev_v ad))) t) {ty : FieldType} (hrt : rt = some ty) (hty : (∃ n, ty = .object n) ∨ ∃ t, ty = .array t) : ev_ok P r 0 (ev_cpy fin (ci + 3)) := by
  intro k L S w n hk h
  obtain ⟨a, i, vs, N, hu, hv, rfl, hc0, hN, hi, hel, h1⟩ := ev_cpy_some h
  obtain ⟨e1, e2, h3⟩ := hfin _ _ _ h1
  rw [List.length_append, List.length_singleton] at e1
  rw [hP]
  intro hz
  refine ⟨⟨by omega, by omega⟩, fun H locs ls hH hl hS => ?_⟩
  obtain ⟨hx, hbb, hml, hown, hts, hK, hAO, hNW, hZ, hA, hlk, hr, had⟩ := id X
  have l0 := ev_l_at hl hu (Or.inr (Or.inl ⟨_, rfl⟩))
  have l1 := ev_l_at hl hv (Or.inr (Or.inr ⟨_, rfl⟩))
  obtain ⟨mi, hM⟩ := hNW.2.2.1
  obtain ⟨⟨g1, g2, g3, g4⟩, ⟨c1, c2, c3, c4⟩, -⟩ := id hcw
  have he := ev_arr_at (G := G) (ad := ad) hc0 2 rfl
  refine lv_aload_n hx hbb (by decide +kernel : decode cJ7_copyOf_1904c 0 = .ok (.aload_n 0, 1)) rfl l0 ?_
  refine lv_iload_n hx hbb (by decide +kernel : decode cJ7_copyOf_1904c 1 = .ok (.iload_n 1, 1)) rfl l1 ?_
  refine lv_aload_n hx hbb (by decide +kernel : decode cJ7_copyOf_1904c 2 = .ok (.aload_n 0, 1)) rfl l0 ?_
  refine va_getC hx hbb (hml.trans hl.1.symm) hown (hts _ g1) (va_Dc.use hNW.2.2.2) (hts _ g2) (hts _ g3) (hts _ g4) hM ⟨_, hH.1 a _ he, rfl, va_nmO (hK.2 2 _ rfl).2 rfl⟩ (by omega) (by show (1 + (1 + 0)) + 14 ≤ _; omega) (by decide +kernel : decode cJ7_copyOf_1904c 3 = .ok (.invokevirtual 86, 3)) ?_
  have hM3 := ev_copy3 (l := l) (D := D) (G := G) (ad := ad) (A := A) (mi := mi) hC hcw (had _ hz) hc0 hN hi hel
  refine ev_callW (w1 := w ++ [(2, ev_bits i, ev_cl (ev_bits i) N vs)]) (rv := some (.ref w.length)) (rest := []) (va_runS (As := [.ref (ad a), .int i, .ref mi]) (rest := []) ⟨hx, hbb, hml, hown, hts⟩ hM3 (va_cwS 3 hts (ev_good fun w hw => ?_) rfl rfl rfl hdn ⟨?_, ?_⟩) ⟨ev_blind3, fun U hU hW => ⟨rfl, ev_Bof X hH hS hU hW, hM.moved hW.alike⟩⟩ rfl rfl hl.1 rfl (lv_room (ev_sum (S := []) (ad := ad) (by simp))) (by decide +kernel : decode cJ7_copyOf_1904c 6 = .ok (.invokestatic 300, 3)) ⟨by omega, by omega⟩) hS fun H1 locs1 hH1 hS1 => ?_
  · unfold va_wsS at hw
    rcases List.mem_append.mp hw with hw | hw
    · simp at hw
      rcases hw with rfl | rfl | rfl
      · exact c1
      · exact c2
      · exact c3
    · rcases List.mem_cons.mp hw with rfl | hw
      · exact c4
      · exact hw
  · show 1 + 1 ≤ R.frames
    omega
  · show 8 + (4 + 11) + 64 ≤ R.locals
    omega
  · subst hQ
    have q : wE - z = w.length - z + 1 := by omega
    rw [q, ← e2]
    exact W.aret hx hbb (hr.trans hrt) hty (v := .ref (ad w.length)) (Or.inr ⟨_, rfl⟩) (h3 H1 locs1 hH1 hS1) hS1.2.2 (by decide +kernel : decode cJ7_copyOf_1904c 9 = .ok (.areturn, 1)) hlk
end
